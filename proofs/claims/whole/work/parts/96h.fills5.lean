theorem fills_ok {A : Ab} {x m : llMem} (hp : IPyr A x m) {l : Nat} (hl : l < A.nl) : ∀ (q fuel : Nat), q < fuel → FillsOK A l fuel q := by
  have h12 := row_12 hp hl
  have hlen := row_len hp hl
  have lv := hp.lv hl
  have hsz2 : 2 ≤ A.sz l := lv.2.2.2.2.2.2.2.2.2.2.1
  have hsz6 : A.sz l ≤ 6 := lv.2.2.2.2.2.2.2.2.2.2.2.1
  have hdv3 : A.dv l ≤ 3 := lv.2.2.2.2.2.2.2.2.2.1
  intro q
  induction q with
  | zero =>
    intro fuel hf u Q b R fr best hRl hQ hV hb hbs hR hq hF hA hS hfr hb0 hbf
    cases fuel with
    | zero => omega
    | succ fuel =>
      have hQD : Q.length = A.dv l := by
        by_cases e : Q.length = A.dv l
        · exact e
        · have : A.sz l ≤ (A.dv l - Q.length) * A.sz l := Nat.le_mul_of_pos_left _ (by omega)
          omega
      have hb' : b = [] := List.length_eq_zero_iff.mp (by rw [hQD, Nat.sub_self, Nat.zero_mul] at hq; omega)
      have hR' : R = [] := List.length_eq_zero_iff.mp hRl
      subst hb' hR'
      have hc : compl A l Q [] [] fr = [Q] := by
        unfold compl
        rw [if_pos rfl, hQD, Nat.sub_self, blocks]
        show [Q ++ []] = [Q]
        rw [List.append_nil]
      have hcost := hV.cost hp hsz6
      rw [hc]
      show ∃ u', fx_X12_fills_69_body (fx_X12_fills_69 fuel) u (nI Q.length) (nI 0) (nI fr) (nI (costP (miR A l) Q + 0)) = some (u', ()) ∧ RS A l u' (up1 (costP (miR A l)) best Q) ∧ RF A l u u'
      rw [Nat.add_zero]
      obtain ⟨u', r1, r2, r3⟩ := record_m hp hl (fx_X12_fills_69 fuel) hQD hV hF hA (nI 0) (nI fr)
      unfold fx_X12_fills_69_body
      cases best with
      | none =>
        have h43 : u.1 69 43 = -1 := hS
        rw [if_pos h43]
        exact ⟨u', r1, r2, r3⟩
      | some P =>
        obtain ⟨y1, y2, y3, y4⟩ := hS
        have hcP := y3.cost hp hsz6
        rw [if_neg (fun z => by rw [y1] at z; rcases nI_sub0 (costP (miR A l) P) with w | w; exact w z; omega), y1]
        by_cases e : costP (miR A l) Q < costP (miR A l) P
        · rw [if_pos (lt2 (by omega) (by omega) e)]
          refine ⟨u', r1, ?_, r3⟩
          have : up1 (costP (miR A l)) (some P) Q = some Q := by
            show (if _ then _ else _) = _
            rw [if_pos e]
          rw [this]; exact r2
        · rw [if_neg (nlt2 (by omega) (by omega) (by omega)), up1_no (by omega)]
          exact ⟨u, rfl, ⟨y1, y2, y3, y4⟩, RF.refl _ _ _⟩
  | succ q ih =>
    intro fuel hf u Q b R fr best hRl hQ hV hb hbs hR hq hF hA hS hfr hb0 hbf
    cases fuel with
    | zero => omega
    | succ fuel =>
      have hI := ih fuel (by omega)
      have hQD : Q.length < A.dv l := by
        by_cases e : Q.length < A.dv l
        · exact e
        · rw [show A.dv l - Q.length = 0 by omega, Nat.zero_mul] at hq; omega
      have hcQ := hV.cost hp hsz6
      have hcb := pairSum_le (miR_le hp l) b (fun z hz => List.mem_range.mp (hb.subset hz))
      have hcb2 : 140 * b.length * b.length ≤ 140 * 6 * 6 := Nat.mul_le_mul (Nat.mul_le_mul (Nat.le_refl _) (by omega)) (by omega)
      have hR1 : ∀ z, z ∈ R → z < (rowOf A l).length := fun z hz => List.mem_range.mp (hR.subset hz)
      have hb1 : ∀ z, z ∈ b → z < (rowOf A l).length := fun z hz => List.mem_range.mp (hb.subset hz)
      have key : ∃ u', fx_X12_fills_69_j18 (fx_X12_fills_69 fuel) u (nI Q.length) (nI b.length) (nI fr) (nI (costP (miR A l) Q + pairSum (miR A l) b)) = some (u', ()) ∧ RS A l u' ((compl A l Q b R fr).foldl (up1 (costP (miR A l))) best) ∧ RF A l u u' := by
        have hne : ¬ nI (Q.length * A.sz l) = nI (rowOf A l).length := by
          intro z
          have h1 : Q.length * A.sz l + A.sz l ≤ A.dv l * A.sz l := by
            have := Nat.mul_le_mul_right (A.sz l) (show Q.length + 1 ≤ A.dv l by omega)
            rw [Nat.add_mul, Nat.one_mul] at this; exact this
          have := nI_inj (by omega) (by omega) z
          omega
        unfold fx_X12_fills_69_j18
        rw [hF.1, hF.2.1, pk_mul, if_pos hne, lt_eq]
        by_cases hbe : b = []
        · -- the first that is left
          have hfr0 := hb0 hbe
          subst hbe
          subst hfr0
          cases R with
          | nil => simp at hRl
          | cons a t =>
            have ha := hR1 a (List.mem_cons_self ..)
            obtain ⟨_, hts⟩ := sub_drop hR
            have hat : a ∉ t := (List.nodup_cons.mp (List.nodup_range.sublist hR)).1
            obtain ⟨u', p1, p2, p3⟩ := pick_m hp hl hI (i := a) (nI a) hRl hQD hV hb hbs hR hq hF hA hS (List.mem_cons_self ..) (fun z hz => by simp at hz)
            have hch : child A l Q [] (a :: t) a = compl A l Q [] (a :: t) 0 := by
              rw [child_eq hbs]
              unfold compl
              rw [if_pos rfl, List.flatMap_map, show A.dv l - Q.length = (A.dv l - Q.length - 1) + 1 by omega, blocks, List.map_flatMap]
              have e1 : (a :: t).filter (fun z => decide (a + 1 ≤ z)) = t := by
                rw [List.filter_cons_of_neg (by simp)]
                exact List.filter_eq_self.mpr (fun z hz => decide_eq_true (drop_gt (hts.subset hz)))
              rw [e1, List.length_nil, Nat.sub_zero]
              congr 1
              funext c
              unfold Gc
              rw [filt2, List.filter_cons_of_neg (by simp), List.map_map]
              have e2 : t.filter (fun y => !(y == a)) = t := List.filter_eq_self.mpr (fun z hz => by
                rw [beq_eq_false_iff_ne.mpr (show z ≠ a from fun w => hat (by rw [← w]; exact hz))]; rfl)
              rw [e2]; rfl
            rw [hch] at p2
            obtain ⟨e, f1, f2, f3⟩ := loop_inv (body := fx_X12_fills_69_l79 (fx_X12_fills_69 fuel) (nI Q.length) (nI ([] : List Nat).length) (nI (costP (miR A l) Q + pairSum (miR A l) []))) (fun t' s => (t' ≤ a → s = (u, nI (rowOf A l).length, nI t')) ∧ (t' = a + 1 → s = (u', nI a, nI (a + 1)))) (fun e => RS A l e ((compl A l Q [] (a :: t) 0).foldl (up1 (costP (miR A l))) best) ∧ RF A l u e) (a + 1) llFuel (u, nI (rowOf A l).length, nI 0) ⟨fun _ => rfl, fun q => by omega⟩ (by
              rintro i s hi ⟨g1, _⟩
              have hs := g1 (by omega)
              subst hs
              unfold fx_X12_fills_69_l79
              dsimp only
              rw [if_neg (nle2 (by omega) (by omega) (by omega)), gI_nI (by omega) (by decide), rI_n (by omega)]
              by_cases ei : i = a
              · subst ei
                rw [if_pos ((hA.free (by omega) ha).mpr (List.mem_cons_self ..)), if_neg (show ¬ ¬ nI ([] : List Nat).length = 0 from fun z => z rfl), p1]
                exact ⟨_, rfl, fun q => by omega, fun _ => rfl⟩
              · have hnR : i ∉ a :: t := fun z => by
                  rcases List.mem_cons.mp z with w | w
                  · exact ei w
                  · have := drop_gt (hts.subset w); omega
                unfold fx_X12_fills_69_j222_b79
                rw [if_neg (fun z => hnR ((hA.free (by omega) (by omega)).mp z)), lt_eq, nI_1]
                exact ⟨_, rfl, fun _ => rfl, fun q => by omega⟩) (by
              rintro s ⟨_, g2⟩
              have hs := g2 rfl
              subst hs
              unfold fx_X12_fills_69_l79
              dsimp only
              rw [if_pos (le2 (by omega) (by omega) (by omega))]
              exact ⟨_, rfl, p2, p3⟩) (llF (by omega))
            rw [f1, Option.bind_some]
            exact ⟨e, rfl, f2, f3⟩
        · -- one more of the division
          have hbl : b.length ≠ 0 := fun z => hbe (List.length_eq_zero_iff.mp z)
          have hcm : compl A l Q b R fr = (combos (A.sz l - b.length) (R.filter (fun z => decide (fr ≤ z)))).flatMap (Gc A l Q b R) := by
            unfold compl
            rw [if_neg hbe]; rfl
          rw [hcm]
          obtain ⟨e, f1, f2, f3⟩ := loop_inv (body := fx_X12_fills_69_l79 (fx_X12_fills_69 fuel) (nI Q.length) (nI b.length) (nI (costP (miR A l) Q + pairSum (miR A l) b))) (fun t s => s.2 = (nI (rowOf A l).length, nI (fr + t)) ∧ RF A l u s.1 ∧ ∃ C, combos (A.sz l - b.length) (R.filter (fun z => decide (fr ≤ z))) = C ++ combos (A.sz l - b.length) (R.filter (fun z => decide (fr + t ≤ z))) ∧ RS A l s.1 ((C.flatMap (Gc A l Q b R)).foldl (up1 (costP (miR A l))) best)) (fun e => RS A l e (((combos (A.sz l - b.length) (R.filter (fun z => decide (fr ≤ z)))).flatMap (Gc A l Q b R)).foldl (up1 (costP (miR A l))) best) ∧ RF A l u e) ((rowOf A l).length - fr) llFuel (u, nI (rowOf A l).length, nI fr) ⟨rfl, RF.refl _ _ _, [], rfl, hS⟩ (by
            rintro t ⟨s, v⟩ ht ⟨hv, g1, C, g2, g3⟩
            dsimp only at hv g1 g3
            subst hv
            have hin : fr + t < (rowOf A l).length := by omega
            have hAs := hA.rf hR1 hb1 g1
            have hFs : FB A l s := hF.of (g1.2.1 41 (by decide)) (g1.2.1 42 (by decide)) (g1.1 89 (by decide)).1
            have hff := filt_from (i := fr + t) hR
            unfold fx_X12_fills_69_l79
            dsimp only
            rw [if_neg (nle2 (by omega) (by omega) hin), gI_nI (by omega) (by decide), rI_n (by omega)]
            by_cases ei : fr + t ∈ R
            · rw [if_pos ((hAs.free (by omega) hin).mpr ei), if_pos (show ¬ nI b.length = 0 from fun z => hbl (nI_inj (b := 0) (by omega) (by decide) z))]
              obtain ⟨u', p1, p2, p3⟩ := pick_m hp hl hI (i := fr + t) (nI (rowOf A l).length) hRl hQD hV hb hbs hR hq hFs hAs g3 ei (fun z hz => by have := hbf z hz; omega)
              rw [p1]
              refine ⟨_, rfl, rfl, g1.trans p3, C ++ (combos (A.sz l - b.length - 1) (R.filter (fun z => decide (fr + t + 1 ≤ z)))).map (fun c => (fr + t) :: c), ?_, ?_⟩
              · rw [g2, hff, if_pos ei, List.append_assoc]
                congr 1
                have es : A.sz l - b.length = (A.sz l - b.length - 1) + 1 := by omega
                rw [es, combos_cons, Nat.add_sub_cancel]; rfl
              · dsimp only
                rw [List.flatMap_append, List.foldl_append, ← child_eq hbs]; exact p2
            · unfold fx_X12_fills_69_j222_b79
              rw [if_neg (fun z => ei ((hAs.free (by omega) hin).mp z)), lt_eq, nI_1]
              refine ⟨_, rfl, rfl, g1, C, ?_, g3⟩
              rw [g2, hff, if_neg ei]; rfl) (by
            rintro ⟨s, v⟩ ⟨hv, g1, C, g2, g3⟩
            dsimp only at hv g1 g3
            subst hv
            unfold fx_X12_fills_69_l79
            dsimp only
            rw [if_pos (le2 (by omega) (by omega) (by omega))]
            have e0 : R.filter (fun z => decide (fr + ((rowOf A l).length - fr) ≤ z)) = [] := by
              rw [List.filter_eq_nil_iff]
              intro z hz
              have := hR1 z hz
              simp; omega
            have e9 : combos (A.sz l - b.length) [] = [] := combos_none (by rw [List.length_nil]; omega)
            rw [e0, e9, List.append_nil] at g2
            rw [g2]
            exact ⟨_, rfl, g3, g1⟩) (llF (by omega))
          rw [f1, Option.bind_some]
          exact ⟨e, rfl, f2, f3⟩
      show ∃ u', fx_X12_fills_69_body (fx_X12_fills_69 fuel) u (nI Q.length) (nI b.length) (nI fr) (nI (costP (miR A l) Q + pairSum (miR A l) b)) = some (u', ()) ∧ _
      unfold fx_X12_fills_69_body
      cases best with
      | none =>
        have h43 : u.1 69 43 = -1 := hS
        rw [if_pos h43]
        exact key
      | some P =>
        obtain ⟨y1, y2, y3, y4⟩ := hS
        have hcP := y3.cost hp hsz6
        rw [if_neg (fun z => by rw [y1] at z; rcases nI_sub0 (costP (miR A l) P) with w | w; exact w z; omega), y1]
        by_cases e : costP (miR A l) Q + pairSum (miR A l) b < costP (miR A l) P
        · rw [if_pos (lt2 (by omega) (by omega) e)]
          exact key
        · rw [if_neg (nlt2 (by omega) (by omega) (by omega)), up1_prune (fun p hp' => by have := compl_cost hp'; omega)]
          exact ⟨u, rfl, ⟨y1, y2, y3, y4⟩, RF.refl _ _ _⟩
