theorem choose_x {A : Ab} {x m : llMem} (hp : IPyr A x m) {l : Nat} (hl : l < A.nl) : ∀ (r fuel k : Nat) (u : llMem) (Q : List (List Nat)) (R : List Nat) (best : Option (List (List Nat))), r < fuel → k + (r + 1) = A.dv l → Q.length = k → VB A l Q → R.Sublist (List.range (rowOf A l).length) → R.length = (r + 1) * A.sz l → CB A l u → (∀ i, i < k → u.1 61 i = nI (mkN (Q.getD i []))) → BS A l u best →
    ∃ u', fx_X4_choose_52 fuel u (nI k) (nI (mkN R)) (nI (costP (miR A l) Q)) = some (u', ()) ∧ BS A l u' (((blocks (A.sz l) (r + 1) R).map (fun P => Q ++ P)).foldl (up1 (costP (miR A l))) best) ∧ CF k u u' := by
  have h12 := row_12 hp hl
  have lv := hp.lv hl
  have hsz2 : 2 ≤ A.sz l := lv.2.2.2.2.2.2.2.2.2.2.1
  have hsz6 : A.sz l ≤ 6 := lv.2.2.2.2.2.2.2.2.2.2.2.1
  have hdv3 : A.dv l ≤ 3 := lv.2.2.2.2.2.2.2.2.2.1
  have h924 := combos_924 (rowOf A l).length (by omega) (A.sz l) (by omega)
  intro r
  induction r with
  | zero =>
    intro fuel k u Q R best hf hk hQ hV hR hRl hC h61 hb
    cases fuel with
    | zero => omega
    | succ fuel =>
      obtain ⟨u', a1, a2, a3⟩ := lastC_x hp hl (fx_X4_choose_52 fuel) hk hQ hV hR (by omega) hC h61 hb
      refine ⟨u', a1, ?_, a3⟩
      rw [blocks_one (s := A.sz l) (R := R) (by omega) (by omega)]
      exact a2
  | succ r ih =>
    intro fuel k u Q R best hf hk hQ hV hR hRl hC h61 hb
    cases fuel with
    | zero => omega
    | succ fuel =>
      cases R with
      | nil => rw [List.length_nil, Nat.add_mul, Nat.add_mul] at hRl; omega
      | cons a t =>
        obtain ⟨ha, hts⟩ := sub_drop hR
        have hRn : (a :: t).Nodup := List.nodup_range.sublist hR
        have hat : a ∉ t := (List.nodup_cons.mp hRn).1
        have htn : t.Nodup := (List.nodup_cons.mp hRn).2
        have hR12 : ∀ z, z ∈ a :: t → z < 12 := fun z hz => by have := List.mem_range.mp (hR.subset hz); omega
        have hm := mk_lt hR12
        have hlen : t.length + 1 = (r + 1) * A.sz l + A.sz l := by
          rw [List.length_cons, Nat.add_mul (r + 1) 1, Nat.one_mul] at hRl; exact hRl
        have hrs : A.sz l ≤ (r + 1) * A.sz l := Nat.le_mul_of_pos_left _ (by omega)
        have hds : t.length ≤ (rowOf A l).length - (a + 1) := by
          have := hts.length_le
          rw [List.length_drop, List.length_range] at this; exact this
        have hlow : nI (mkN (a :: t)) &&& (-(nI (mkN (a :: t)))) = nI (2 ^ a) := low2 hm (by omega) (by rw [mk_bit]; exact contains_t (List.mem_cons_self ..)) (fun i hi => by
          rw [mk_bit]
          refine contains_f (fun z => ?_)
          rcases List.mem_cons.mp z with z | z
          · omega
          · have := drop_gt (hts.subset z); omega)
        have hpn := posN_next (n := (rowOf A l).length) (s := A.sz l) (a := a) (by omega) ha
        have hpl := posN_le (rowOf A l).length (A.sz l) (a + 1)
        generalize hM : combos (A.sz l - 1) ((List.range (rowOf A l).length).drop (a + 1)) = M at *
        have hMf : M.filter (fun b => b.all (fun z => t.contains z)) = combos (A.sz l - 1) t := by
          rw [← hM]
          exact combos_filter hts (List.nodup_range.sublist (List.drop_sublist _ _)) (A.sz l - 1)
        let G : List Nat → List (List (List Nat)) := fun b => (blocks (A.sz l) (r + 1) (t.filter (fun z => !(b.contains z)))).map (fun P => Q ++ ((a :: b) :: P))
        have hgoal : (blocks (A.sz l) (r + 1 + 1) (a :: t)).map (fun P => Q ++ P) = (M.filter (fun b => b.all (fun z => t.contains z))).flatMap G := by
          rw [hMf, blocks, List.map_flatMap]
          congr 1
          funext b
          show List.map _ (List.map _ _) = List.map _ _
          rw [List.map_map]; rfl
        rw [hgoal]
        show ∃ u', fx_X4_choose_52_body (fx_X4_choose_52 fuel) u (nI k) (nI (mkN (a :: t))) (nI (costP (miR A l) Q)) = some (u', ()) ∧ _
        unfold fx_X4_choose_52_body
        rw [hC.1.2.2.1, pk_m1' (by omega), if_pos (lt2 (by omega) (by omega) (by omega)), hlow, low1 a (by omega), Option.bind_some, hC.1.1, if_pos (lt2 (by omega) (by omega) ha), gI_nI (by omega) (by decide), rI_n (by omega), hC.2.2 a (by omega), lt_eq]
        obtain ⟨e, q1, q2, q3⟩ := loop_inv (body := fx_X4_choose_52_l92 (fx_X4_choose_52 fuel) (nI k) (nI (mkN (a :: t))) (nI (costP (miR A l) Q)) (nI a)) (fun i s => s.2 = nI (posN (rowOf A l).length (A.sz l) a + i) ∧ CF k u s.1 ∧ BS A l s.1 ((((M.take i).filter (fun b => b.all (fun z => t.contains z))).flatMap G).foldl (up1 (costP (miR A l))) best)) (fun e => CF k u e ∧ BS A l e (((M.filter (fun b => b.all (fun z => t.contains z))).flatMap G).foldl (up1 (costP (miR A l))) best)) M.length llFuel (u, nI (posN (rowOf A l).length (A.sz l) a)) ⟨rfl, CF.refl _ _, hb⟩ (by
          rintro i ⟨s, v⟩ hi ⟨hv, f1, f2⟩
          dsimp only at hv f1 f2
          subst hv
          have Cs := f1.cb hC
          have hget := posN_get (n := (rowOf A l).length) (s := A.sz l) (a := a) (i := i) (by omega) ha (by rw [hM]; exact hi)
          rw [hM] at hget
          obtain ⟨_, g2, g3⟩ := hget
          have hbm : M.getD i [] ∈ M := by
            rw [List.getD_eq_getElem?_getD, List.getElem?_eq_getElem hi]; exact List.getElem_mem hi
          have htk : M.take (i + 1) = M.take i ++ [M.getD i []] := by
            rw [List.take_succ_eq_append_getElem hi, List.getD_eq_getElem?_getD, List.getElem?_eq_getElem hi]; rfl
          generalize M.getD i [] = b at *
          obtain ⟨hb1, hb2⟩ := combos_sub (k := A.sz l - 1) (L := (List.range (rowOf A l).length).drop (a + 1)) (by rw [hM]; exact hbm)
          have hbgt : ∀ z, z ∈ b → z ≠ a := fun z hz => by have := drop_gt (hb1.subset hz); omega
          have hS : (a :: b) ∈ combos (A.sz l) (List.range (rowOf A l).length) := by
            rw [← g3, List.getD_eq_getElem?_getD, List.getElem?_eq_getElem g2]; exact List.getElem_mem g2
          have hSs := (combos_sub hS).1
          have hSl := (combos_sub hS).2
          have hS12 : ∀ z, z ∈ a :: b → z < 12 := fun z hz => by have := List.mem_range.mp (hSs.subset hz); omega
          have hmS := mk_lt hS12
          have h58 : s.1 58 (posN (rowOf A l).length (A.sz l) a + i) = nI (mkN (a :: b)) := by rw [Cs.2.1.2.1 _ g2, g3]
          have h59 : s.1 59 (mkN (a :: b)) = nI (pairSum (miR A l) (a :: b)) := Cs.2.1.2.2 _ hS
          have hV' : VB A l (Q ++ [a :: b]) := fun c hc => by
            rcases List.mem_append.mp hc with q | q
            · exact hV c q
            · rw [List.mem_singleton.mp q]; exact ⟨hSs, hSl⟩
          have hcost := hV'.cost hp hsz6
          rw [List.length_append, List.length_singleton, hQ] at hcost
          have hcs : costP (miR A l) (Q ++ [a :: b]) = costP (miR A l) Q + pairSum (miR A l) (a :: b) := by
            rw [costP_app]; show _ + (pairSum (miR A l) (a :: b) + 0) = _; rw [Nat.add_zero]
          unfold fx_X4_choose_52_l92 fx_X4_choose_52_j179_b92
          dsimp only
          rw [nI_1, gI_nI (by omega) (by decide), rI_n (by omega), Cs.2.2 (a + 1) (by omega), if_neg (nle2 (by omega) (by omega) (by omega)), Cs.2.1.1, if_neg (nle2 (by omega) (by omega) g2), gI_nI (by omega) (by decide), rI_n (by omega), h58, lt_eq, mk_diff]
          simp only [lt_eq, nI_1]
          have hnx : nI (posN (rowOf A l).length (A.sz l) a + i + 1) = nI (posN (rowOf A l).length (A.sz l) a + (i + 1)) := by rw [Nat.add_assoc]
          rw [hnx, htk, List.filter_append, List.flatMap_append, List.foldl_append]
          cases hall : b.all (fun z => t.contains z)
          · have hne : ¬ nI (mkN ((a :: b).filter (fun z => !(a :: t).contains z))) = 0 := by
              intro z
              have hlt : mkN ((a :: b).filter (fun z => !(a :: t).contains z)) < 2 ^ 12 := mk_lt (fun y hy => hS12 y (List.mem_filter.mp hy).1)
              have z0 := nI_inj (b := 0) (by omega) (by decide) z
              rw [mk_zero, List.filter_eq_nil_iff] at z0
              have : b.all (fun z => t.contains z) = true := by
                rw [List.all_eq_true]
                intro y hy
                have := z0 y (List.mem_cons_of_mem _ hy)
                simp only [Bool.not_eq_true', Bool.not_eq_false] at this
                rw [List.contains_iff_mem] at this ⊢
                rcases List.mem_cons.mp this with w | w
                · exact absurd w (hbgt y hy)
                · exact w
              rw [this] at hall; cases hall
            rw [if_pos hne, List.filter_cons_of_neg (by rw [hall]; decide)]
            exact ⟨_, rfl, rfl, f1, f2⟩
          · have hbt : ∀ y, y ∈ b → y ∈ t := fun y hy => by
              rw [List.all_eq_true] at hall
              exact List.contains_iff_mem.mp (hall y hy)
            have hze : (a :: b).filter (fun z => !(a :: t).contains z) = [] := by
              rw [List.filter_eq_nil_iff]
              intro y hy
              have : y ∈ a :: t := by
                rcases List.mem_cons.mp hy with w | w
                · rw [w]; exact List.mem_cons_self ..
                · exact List.mem_cons_of_mem _ (hbt y w)
              rw [contains_t this]; decide
            have hbin : b ∈ combos (A.sz l - 1) t := by
              rw [← hMf]; exact List.mem_filter.mpr ⟨hbm, hall⟩
            have hbs := (combos_sub hbin).1
            rw [hze, if_neg (show ¬ ¬ nI (mkN []) = 0 from fun z => z rfl), gI_nI (by omega) (by decide), rI_n (by omega), h59, nI_add, ← hcs, List.filter_cons_of_pos (p := fun (b : List Nat) => b.all (fun z => t.contains z)) (l := []) hall, List.filter_nil, List.flatMap_singleton]
            generalize ((((M.take i).filter (fun b => b.all (fun z => t.contains z))).flatMap G).foldl (up1 (costP (miR A l))) best) = bi at *
            by_cases e : ∃ P, bi = some P ∧ costP (miR A l) P ≤ costP (miR A l) (Q ++ [a :: b])
            · rw [if_pos ((f2.cmp hp hsz6 hdv3 (by omega)).mpr e)]
              obtain ⟨P, rfl, q⟩ := e
              refine ⟨_, rfl, rfl, f1, ?_⟩
              rw [up1_prune]
              · exact f2
              · intro p hpG
                obtain ⟨P', _, rfl⟩ := List.mem_map.mp hpG
                have : costP (miR A l) (Q ++ ((a :: b) :: P')) = costP (miR A l) (Q ++ [a :: b]) + costP (miR A l) P' := by
                  rw [← costP_app, List.append_assoc]; rfl
                omega
            · rw [if_neg (fun z => e ((f2.cmp hp hsz6 hdv3 (by omega)).mp z)), gI_nI (by omega) (by decide), nI_clamp (by omega), rI_n (by omega), SI_ne (by decide), h59, nI_add, ← hcs, mk_diff]
              have hdf : (a :: t).filter (fun z => !(a :: b).contains z) = t.filter (fun z => !b.contains z) := by
                rw [List.filter_cons_of_neg (by rw [contains_t (List.mem_cons_self ..)]; decide)]
                refine List.filter_congr (fun z hz => ?_)
                have : z ≠ a := fun q => hat (q ▸ hz)
                congr 1
                rw [List.contains_eq_mem, List.contains_eq_mem, decide_eq_decide, List.mem_cons]
                exact ⟨fun y => by rcases y with y | y; exact absurd y this; exact y, Or.inr⟩
              rw [hdf]
              have CF1 : CF k s (llSI s 61 k (nI (mkN (a :: b)))) := ⟨Sm.SI (by decide), fun z _ => by rw [SI_ne (by decide)], fun z hz => by rw [SI_same, upd_ne (by omega)]⟩
              have BS1 : BS A l (llSI s 61 k (nI (mkN (a :: b)))) bi := by
                cases bi with
                | none => show _ = _; rw [SI_ne (by decide)]; exact f2
                | some P =>
                  obtain ⟨y1, y2, y3, y4⟩ := f2
                  exact ⟨by rw [SI_ne (by decide)]; exact y1, y2, y3, fun z hz => by rw [SI_ne (by decide)]; exact y4 z hz⟩
              have hfl := filt_diff htn hbs
              obtain ⟨u', a1, a2, a3⟩ := ih fuel (k + 1) (llSI s 61 k (nI (mkN (a :: b)))) (Q ++ [a :: b]) (t.filter (fun z => !b.contains z)) bi (by omega) (by omega) (by rw [List.length_append, List.length_singleton, hQ]) hV' ((List.filter_sublist).trans (hts.trans (List.drop_sublist _ _))) (by omega) (CF1.cb Cs) (fun z hz => by
                rw [SI_same]
                by_cases ez : z = k
                · rw [ez, upd_same, ← hQ, List.getD_eq_getElem?_getD, List.getElem?_append_right (Nat.le_refl _), Nat.sub_self]; rfl
                · rw [upd_ne ez, f1.2.2 z (by omega), h61 z (by omega), List.getD_eq_getElem?_getD, List.getD_eq_getElem?_getD, List.getElem?_append_left (show z < Q.length by omega)]) BS1
              rw [a1, bd_mk, gI_nI (show mkN (a :: b) < 4096 by omega) (by decide)]
              have a4 : CF k (llSI s 61 k (nI (mkN (a :: b)))) u' := ⟨a3.1, a3.2.1, fun z hz => a3.2.2 z (by omega)⟩
              refine ⟨_, rfl, rfl, (f1.trans CF1).trans a4, ?_⟩
              have eG : (blocks (A.sz l) (r + 1) (t.filter (fun z => !b.contains z))).map (fun P => (Q ++ [a :: b]) ++ P) = G b := by
                refine List.map_congr_left (fun P _ => ?_)
                rw [List.append_assoc]; rfl
              rw [eG] at a2
              exact a2) (by
          rintro ⟨s, v⟩ ⟨hv, f1, f2⟩
          dsimp only at hv f1 f2
          subst hv
          have Cs := f1.cb hC
          rw [List.take_length] at f2
          unfold fx_X4_choose_52_l92
          dsimp only
          rw [nI_1, gI_nI (by omega) (by decide), rI_n (by omega), Cs.2.2 (a + 1) (by omega), if_pos (le2 (by omega) (by omega) (by omega))]
          exact ⟨_, rfl, f1, f2⟩) (llF (by omega))
        rw [q1, Option.bind_some]
        exact ⟨e, rfl, q3, q2⟩
