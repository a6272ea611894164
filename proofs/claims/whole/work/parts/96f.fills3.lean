def Gc (A : Ab) (l : Nat) (Q : List (List Nat)) (b R c : List Nat) : List (List (List Nat)) := (blocks (A.sz l) (A.dv l - Q.length - 1) (R.filter (fun z => !c.contains z))).map (fun P => Q ++ ((b ++ c) :: P))
def child (A : Ab) (l : Nat) (Q : List (List Nat)) (b R : List Nat) (i : Nat) : List (List (List Nat)) := if b.length + 1 = A.sz l then compl A l (Q ++ [b ++ [i]]) [] (R.filter (fun y => !(y == i))) 0 else compl A l Q (b ++ [i]) (R.filter (fun y => !(y == i))) (i + 1)
theorem filt2 (R c : List Nat) (i : Nat) : R.filter (fun z => !(i :: c).contains z) = (R.filter (fun y => !(y == i))).filter (fun z => !c.contains z) := by
  rw [List.filter_filter]
  refine List.filter_congr (fun z _ => ?_)
  rw [List.contains_cons]
  cases (z == i) <;> cases c.contains z <;> rfl
theorem filt3 (R : List Nat) (i : Nat) : (R.filter (fun y => !(y == i))).filter (fun z => decide (i + 1 ≤ z)) = R.filter (fun z => decide (i + 1 ≤ z)) := by
  rw [List.filter_filter]
  refine List.filter_congr (fun z _ => ?_)
  by_cases e : i + 1 ≤ z
  · rw [decide_eq_true e, beq_eq_false_iff_ne.mpr (show z ≠ i by omega)]; rfl
  · rw [decide_eq_false e]; rfl
theorem child_eq {A : Ab} {l : Nat} {Q : List (List Nat)} {b R : List Nat} {i : Nat} (hb : b.length < A.sz l) : child A l Q b R i = ((combos (A.sz l - b.length - 1) (R.filter (fun z => decide (i + 1 ≤ z)))).map (fun c => i :: c)).flatMap (Gc A l Q b R) := by
  rw [List.flatMap_map]
  unfold child
  by_cases e : b.length + 1 = A.sz l
  · rw [if_pos e, show A.sz l - b.length - 1 = 0 by omega]
    unfold compl
    rw [if_pos rfl, combos, List.flatMap_singleton]
    unfold Gc
    rw [filt2, show (R.filter (fun y => !(y == i))).filter (fun z => !([] : List Nat).contains z) = R.filter (fun y => !(y == i)) from List.filter_eq_self.mpr (fun z _ => rfl), List.length_append, List.length_singleton, Nat.sub_add_eq]
    refine List.map_congr_left (fun P _ => ?_)
    rw [List.append_assoc]; rfl
  · rw [if_neg e]
    unfold compl
    rw [if_neg (by simp), filt3, List.length_append, List.length_singleton, show A.sz l - (b.length + 1) = A.sz l - b.length - 1 by omega]
    congr 1
    funext c
    unfold Gc
    rw [filt2]
    refine List.map_congr_left (fun P _ => ?_)
    rw [List.append_assoc]; rfl
def FillsOK (A : Ab) (l fuel q : Nat) : Prop := ∀ (u : llMem) (Q : List (List Nat)) (b R : List Nat) (fr : Nat) (best : Option (List (List Nat))), R.length = q → Q.length ≤ A.dv l → VB A l Q → b.Sublist (List.range (rowOf A l).length) → b.length < A.sz l → R.Sublist (List.range (rowOf A l).length) → q + b.length = (A.dv l - Q.length) * A.sz l → FB A l u → AS A l u Q b R → RS A l u best → fr ≤ (rowOf A l).length → (b = [] → fr = 0) → (∀ z, z ∈ b → z < fr) →
  ∃ u', fx_X12_fills_69 fuel u (nI Q.length) (nI b.length) (nI fr) (nI (costP (miR A l) Q + pairSum (miR A l) b)) = some (u', ()) ∧ RS A l u' ((compl A l Q b R fr).foldl (up1 (costP (miR A l))) best) ∧ RF A l u u'
/-- one is picked -/
theorem pick_m {A : Ab} {x m u : llMem} (hp : IPyr A x m) {l : Nat} (hl : l < A.nl) {fuel q : Nat} (hI : FillsOK A l fuel q) {Q : List (List Nat)} {b R : List Nat} {i : Nat} {best : Option (List (List Nat))} (v5 : Int32) (hRl : R.length = q + 1) (hQ : Q.length < A.dv l) (hV : VB A l Q) (hb : b.Sublist (List.range (rowOf A l).length)) (hbs : b.length < A.sz l) (hR : R.Sublist (List.range (rowOf A l).length)) (hq : q + 1 + b.length = (A.dv l - Q.length) * A.sz l) (hF : FB A l u) (hA : AS A l u Q b R) (hS : RS A l u best) (hi : i ∈ R) (hbi : ∀ z, z ∈ b → z < i) :
    ∃ u', fx_X12_fills_69_j108_b79 (fx_X12_fills_69 fuel) u (nI Q.length) (nI b.length) (nI (costP (miR A l) Q + pairSum (miR A l) b)) v5 (nI i) = some (.inl (u', v5, nI (i + 1))) ∧ RS A l u' ((child A l Q b R i).foldl (up1 (costP (miR A l))) best) ∧ RF A l u u' := by
  have h12 := row_12 hp hl
  have lv := hp.lv hl
  have hsz2 : 2 ≤ A.sz l := lv.2.2.2.2.2.2.2.2.2.2.1
  have hsz6 : A.sz l ≤ 6 := lv.2.2.2.2.2.2.2.2.2.2.2.1
  have hdv3 : A.dv l ≤ 3 := lv.2.2.2.2.2.2.2.2.2.1
  have hin : i < (rowOf A l).length := List.mem_range.mp (hR.subset hi)
  have hRn : R.Nodup := List.nodup_range.sublist hR
  have hlen := fne_len hRn hi
  have hbn := sub_snoc hb hin hbi
  unfold fx_X12_fills_69_j108_b79 fx_X12_fills_69_j214_b79 fx_X12_fills_69_j222_b79
  rw [sumF hp hl hF _ _ _ _ hin hb (fun j hj => hA.div (by omega) hj), Option.bind_some, gI_nI (by omega) (by decide), nI_clamp (by omega)]
  simp only [lt_eq]
  have e42 : (llSI u 90 i (nI Q.length)).1 69 42 = nI (A.sz l) := by rw [SI_ne (by decide)]; exact hF.2.1
  rw [e42, nI_1, nI_1, nI_1, nI_add, Nat.add_assoc, ← pairSum_snoc]
  simp only [gI_nI (show i < 12 by omega) (show 12 < 2 ^ 31 by decide)]
  have hF1 : FB A l (llSI u 90 i (nI Q.length)) := hF.of (by rw [SI_ne (by decide)]) (by rw [SI_ne (by decide)]) (by rw [SI_ne (by decide)])
  have hA1 := hA.more hi
  have hS1 := hS.w90 i (nI Q.length)
  have back : ∀ u6, RF A l (llSI u 90 i (nI Q.length)) u6 → RF A l u (llSI u6 90 i (-1)) := fun u6 h6 => by
    refine ⟨((Sm.SI (by decide)).trans h6.1).trans (Sm.SI (by decide)), fun j hj => ?_, fun z hz => ?_⟩
    · rw [SI_ne (by decide), h6.2.1 j hj, SI_ne (by decide)]
    · rw [SI_same]
      by_cases e : z = i
      · rw [e, upd_same]; exact (hA.1 i hi).symm
      · rw [upd_ne e, h6.2.2 z hz, SI_same, upd_ne e]
  unfold child
  by_cases e : b.length + 1 = A.sz l
  · rw [e, if_neg (fun z => z rfl), if_pos rfl]
    have hV' : VB A l (Q ++ [b ++ [i]]) := fun c hc => by
      rcases List.mem_append.mp hc with w | w
      · exact hV c w
      · rw [List.mem_singleton.mp w]; exact ⟨hbn, by rw [List.length_append, List.length_singleton]; exact e⟩
    have hcs : costP (miR A l) (Q ++ [b ++ [i]]) + pairSum (miR A l) [] = costP (miR A l) Q + pairSum (miR A l) (b ++ [i]) := by
      rw [costP_app]; show _ + (pairSum (miR A l) (b ++ [i]) + 0) + 0 = _; omega
    have hmul : (A.dv l - Q.length) * A.sz l = (A.dv l - (Q.length + 1)) * A.sz l + A.sz l := by
      rw [show A.dv l - Q.length = (A.dv l - (Q.length + 1)) + 1 by omega, Nat.add_mul, Nat.one_mul]
    obtain ⟨u6, c1, c2, c3⟩ := hI (llSI u 90 i (nI Q.length)) (Q ++ [b ++ [i]]) [] (R.filter (fun y => !(y == i))) 0 best (by omega) (by rw [List.length_append, List.length_singleton]; omega) hV' (List.nil_sublist _) (by simp; omega) (List.filter_sublist.trans hR) (by rw [List.length_append, List.length_singleton, List.length_nil]; omega) hF1 hA1.full hS1 (by omega) (fun _ => rfl) (fun z hz => by simp at hz)
    rw [hcs, List.length_append, List.length_singleton, List.length_nil] at c1
    rw [show (0 : Int32) = nI 0 from rfl] 
    rw [c1, bd_mk]
    exact ⟨_, rfl, c2.w90 i (-1), back u6 c3⟩
  · rw [if_pos (fun z => e (nI_inj (by omega) (by omega) z)), if_neg e]
    obtain ⟨u6, c1, c2, c3⟩ := hI (llSI u 90 i (nI Q.length)) Q (b ++ [i]) (R.filter (fun y => !(y == i))) (i + 1) best (by omega) (by omega) hV hbn (by rw [List.length_append, List.length_singleton]; omega) (List.filter_sublist.trans hR) (by rw [List.length_append, List.length_singleton]; omega) hF1 hA1 hS1 (by omega) (fun q => by simp at q) (fun z hz => by
      rcases List.mem_append.mp hz with w | w
      · have := hbi z w; omega
      · rw [List.mem_singleton.mp w]; omega)
    rw [List.length_append, List.length_singleton] at c1
    rw [c1, bd_mk]
    exact ⟨_, rfl, c2.w90 i (-1), back u6 c3⟩
