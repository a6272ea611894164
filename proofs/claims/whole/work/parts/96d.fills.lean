/-! the reference's search -/
def FB (A : Ab) (l : Nat) (u : llMem) : Prop := u.1 69 41 = nI (rowOf A l).length ∧ u.1 69 42 = nI (A.sz l) ∧ ∀ a b, a < (rowOf A l).length → b < (rowOf A l).length → u.1 89 (12 * a + b) = nI (miR A l a b)
def RS (A : Ab) (l : Nat) (u : llMem) : Option (List (List Nat)) → Prop
  | none => u.1 69 43 = -1
  | some P => u.1 69 43 = nI (costP (miR A l) P) ∧ P.length = A.dv l ∧ VB A l P ∧ ∀ i, i < (rowOf A l).length → u.1 91 i = nI (ixP P i)
def RF (A : Ab) (l : Nat) (u u' : llMem) : Prop := Sm [69, 90, 91] u u' ∧ (∀ j, j ≠ 43 → u'.1 69 j = u.1 69 j) ∧ ∀ i, i < (rowOf A l).length → u'.1 90 i = u.1 90 i
theorem RF.refl (A : Ab) (l : Nat) (u : llMem) : RF A l u u := ⟨Sm.refl _ _, fun _ _ => rfl, fun _ _ => rfl⟩
theorem RF.trans {A : Ab} {l : Nat} {u v w : llMem} (h1 : RF A l u v) (h2 : RF A l v w) : RF A l u w := ⟨h1.1.trans h2.1, fun j hj => (h2.2.1 j hj).trans (h1.2.1 j hj), fun i hi => (h2.2.2 i hi).trans (h1.2.2 i hi)⟩
theorem FB.of {A : Ab} {l : Nat} {u u' : llMem} (h : FB A l u) (h41 : u'.1 69 41 = u.1 69 41) (h42 : u'.1 69 42 = u.1 69 42) (h89 : u'.1 89 = u.1 89) : FB A l u' := by
  unfold FB
  rw [h41, h42, h89]; exact h
def compl (A : Ab) (l : Nat) (Q : List (List Nat)) (b R : List Nat) (fr : Nat) : List (List (List Nat)) := if b = [] then (blocks (A.sz l) (A.dv l - Q.length) R).map (fun P => Q ++ P) else (combos (A.sz l - b.length) (R.filter (fun z => decide (fr ≤ z)))).flatMap (fun c => (blocks (A.sz l) (A.dv l - Q.length - 1) (R.filter (fun z => !c.contains z))).map (fun P => Q ++ ((b ++ c) :: P)))
theorem pairSum_mono (f : Nat → Nat → Nat) (b c : List Nat) : pairSum f b ≤ pairSum f (b ++ c) := by
  induction b with
  | nil => exact Nat.zero_le _
  | cons a b ih =>
    show (b.map (f a)).sum + pairSum f b ≤ ((b ++ c).map (f a)).sum + pairSum f (b ++ c)
    rw [List.map_append, List.sum_append]; omega
theorem compl_cost {A : Ab} {l : Nat} {Q : List (List Nat)} {b R : List Nat} {fr : Nat} {p : List (List Nat)} (h : p ∈ compl A l Q b R fr) : costP (miR A l) Q + pairSum (miR A l) b ≤ costP (miR A l) p := by
  unfold compl at h
  by_cases e : b = []
  · rw [if_pos e] at h
    obtain ⟨P, _, rfl⟩ := List.mem_map.mp h
    rw [costP_app, e]
    show _ + 0 ≤ _
    omega
  · rw [if_neg e, List.mem_flatMap] at h
    obtain ⟨c, _, h⟩ := h
    obtain ⟨P, _, rfl⟩ := List.mem_map.mp h
    rw [costP_app]
    show _ ≤ _ + (pairSum (miR A l) (b ++ c) + costP (miR A l) P)
    have := pairSum_mono (miR A l) b c
    omega
theorem ixP_app_l {Q : List (List Nat)} {b : List Nat} {i : Nat} (h : ixP Q i < Q.length) : ixP (Q ++ [b]) i = ixP Q i := by
  unfold ixP at h ⊢
  rw [List.findIdx_append, if_pos h]
theorem ixP_app_r {Q : List (List Nat)} {b : List Nat} {i : Nat} (h : ∀ c, c ∈ Q → i ∉ c) (hb : i ∈ b) : ixP (Q ++ [b]) i = Q.length := by
  unfold ixP
  have e : Q.findIdx (fun b => b.contains i) = Q.length := by
    rw [List.findIdx_eq_length]
    intro c hc
    exact contains_f (h c hc)
  rw [List.findIdx_append, e, if_neg (by omega)]
  rw [List.findIdx_cons, contains_t hb]; exact Nat.zero_add _
/-- how things stand in the search -/
def AS (A : Ab) (l : Nat) (u : llMem) (Q : List (List Nat)) (b R : List Nat) : Prop := (∀ i, i ∈ R → u.1 90 i = -1) ∧ (∀ i, i ∈ b → u.1 90 i = nI Q.length ∧ i ∉ R) ∧ (∀ i, i < (rowOf A l).length → i ∉ R → i ∉ b → ixP Q i < Q.length ∧ u.1 90 i = nI (ixP Q i)) ∧ ∀ c, c ∈ Q → ∀ z, z ∈ c → z ∉ R ∧ z ∉ b
theorem sumF {A : Ab} {x m u : llMem} (hp : IPyr A x m) {l : Nat} (hl : l < A.nl) (hF : FB A l u) {d i : Nat} {b : List Nat} (rec : llMem → Int32 → Int32 → Int32 → Int32 → Option (llMem × Unit)) (v2 v4 v5 : Int32) (hi : i < (rowOf A l).length) (hb : b.Sublist (List.range (rowOf A l).length)) (h90 : ∀ j, j < (rowOf A l).length → (u.1 90 j = nI d ↔ j ∈ b)) :
    loop (fx_X12_fills_69_l114_b79 rec u (nI d) v2 v4 v5 (nI i)) llFuel (0, 0) = some (nI ((b.map (fun z => miR A l z i)).sum)) := by
  have h12 := row_12 hp hl
  have lp : loop (fx_X12_fills_69_l114_b79 rec u (nI d) v2 v4 v5 (nI i)) llFuel (0, 0) = some (nI (sumN (fun j => if b.contains j then miR A l j i else 0) (rowOf A l).length)) := by
    refine loop_sumN (fun j => if b.contains j then miR A l j i else 0) (rowOf A l).length ?_ ?_ (llF (by omega))
    · intro j a hj
      unfold fx_X12_fills_69_l114_b79 fx_X12_fills_69_j153_b114_b79
      dsimp only
      rw [hF.1, if_neg (nle2 (by omega) (by omega) hj), gI_nI (by omega) (by decide), rI_n (by omega)]
      by_cases e : j ∈ b
      · rw [if_neg (fun z => z ((h90 j hj).mpr e)), ix12, gI_nI (by omega) (by decide), rI_n (by omega), hF.2.2 i j hi hj, lt_eq, lt_eq, nI_1, nI_add, if_pos (contains_t e)]
        have : miR A l i j = miR A l j i := mi_comm hp (row_mem.mp (getD_in hi)).1 (row_mem.mp (getD_in hj)).1
        rw [this]
      · rw [if_pos (fun z => e ((h90 j hj).mp z)), lt_eq, lt_eq, nI_1, i32_add_zero, if_neg (fun z => e (List.contains_iff_mem.mp z))]; rfl
    · intro a
      unfold fx_X12_fills_69_l114_b79
      dsimp only
      rw [hF.1, if_pos (le2 (by omega) (by omega) (Nat.le_refl _))]
  rw [lp]
  congr 2
  have hr := sumN_list (fun z => if b.contains z then miR A l z i else 0) (List.range (rowOf A l).length)
  rw [List.length_range] at hr
  have e1 : sumN (fun j => if b.contains j then miR A l j i else 0) (rowOf A l).length = sumN (fun j => (fun z => if b.contains z then miR A l z i else 0) ((List.range (rowOf A l).length).getD j 0)) (rowOf A l).length := by
    refine sumN_congr _ (fun j hj => ?_)
    have gi : (List.range (rowOf A l).length).getD j 0 = j := by rw [List.getD_eq_getElem?_getD, List.getElem?_range hj]; rfl
    rw [gi]
  rw [e1, hr]
  have e2 : ∀ (L : List Nat), (L.map (fun z => if b.contains z then miR A l z i else 0)).sum = ((L.filter (fun z => b.contains z)).map (fun z => miR A l z i)).sum := by
    intro L
    induction L with
    | nil => rfl
    | cons a L ih =>
      rw [List.map_cons, List.sum_cons, ih]
      cases q : b.contains a
      · rw [List.filter_cons_of_neg (by rw [q]; decide), if_neg (by decide), Nat.zero_add]
      · rw [List.filter_cons_of_pos q, if_pos rfl, List.map_cons, List.sum_cons]
  rw [e2, sub_filter hb List.nodup_range]
