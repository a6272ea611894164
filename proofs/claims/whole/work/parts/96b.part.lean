/-! the class parts a level -/
theorem firstMin_mem {α : Type} {c : α → Nat} {L : List α} {P : α} (h : firstMin c L = some P) : P ∈ L := by
  cases L with
  | nil => cases h
  | cons p L =>
    have : ∀ (M : List α) (q : α), M.foldl (fun b q => if c q < c b then q else b) q ∈ q :: M := by
      intro M
      induction M with
      | nil => intro q; exact List.mem_cons_self ..
      | cons r M ih =>
        intro q
        rw [List.foldl_cons]
        have := ih (if c r < c q then r else q)
        rcases List.mem_cons.mp this with w | w
        · rw [w]
          by_cases e : c r < c q
          · rw [if_pos e]; exact List.mem_cons_of_mem _ (List.mem_cons_self ..)
          · rw [if_neg e]; exact List.mem_cons_self ..
        · exact List.mem_cons_of_mem _ (List.mem_cons_of_mem _ w)
    injection h with h
    rw [← h]; exact this L p
theorem firstMin_some {α : Type} {c : α → Nat} {L : List α} (h : L ≠ []) : ∃ P, firstMin c L = some P := by
  cases L with
  | nil => exact absurd rfl h
  | cons p L => exact ⟨_, rfl⟩
theorem blocks_ne {s : Nat} (hs : 1 ≤ s) : ∀ (D : Nat) (R : List Nat), R.Nodup → R.length = D * s → blocks s D R ≠ []
  | 0, R, _, _ => by unfold blocks; simp
  | D + 1, [], _, h => by rw [List.length_nil, Nat.add_mul] at h; omega
  | D + 1, a :: t, hn, h => by
    rw [List.nodup_cons] at hn
    rw [List.length_cons, Nat.add_mul, Nat.one_mul] at h
    have h1 : (t.take (s - 1)).Sublist t := List.take_sublist _ _
    have h2 : (t.take (s - 1)).length = s - 1 := by rw [List.length_take]; omega
    have h3 := sub_combos h1
    rw [h2] at h3
    have h4 := filt_diff hn.2 h1
    have h5 := blocks_ne hs D (t.filter (fun z => !(t.take (s - 1)).contains z)) (hn.2.sublist List.filter_sublist) (by omega)
    rw [blocks]
    intro q
    rw [List.flatMap_eq_nil_iff] at q
    have := q _ h3
    rw [List.map_eq_nil_iff] at this
    exact h5 this
theorem blocks_cover {s : Nat} (hs : 1 ≤ s) : ∀ (D : Nat) (R : List Nat) (P : List (List Nat)), R.Nodup → R.length = D * s → P ∈ blocks s D R → P.length = D ∧ ∀ z, z ∈ R → ∃ b, b ∈ P ∧ z ∈ b
  | 0, R, P, _, h, hP => by
    rw [blocks, List.mem_singleton] at hP
    rw [Nat.zero_mul] at h
    rw [hP, List.length_eq_zero_iff.mp h]
    exact ⟨rfl, fun z hz => by simp at hz⟩
  | D + 1, [], P, _, h, _ => by rw [List.length_nil, Nat.add_mul] at h; omega
  | D + 1, a :: t, P, hn, h, hP => by
    rw [List.nodup_cons] at hn
    rw [List.length_cons, Nat.add_mul, Nat.one_mul] at h
    rw [blocks, List.mem_flatMap] at hP
    obtain ⟨b, hb, hP⟩ := hP
    obtain ⟨P', hP', rfl⟩ := List.mem_map.mp hP
    obtain ⟨h1, h2⟩ := combos_sub hb
    have h4 := filt_diff hn.2 h1
    obtain ⟨i1, i2⟩ := blocks_cover hs D (t.filter (fun z => !b.contains z)) P' (hn.2.sublist List.filter_sublist) (by omega) hP'
    refine ⟨by rw [List.length_cons, i1], fun z hz => ?_⟩
    rcases List.mem_cons.mp hz with w | w
    · exact ⟨a :: b, List.mem_cons_self .., by rw [w]; exact List.mem_cons_self ..⟩
    · cases q : b.contains z
      · obtain ⟨c, c1, c2⟩ := i2 z (List.mem_filter.mpr ⟨w, by rw [q]; rfl⟩)
        exact ⟨c, List.mem_cons_of_mem _ c1, c2⟩
      · exact ⟨a :: b, List.mem_cons_self .., List.mem_cons_of_mem _ (List.contains_iff_mem.mp q)⟩
theorem bit_rd' : ∀ h, h < 64 → ∀ q, q < 64 → ∀ i, i < 12 → ((nI (64 * h + q) >>> (nI i &&& 31)) &&& 1) = if (64 * h + q).testBit i then 1 else 0 := by decide +kernel
theorem bit_rd {M i : Nat} (hM : M < 4096) (hi : i < 12) : ((nI M >>> (nI i &&& 31)) &&& 1) = if M.testBit i then 1 else 0 := by
  have e : M = 64 * (M / 64) + M % 64 := (Nat.div_add_mod M 64).symm
  have := bit_rd' (M / 64) (by omega) (M % 64) (by omega) i hi
  rw [← e] at this
  exact this
theorem full_m : ∀ n, n < 13 → ((1 : Int32) <<< (nI n &&& 31)) - 1 = nI (mkN (List.range n)) := by decide +kernel
theorem findIdx_at {P : List (List Nat)} {a : Nat} (h : ∃ b, b ∈ P ∧ a ∈ b) : ixP P a < P.length ∧ (P.getD (ixP P a) []).contains a = true ∧ ∀ j, j < ixP P a → (P.getD j []).contains a = false := by
  unfold ixP
  have h0 : P.findIdx (fun b => b.contains a) < P.length := by
    rw [List.findIdx_lt_length]
    obtain ⟨b, b1, b2⟩ := h
    exact ⟨b, b1, contains_t b2⟩
  refine ⟨h0, ?_, fun j hj => ?_⟩
  · rw [List.getD_eq_getElem?_getD, List.getElem?_eq_getElem h0]
    exact List.findIdx_getElem (w := h0)
  · have hj2 : j < P.length := by omega
    rw [List.getD_eq_getElem?_getD, List.getElem?_eq_getElem hj2]
    have := List.not_of_lt_findIdx hj
    cases q : (P[j]).contains a
    · exact q
    · exact absurd q (by simpa using this)
theorem bestDiv_x {A : Ab} {u : llMem} {l : Nat} (h12 : (rowOf A l).length ≤ 12) (h3 : A.dv l ≤ 3) (hP : PB A l u) {P : List (List Nat)} (hl : P.length = A.dv l) (hV : VB A l P) (h62 : ∀ i, i < A.dv l → u.1 62 i = nI (mkN (P.getD i []))) {a : Nat} (ha : a < 12) (hc : ∃ b, b ∈ P ∧ a ∈ b) : fx_X4_bestDivisionOf_52 u (nI a) = some (nI (ixP P a)) := by
  obtain ⟨c1, c2, c3⟩ := findIdx_at hc
  have hmk : ∀ i, i < A.dv l → mkN (P.getD i []) < 4096 := fun i hi => mk_lt (fun z hz => by
    have hm : P.getD i [] ∈ P := by
      rw [List.getD_eq_getElem?_getD, List.getElem?_eq_getElem (by omega)]; exact List.getElem_mem _
    have := List.mem_range.mp ((hV _ hm).1.subset hz); omega)
  unfold fx_X4_bestDivisionOf_52
  have lp : loop (fx_X4_bestDivisionOf_52_l2 u (nI a)) llFuel 0 = some (.inr (nI (ixP P a))) := by
    refine loop_run0 (fun i => nI i) _ (ixP P a) llFuel rfl ?_ ?_ (llF (by omega))
    · intro i hi
      unfold fx_X4_bestDivisionOf_52_l2
      rw [hP.2.2.1, if_neg (nle2 (by omega) (by omega) (by omega)), gI_nI (by omega) (by decide), rI_n (by omega), h62 i (by omega), bit_rd (hmk i (by omega)) ha, mk_bit, c3 i hi, if_neg (show ¬ false = true by decide), if_pos rfl, lt_eq, nI_1]
    · unfold fx_X4_bestDivisionOf_52_l2
      rw [hP.2.2.1, if_neg (nle2 (by omega) (by omega) (by omega)), gI_nI (by omega) (by decide), rI_n (by omega), h62 _ (by omega), bit_rd (hmk _ (by omega)) ha, mk_bit, c2, if_pos rfl, if_neg (show ¬ (1 : Int32) = 0 by decide)]
  rw [lp]; rfl
