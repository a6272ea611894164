theorem low2' : ∀ h, h < 64 → ∀ q, q < 64 → ∀ a, a < 12 → (64 * h + q).testBit a = true → (∀ i, i < a → (64 * h + q).testBit i = false) → nI (64 * h + q) &&& (-(nI (64 * h + q))) = nI (2 ^ a) := by decide +kernel
theorem low2 {M : Nat} (hM : M < 4096) {a : Nat} (ha : a < 12) (h1 : M.testBit a = true) (h2 : ∀ i, i < a → M.testBit i = false) : nI M &&& (-(nI M)) = nI (2 ^ a) := by
  have e : M = 64 * (M / 64) + M % 64 := (Nat.div_add_mod M 64).symm
  have := low2' (M / 64) (by omega) (M % 64) (by omega) a ha
  rw [← e] at this
  exact this h1 h2
theorem filt_not (p : Nat → Bool) (t : List Nat) : (t.filter p).length + (t.filter (fun z => !p z)).length = t.length := by
  induction t with
  | nil => rfl
  | cons a t ih =>
    cases q : p a
    · rw [List.filter_cons_of_neg (by rw [q]; decide), List.filter_cons_of_pos (p := fun z => !p z) (by rw [q]; rfl), List.length_cons, List.length_cons]; omega
    · rw [List.filter_cons_of_pos q, List.filter_cons_of_neg (p := fun z => !p z) (by rw [q]; decide), List.length_cons, List.length_cons]; omega
theorem sub_drop {a n : Nat} {t : List Nat} (h : (a :: t).Sublist (List.range n)) : a < n ∧ t.Sublist ((List.range n).drop (a + 1)) := by
  obtain ⟨r1, r2, e, h1, h2⟩ := List.cons_sublist_iff.mp h
  have l1 : r1 = (List.range n).take r1.length := by rw [e, List.take_left]
  have l2 : r2 = (List.range n).drop r1.length := by rw [e, List.drop_left]
  have ha : a < r1.length := by
    rw [l1, List.take_range, List.mem_range] at h1; omega
  refine ⟨List.mem_range.mp (h.subset (List.mem_cons_self ..)), ?_⟩
  rw [l2] at h2
  have : (List.range n).drop r1.length = ((List.range n).drop (a + 1)).drop (r1.length - (a + 1)) := by
    rw [List.drop_drop]; congr 1; omega
  rw [this] at h2
  exact h2.trans (List.drop_sublist _ _)
theorem drop_gt {n a z : Nat} (h : z ∈ (List.range n).drop (a + 1)) : a < z := by
  rw [List.mem_iff_getElem?] at h
  obtain ⟨i, hi⟩ := h
  rw [List.getElem?_drop] at hi
  have hlt : a + 1 + i < n := by
    by_cases q : a + 1 + i < n
    · exact q
    · rw [List.getElem?_eq_none (by rw [List.length_range]; omega)] at hi; cases hi
  rw [List.getElem?_range hlt] at hi
  injection hi with hi
  omega
theorem combos_pos {n s : Nat} (hs : 1 ≤ s) : ∀ i, i ≤ n → ∃ C, combos s (List.range n) = C ++ combos s ((List.range n).drop i)
  | 0, _ => ⟨[], by rw [List.drop_zero]; rfl⟩
  | i + 1, h => by
    obtain ⟨C, hC⟩ := combos_pos (n := n) hs i (by omega)
    have es : s = (s - 1) + 1 := by omega
    have hc : combos s ((List.range n).drop i) = (combos (s - 1) ((List.range n).drop (i + 1))).map (fun c => i :: c) ++ combos s ((List.range n).drop (i + 1)) := by
      rw [range_drop (by omega)]
      rw [es, Nat.add_sub_cancel, combos_cons]
    exact ⟨C ++ (combos (s - 1) ((List.range n).drop (i + 1))).map (fun c => i :: c), by rw [hC, hc, List.append_assoc]⟩
theorem posN_get {n s a i : Nat} (hs : 1 ≤ s) (ha : a < n) (hi : i < (combos (s - 1) ((List.range n).drop (a + 1))).length) : posN n s (a + 1) = posN n s a + (combos (s - 1) ((List.range n).drop (a + 1))).length ∧ posN n s a + i < (combos s (List.range n)).length ∧ (combos s (List.range n)).getD (posN n s a + i) [] = a :: (combos (s - 1) ((List.range n).drop (a + 1))).getD i [] := by
  obtain ⟨C, hC⟩ := combos_pos (n := n) hs a (by omega)
  have es : s = (s - 1) + 1 := by omega
  have hc : combos s ((List.range n).drop a) = (combos (s - 1) ((List.range n).drop (a + 1))).map (fun c => a :: c) ++ combos s ((List.range n).drop (a + 1)) := by
    rw [range_drop ha]
    rw [es, Nat.add_sub_cancel, combos_cons]
  have p0 : posN n s a = C.length := by unfold posN; rw [hC, List.length_append]; omega
  refine ⟨?_, ?_, ?_⟩
  · rw [p0]; unfold posN; rw [hC, hc, List.length_append, List.length_append, List.length_map]; omega
  · rw [p0, hC, hc, List.length_append, List.length_append, List.length_map]; omega
  · rw [p0, hC, hc, List.getD_eq_getElem?_getD, List.getElem?_append_right (by omega), Nat.add_sub_cancel_left, List.getElem?_append_left (by rw [List.length_map]; exact hi), List.getElem?_map, List.getElem?_eq_getElem hi, List.getD_eq_getElem?_getD, List.getElem?_eq_getElem hi]; rfl
theorem posN_next {n s a : Nat} (hs : 1 ≤ s) (ha : a < n) : posN n s (a + 1) = posN n s a + (combos (s - 1) ((List.range n).drop (a + 1))).length := by
  obtain ⟨C, hC⟩ := combos_pos (n := n) hs a (by omega)
  have es : s = (s - 1) + 1 := by omega
  have hc : combos s ((List.range n).drop a) = (combos (s - 1) ((List.range n).drop (a + 1))).map (fun c => a :: c) ++ combos s ((List.range n).drop (a + 1)) := by
    rw [range_drop ha]
    rw [es, Nat.add_sub_cancel, combos_cons]
  unfold posN; rw [hC, hc, List.length_append, List.length_append, List.length_map]; omega
theorem posN_le (n s i : Nat) : posN n s i ≤ (combos s (List.range n)).length := by unfold posN; omega
theorem filt_diff {t b : List Nat} (ht : t.Nodup) (hb : b.Sublist t) : (t.filter (fun z => !b.contains z)).length + b.length = t.length := by
  have h1 := filt_not (fun z => b.contains z) t
  rw [sub_filter hb ht] at h1
  omega
