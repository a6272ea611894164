/-! a division's clubs by their ranks -/
theorem insP_spec (lt : Nat → Nat → Bool) (L : List Nat) (c : Nat) : ∀ n, (∀ j, insP lt L c n ≤ j → j < n → lt c (L.getD j 0) = true) ∧ (0 < insP lt L c n → lt c (L.getD (insP lt L c n - 1) 0) = false)
  | 0 => ⟨fun j h1 h2 => by omega, fun h => by simp [insP] at h⟩
  | n + 1 => by
    obtain ⟨h1, h2⟩ := insP_spec lt L c n
    unfold insP
    cases e : lt c (L.getD n 0)
    · rw [if_neg (by decide)]
      exact ⟨fun j g1 g2 => by omega, fun _ => e⟩
    · rw [if_pos rfl]
      refine ⟨fun j g1 g2 => ?_, h2⟩
      by_cases q : j = n
      · rw [q]; exact e
      · exact h1 j g1 (by omega)
theorem getD_el {L : List Nat} {y : Nat} (h : y ∈ L) : ∃ j, j < L.length ∧ L.getD j 0 = y := by
  obtain ⟨j, hj, e⟩ := List.mem_iff_getElem.mp h
  exact ⟨j, hj, by rw [List.getD_eq_getElem?_getD, List.getElem?_eq_getElem hj]; exact e⟩
theorem getD_pw {L : List Nat} {R : Nat → Nat → Prop} (h : L.Pairwise R) {i j : Nat} (hij : i < j) (hj : j < L.length) : R (L.getD i 0) (L.getD j 0) := by
  have := List.pairwise_iff_getElem.mp h i j (by omega) hj hij
  rw [List.getD_eq_getElem?_getD, List.getElem?_eq_getElem (show i < _ by omega), List.getD_eq_getElem?_getD, List.getElem?_eq_getElem hj]
  exact this
theorem pw_getD {L : List Nat} {R : Nat → Nat → Prop} (h : ∀ i j, i < j → j < L.length → R (L.getD i 0) (L.getD j 0)) : L.Pairwise R := by
  refine List.pairwise_iff_getElem.mpr (fun i j hi hj hij => ?_)
  have := h i j hij hj
  rw [List.getD_eq_getElem?_getD, List.getElem?_eq_getElem hi, List.getD_eq_getElem?_getD, List.getElem?_eq_getElem hj] at this
  exact this
theorem ins_sorted {lt : Nat → Nat → Bool} {f : Nat → Nat} (h1 : ∀ a b, lt a b = true → f a ≤ f b) (h2 : ∀ a b, lt a b = false → f b ≤ f a) {L : List Nat} (hL : L.Pairwise (fun a b => f a ≤ f b)) (c : Nat) : (insR lt L c).Pairwise (fun a b => f a ≤ f b) := by
  have hle := insP_le lt L c L.length
  obtain ⟨s1, s2⟩ := insP_spec lt L c L.length
  refine pw_getD (fun i j hij hj => ?_)
  rw [insR_len] at hj
  rw [insR_getD, insR_getD]
  generalize insP lt L c L.length = p at *
  by_cases e1 : i < p
  · rw [if_pos e1]
    by_cases e2 : j < p
    · rw [if_pos e2]; exact getD_pw hL hij (by omega)
    · rw [if_neg e2]
      by_cases e3 : j = p
      · rw [if_pos e3]
        have q := h2 _ _ (s2 (by omega))
        by_cases e4 : i = p - 1
        · rw [e4]; exact q
        · exact Nat.le_trans (getD_pw hL (show i < p - 1 by omega) (by omega)) q
      · rw [if_neg e3]; exact getD_pw hL (by omega) (by omega)
  · rw [if_neg e1, if_neg (show ¬ j < p by omega), if_neg (show ¬ j = p by omega)]
    by_cases e3 : i = p
    · rw [if_pos e3]; exact h1 _ _ (s1 _ (by omega) (by omega))
    · rw [if_neg e3]; exact getD_pw hL (by omega) (by omega)
theorem fold_sorted {lt : Nat → Nat → Bool} {f : Nat → Nat} (h1 : ∀ a b, lt a b = true → f a ≤ f b) (h2 : ∀ a b, lt a b = false → f b ≤ f a) : ∀ (R L : List Nat), L.Pairwise (fun a b => f a ≤ f b) → (R.foldl (insR lt) L).Pairwise (fun a b => f a ≤ f b)
  | [], _, h => h
  | c :: R, L, h => fold_sorted h1 h2 R _ (ins_sorted h1 h2 h c)
theorem ordL_sorted (A : Ab) (x : llMem) (l : Nat) : (ordL A x l).Pairwise (fun a b => rkN A x a ≤ rkN A x b) := by
  refine fold_sorted (fun a b h => ?_) (fun a b h => ?_) _ _ List.Pairwise.nil
  · have := of_decide_eq_true h; omega
  · have := of_decide_eq_false h; omega
theorem ordL_nodup (A : Ab) (x : llMem) (l : Nat) : (ordL A x l).Nodup := (ordL_perm A x l).nodup_iff.mpr ((row_pw A l).imp (fun h => by omega))
/-- a division's clubs, in the order of its level -/
def divL (A : Ab) (x : llMem) (l d : Nat) : List Nat := (ordL A x l).filter (fun c => decide (A.st c = some (l, d)))
theorem divL_mem {A : Ab} {x : llMem} {l d c : Nat} : c ∈ divL A x l d ↔ c < A.nc ∧ A.st c = some (l, d) := by
  unfold divL
  rw [List.mem_filter, ordL_mem, decide_eq_true_iff]
  constructor
  · rintro ⟨⟨h1, _⟩, h2⟩; exact ⟨h1, h2⟩
  · rintro ⟨h1, h2⟩; exact ⟨⟨h1, by rw [h2]; rfl⟩, h2⟩
theorem cnt_len {P : Nat → Prop} {dp : ∀ i, Decidable (P i)} : ∀ n, cnt P dp n = ((List.range n).filter (fun i => @decide (P i) (dp i))).length
  | 0 => rfl
  | n + 1 => by
    have ih := cnt_len (P := P) (dp := dp) n
    by_cases e : P n
    · rw [cnt_t e, filt_t (by exact decide_eq_true e), List.length_append, List.length_singleton, ih]
    · rw [cnt_f e, filt_f (by exact decide_eq_false e), ih]
theorem divL_len {A : Ab} {x m : llMem} (hp : IPyr A x m) {l d : Nat} (hl : l < A.nl) (hd : d < A.dv l) : (divL A x l d).length = A.sz l := by
  have hF : inDiv A.st l d A.nc = A.sz l := hp.2.2.2.2.2.2.2.2.1 l d hl hd
  rw [← hF]
  unfold inDiv
  rw [cnt_len]
  unfold divL
  rw [((ordL_perm A x l).filter _).length_eq]
  unfold rowOf
  rw [List.filter_filter]
  congr 1
  refine List.filter_congr (fun c _ => ?_)
  by_cases e : A.st c = some (l, d)
  · rw [decide_eq_true e, decide_eq_true (by rw [e]; rfl)]; rfl
  · rw [decide_eq_false e, Bool.false_and]
theorem divL_lt {A : Ab} {x : llMem} {l d i j : Nat} (hij : i < j) (hj : j < (divL A x l d).length) : rkN A x ((divL A x l d).getD i 0) < rkN A x ((divL A x l d).getD j 0) := by
  have h1 : (divL A x l d).Pairwise (fun a b => rkN A x a ≤ rkN A x b) := (ordL_sorted A x l).filter _
  have h2 : (divL A x l d).Nodup := (ordL_nodup A x l).filter _
  have a := getD_pw h1 hij hj
  have b := getD_pw h2 hij hj
  obtain ⟨c1, c2⟩ := divL_mem.mp (getD_in (show i < (divL A x l d).length by omega))
  obtain ⟨d1, d2⟩ := divL_mem.mp (getD_in hj)
  have : ¬ rkN A x ((divL A x l d).getD i 0) = rkN A x ((divL A x l d).getD j 0) := fun q => b (rk_inj c1 d1 c2 d2 q)
  omega
theorem rk_le {A : Ab} {x m : llMem} (hp : IPyr A x m) {l d c : Nat} (hl : l < A.nl) (hd : d < A.dv l) (hc : c < A.nc) (hs : A.st c = some (l, d)) : 1 ≤ rkN A x c ∧ rkN A x c ≤ A.sz l := by
  have hF : inDiv A.st l d A.nc = A.sz l := hp.2.2.2.2.2.2.2.2.1 l d hl hd
  unfold inDiv at hF
  rw [cnt_len] at hF
  have := (filter_lt (P := rkP A x c) (Q := fun o => decide (A.st o = some (l, d))) (List.range A.nc) (fun o _ ho => by
    unfold rkP at ho
    rw [Bool.and_eq_true, decide_eq_true_iff] at ho
    exact decide_eq_true (by rw [← ho.1.2]; exact hs))).1 ⟨c, List.mem_range.mpr hc, decide_eq_true hs, by
      unfold rkP
      rw [ahd_4 rfl rfl rfl, decide_eq_false (show ¬ c < c by omega), Bool.and_false]⟩
  unfold rkN
  omega
theorem str_inc {f : Nat → Nat} {n : Nat} (h1 : ∀ i j, i < j → j < n → f i < f j) (h2 : ∀ i, i < n → 1 ≤ f i ∧ f i ≤ n) {i : Nat} (hi : i < n) : f i = i + 1 := by
  have lo : ∀ k, k < n → k + 1 ≤ f k := fun k => by
    induction k with
    | zero => intro hk; exact (h2 0 hk).1
    | succ k ih =>
      intro hk
      have := ih (by omega)
      have := h1 k (k + 1) (by omega) hk
      omega
  have hi' : ∀ k, k < n → f (n - 1 - k) ≤ n - k := fun k => by
    induction k with
    | zero => intro hk; exact (h2 _ (by omega)).2
    | succ k ih =>
      intro hk
      have a := ih (by omega)
      have b := h1 (n - 1 - (k + 1)) (n - 1 - k) (by omega) (by omega)
      omega
  have a := lo i hi
  have b := hi' (n - 1 - i) (by omega)
  rw [show n - 1 - (n - 1 - i) = i by omega] at b
  omega
/-- the i-th has rank i + 1 -/
theorem divL_rk {A : Ab} {x m : llMem} (hp : IPyr A x m) {l d : Nat} (hl : l < A.nl) (hd : d < A.dv l) {i : Nat} (hi : i < A.sz l) : rkN A x ((divL A x l d).getD i 0) = i + 1 := by
  have hlen := divL_len (x := x) hp hl hd
  refine str_inc (f := fun i => rkN A x ((divL A x l d).getD i 0)) (n := A.sz l) (fun i j h1 h2 => divL_lt h1 (by omega)) (fun i hi => ?_) hi
  obtain ⟨c1, c2⟩ := divL_mem.mp (getD_in (show i < (divL A x l d).length by omega))
  exact rk_le hp hl hd c1 c2
/-- the club at a rank, as the reference finds it -/
theorem at_rank {A : Ab} {x m : llMem} (hp : IPyr A x m) {l d : Nat} (hl : l < A.nl) (hd : d < A.dv l) {i : Nat} (hi : i < A.sz l) : ixO (fst1 (fun c => decide (A.st c = some (l, d) ∧ nI (rkN A x c) = nI (i + 1))) A.nc) A.nc = nI ((divL A x l d).getD i 0) := by
  have hn := hp.ncB
  have hlen := divL_len (x := x) hp hl hd
  have hz := (hp.lv hl).2.2.2.2.2.2.2.2.2.2.2.1
  obtain ⟨c1, c2⟩ := divL_mem.mp (getD_in (show i < (divL A x l d).length by omega))
  have hr := divL_rk (x := x) hp hl hd hi
  obtain ⟨g1, g2, g3⟩ := fst1_spec (fun c => decide (A.st c = some (l, d) ∧ nI (rkN A x c) = nI (i + 1))) A.nc
  generalize fst1 (fun c => decide (A.st c = some (l, d) ∧ nI (rkN A x c) = nI (i + 1))) A.nc = q at *
  have hq : q < A.nc := Classical.byContradiction (fun z => by
    have := of_decide_eq_false (g2 ((divL A x l d).getD i 0) (by omega))
    exact this ⟨c2, by rw [hr]⟩)
  obtain ⟨b1, b2⟩ := of_decide_eq_true (g3 hq)
  have r2 := rkN_le A x q
  unfold ixO
  rw [if_pos hq, rk_inj hq c1 b1 c2 ((nI_inj (by omega) (by omega) b2).trans hr.symm)]
