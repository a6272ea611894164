/-! loops that go through numbers; sums of miles, both sides -/
def itr {σ : Type} (f : Nat → σ → σ) (a : σ) : Nat → σ
  | 0 => a
  | n + 1 => f n (itr f a n)
theorem loop_for {σ E : Type} {body : σ × Int32 → Option ((σ × Int32) ⊕ E)} (f : Nat → σ → σ) (fin : σ → E) (n : Nat) (a : σ) (h1 : ∀ i b, i < n → b = itr f a i → body (b, nI i) = some (.inl (f i b, nI (i + 1)))) (h2 : ∀ b, b = itr f a n → body (b, nI n) = some (.inr (fin b))) (hf : n < llFuel) : loop body llFuel (a, 0) = some (fin (itr f a n)) :=
  loop_run0 (fun i => (itr f a i, nI i)) _ n llFuel rfl (fun i hi => h1 i _ hi rfl) (h2 _ rfl) hf
theorem loop_sumI {body : Int32 × Int32 → Option ((Int32 × Int32) ⊕ Int32)} (f : Nat → Int32) (n : Nat) (h1 : ∀ i a, i < n → body (a, nI i) = some (.inl (a + f i, nI (i + 1)))) (h2 : ∀ a, body (a, nI n) = some (.inr a)) (hf : n < llFuel) : loop body llFuel (0, 0) = some (sumI f n) :=
  loop_run0 (fun i => (sumI f i, nI i)) _ n llFuel rfl (fun i hi => h1 i _ hi) (h2 _) hf
theorem loop_sumN {body : Int32 × Int32 → Option ((Int32 × Int32) ⊕ Int32)} (f : Nat → Nat) (n : Nat) (h1 : ∀ i a, i < n → body (nI a, nI i) = some (.inl (nI (a + f i), nI (i + 1)))) (h2 : ∀ a, body (nI a, nI n) = some (.inr (nI a))) (hf : n < llFuel) : loop body llFuel (0, 0) = some (nI (sumN f n)) :=
  loop_run0 (fun i => (nI (sumN f i), nI i)) _ n llFuel rfl (fun i hi => h1 i _ hi) (h2 _) hf
theorem llF {n : Nat} (h : n ≤ 9999) : n < llFuel := by unfold llFuel; omega
theorem between_x {A : Ab} {x m : llMem} (h : IPyr A x m) {a b : Nat} (ha : a < A.nc) (hb : b < A.nc) : fx_X10_between_48 x (nI a) (nI b) = some (nI (A.mi a b)) := by
  have hn := h.ncB
  unfold fx_X10_between_48
  rw [ix30, gI_nI (by omega) (by decide), rI_n (by omega), (h.2.2.2.2.2.2.2.2.2 a b ha hb).2]
theorem ite_st {ρ : Type} {A : Ab} {x m : llMem} (h : IPyr A x m) {c : Nat} (hc : c < A.nc) {l d : Nat} (hl : l < 1000) (hd : d < 1000) (X Y : ρ) : (if ¬ lvI A c = nI l then X else if ¬ dvI A c = nI d then X else Y) = if A.st c = some (l, d) then Y else X := by
  have e := st_eq h hc hl hd
  by_cases e1 : lvI A c = nI l
  · rw [if_neg (fun q => q e1)]
    by_cases e2 : dvI A c = nI d
    · rw [if_neg (fun q => q e2), if_pos (e.mp ⟨e1, e2⟩)]
    · rw [if_pos e2, if_neg (fun q => e2 (e.mpr q).2)]
  · rw [if_pos e1, if_neg (fun q => e1 (e.mpr q).1)]
theorem ite_lv {ρ : Type} {A : Ab} {x m : llMem} (h : IPyr A x m) {c : Nat} (hc : c < A.nc) {l : Nat} (hl : l < 1000) (X Y : ρ) : (if ¬ lvI A c = nI l then X else Y) = if (A.st c).map Prod.fst = some l then Y else X := by
  have e := lvI_eq h hc hl
  by_cases e1 : lvI A c = nI l
  · rw [if_neg (fun q => q e1), if_pos (e.mp e1)]
  · rw [if_pos e1, if_neg (fun q => e1 (e.mpr q))]
/-- miles of a club to a division's clubs -/
def miT (A : Ab) (l d c : Nat) : Nat := sumN (fun o => if A.st o = some (l, d) then A.mi c o else 0) A.nc
theorem toDivision_x {A : Ab} {x m : llMem} (h : IPyr A x m) {c l d : Nat} (hc : c < A.nc) (hl : l < 1000) (hd : d < 1000) : fx_X10_toDivision_48 x (nI c) (nI l) (nI d) = some (nI (miT A l d c)) := by
  have hn := h.ncB
  unfold fx_X10_toDivision_48
  rw [loop_sumN (fun o => if A.st o = some (l, d) then A.mi c o else 0) A.nc ?_ ?_ (llF (by omega))]
  · rfl
  · intro i a hi
    unfold fx_X10_toDivision_48_l6 fx_X10_toDivision_48_j44_b6
    dsimp only
    rw [h.x35, if_neg (nle2 (by omega) (by omega) hi), stands_x h hi hl hd, between_x h hc hi]
    simp only [Option.bind_some, lt_eq, nI_1, nI_add]
    by_cases e : A.st i = some (l, d)
    · simp only [if_pos e, if_neg one_ne]
    · simp only [if_neg e, if_true, Nat.add_zero]
  · intro a
    unfold fx_X10_toDivision_48_l6
    dsimp only
    rw [h.x35, if_pos (le2 (by omega) (by omega) (Nat.le_refl _))]
theorem milesIn_m {A : Ab} {x m : llMem} (h : IPyr A x m) {c l d : Nat} (hc : c < A.nc) (hl : l < 1000) (hd : d < 1000) : fx_X12_milesIn_69 m (nI c) (nI l) (nI d) = some (nI (miT A l d c)) := by
  have hn := h.ncB
  unfold fx_X12_milesIn_69
  rw [loop_sumN (fun o => if A.st o = some (l, d) then A.mi c o else 0) A.nc ?_ ?_ (llF (by omega))]
  · rfl
  · intro i a hi
    unfold fx_X12_milesIn_69_l6 fx_X12_milesIn_69_j49_b6 fx_X12_milesIn_69_j50_b6
    dsimp only
    rw [h.m9, if_neg (nle2 (by omega) (by omega) hi), gI_nI (by omega) (by decide), gI_nI (by omega) (by decide), rI_n (by omega), rI_n (by omega), (h.cl hi).m74, (h.cl hi).m75, miles_m h hc hi]
    simp only [Option.bind_some, lt_eq, nI_1, nI_add, i32_add_zero]
    rw [ite_st h hi hl hd]
    by_cases e : A.st i = some (l, d)
    · simp only [if_pos e]
    · simp only [if_neg e, Nat.add_zero]
  · intro a
    unfold fx_X12_milesIn_69_l6
    dsimp only
    rw [h.m9, if_pos (le2 (by omega) (by omega) (Nat.le_refl _))]
theorem mi_le {A : Ab} {x m : llMem} (h : IPyr A x m) {a b : Nat} (ha : a < A.nc) (hb : b < A.nc) : A.mi a b ≤ 140 := by
  have k1 := h.cl ha
  have k2 := h.cl hb
  have q1 := sqd_le k1.2.2.2.2.1 k2.2.2.2.2.1
  have q2 := sqd_le k1.2.2.2.2.2.1 k2.2.2.2.2.2.1
  have := isRoot_lt (h.2.2.2.2.2.2.2.2.2 a b ha hb).1 (B := 141) (by omega)
  omega
theorem mi_comm {A : Ab} {x m : llMem} (h : IPyr A x m) {a b : Nat} (ha : a < A.nc) (hb : b < A.nc) : A.mi a b = A.mi b a := by
  have q1 := (h.2.2.2.2.2.2.2.2.2 a b ha hb).1
  have q2 := (h.2.2.2.2.2.2.2.2.2 b a hb ha).1
  rw [sqd_comm (A.cx b), sqd_comm (A.cy b)] at q2
  exact isRoot_uniq q1 q2
theorem mi_self {A : Ab} {x m : llMem} (h : IPyr A x m) {a : Nat} (ha : a < A.nc) : A.mi a a = 0 := by
  have q1 := (h.2.2.2.2.2.2.2.2.2 a a ha ha).1
  have e : ∀ z, sqd z z = 0 := fun z => by unfold sqd; rw [if_pos (Nat.le_refl _), Nat.sub_self]
  rw [e, e] at q1
  have := isRoot_lt q1 (B := 1) (by omega)
  omega
theorem sumN_le' {f : Nat → Nat} {s : Nat} (n : Nat) (h : ∀ d, d < n → f d ≤ s) : sumN f n ≤ n * s := sumN_le n h
theorem miT_le {A : Ab} {x m : llMem} (h : IPyr A x m) {c : Nat} (hc : c < A.nc) (l d : Nat) : miT A l d c ≤ 4200 := by
  have hn := h.ncB
  have := sumN_le' (f := fun o => if A.st o = some (l, d) then A.mi c o else 0) (s := 140) A.nc (fun o ho => by
    have := mi_le h hc ho
    try dsimp only
    split <;> omega)
  unfold miT
  omega
/-- miles of a division, each two twice -/
def miW (A : Ab) (l d : Nat) : Nat := sumN (fun c => if A.st c = some (l, d) then miT A l d c else 0) A.nc
theorem miW_le {A : Ab} {x m : llMem} (h : IPyr A x m) (l d : Nat) : miW A l d ≤ 126000 := by
  have hn := h.ncB
  have := sumN_le' (f := fun c => if A.st c = some (l, d) then miT A l d c else 0) (s := 4200) A.nc (fun o ho => by
    have := miT_le h ho l d
    try dsimp only
    split <;> omega)
  unfold miW
  omega
theorem withinTwice_x {A : Ab} {x m : llMem} (h : IPyr A x m) {l d : Nat} (hl : l < 1000) (hd : d < 1000) : fx_X10_withinTwice_48 x (nI l) (nI d) = some (nI (miW A l d)) := by
  have hn := h.ncB
  unfold fx_X10_withinTwice_48
  rw [loop_sumN (fun c => if A.st c = some (l, d) then miT A l d c else 0) A.nc ?_ ?_ (llF (by omega))]
  · rfl
  · intro i a hi
    unfold fx_X10_withinTwice_48_l5 fx_X10_withinTwice_48_j42_b5
    dsimp only
    rw [h.x35, if_neg (nle2 (by omega) (by omega) hi), stands_x h hi hl hd, toDivision_x h hi hl hd]
    simp only [Option.bind_some, lt_eq, nI_1, nI_add]
    by_cases e : A.st i = some (l, d)
    · simp only [if_pos e, if_neg one_ne]
    · simp only [if_neg e, if_true, Nat.add_zero]
  · intro a
    unfold fx_X10_withinTwice_48_l5
    dsimp only
    rw [h.x35, if_pos (le2 (by omega) (by omega) (Nat.le_refl _))]
theorem gz2 {ρ : Type} {x : Option ρ} : gZ 2 x = x := gZ_ok (by decide)
theorem nI_half {a : Nat} (h : a < 2 ^ 31) : nI a / 2 = nI (a / 2) := pk_div h (by decide) (by decide)
theorem milesOf_m {A : Ab} {x m : llMem} (h : IPyr A x m) {l d : Nat} (hl : l < 1000) (hd : d < 1000) : fx_X12_milesOf_69 m (nI l) (nI d) = some (nI (miW A l d / 2)) := by
  have hn := h.ncB
  have hb := miW_le h l d
  unfold fx_X12_milesOf_69
  rw [loop_sumN (fun c => if A.st c = some (l, d) then miT A l d c else 0) A.nc ?_ ?_ (llF (by omega))]
  · rw [Option.bind_some, gz2]
    exact congrArg some (nI_half (by unfold miW at hb; omega))
  · intro i a hi
    unfold fx_X12_milesOf_69_l5 fx_X12_milesOf_69_j48_b5 fx_X12_milesOf_69_j49_b5
    dsimp only
    rw [h.m9, if_neg (nle2 (by omega) (by omega) hi), gI_nI (by omega) (by decide), gI_nI (by omega) (by decide), rI_n (by omega), rI_n (by omega), (h.cl hi).m74, (h.cl hi).m75, milesIn_m h hi hl hd]
    simp only [Option.bind_some, lt_eq, nI_1, nI_add, i32_add_zero]
    rw [ite_st h hi hl hd]
    by_cases e : A.st i = some (l, d)
    · simp only [if_pos e]
    · simp only [if_neg e, Nat.add_zero]
  · intro a
    unfold fx_X12_milesOf_69_l5
    dsimp only
    rw [h.m9, if_pos (le2 (by omega) (by omega) (Nat.le_refl _))]
/-- a symmetric square with nothing on its diagonal has an even sum -/
theorem sum2_even {f : Nat → Nat → Nat} {N : Nat} (hs : ∀ a b, a < N → b < N → f a b = f b a) (hz : ∀ a, a < N → f a a = 0) : ∀ n, n ≤ N → ∃ k, sumN (fun a => sumN (fun b => f a b) n) n = 2 * k
  | 0, _ => ⟨0, rfl⟩
  | n + 1, h => by
    obtain ⟨k, hk⟩ := sum2_even hs hz n (by omega)
    refine ⟨k + sumN (fun b => f n b) n, ?_⟩
    have e1 : sumN (fun a => sumN (fun b => f a b) (n + 1)) (n + 1) = sumN (fun a => sumN (fun b => f a b) n + f a n) n + (sumN (fun b => f n b) n + f n n) := rfl
    rw [e1, sumN_add, hk, hz n (by omega), sumN_congr (f := fun a => f a n) (g := fun b => f n b) n (fun i hi => hs i n (by omega) (by omega))]
    omega
theorem miW_even {A : Ab} {x m : llMem} (h : IPyr A x m) (l d : Nat) : ∃ k, miW A l d = 2 * k := by
  obtain ⟨k, hk⟩ := sum2_even (f := fun a b => if A.st a = some (l, d) then (if A.st b = some (l, d) then A.mi a b else 0) else 0) (N := A.nc) (fun a b ha hb => by
    try dsimp only
    by_cases e1 : A.st a = some (l, d)
    · by_cases e2 : A.st b = some (l, d)
      · rw [if_pos e1, if_pos e2, if_pos e2, if_pos e1, mi_comm h ha hb]
      · rw [if_pos e1, if_neg e2, if_neg e2]
    · by_cases e2 : A.st b = some (l, d)
      · rw [if_neg e1, if_pos e2, if_neg e1]
      · rw [if_neg e1, if_neg e2]) (fun a ha => by
    try dsimp only
    by_cases e1 : A.st a = some (l, d)
    · rw [if_pos e1, if_pos e1, mi_self h ha]
    · rw [if_neg e1]) A.nc (Nat.le_refl _)
  refine ⟨k, ?_⟩
  rw [← hk]
  unfold miW
  refine sumN_congr A.nc (fun a ha => ?_)
  try dsimp only
  by_cases e1 : A.st a = some (l, d)
  · simp only [if_pos e1]; rfl
  · simp only [if_neg e1]; exact (sumN_zero _).symm
theorem sumN_half {f : Nat → Nat} : ∀ (n : Nat), (∀ i, i < n → ∃ k, f i = 2 * k) → sumN f n / 2 = sumN (fun i => f i / 2) n ∧ ∃ k, sumN f n = 2 * k
  | 0, _ => ⟨by simp [sumN], 0, rfl⟩
  | n + 1, h => by
    obtain ⟨h1, k, hk⟩ := sumN_half n (fun i hi => h i (by omega))
    obtain ⟨j, hj⟩ := h n (by omega)
    simp only [sumN]
    rw [← h1]
    exact ⟨by omega, k + j, by omega⟩
theorem ofLevel_x {A : Ab} {x m : llMem} (h : IPyr A x m) {l : Nat} (hl : l < A.nl) : fx_X10_ofLevel_48 x (nI l) = some (nI (sumN (fun d => miW A l d / 2) (A.dv l))) := by
  have hn := h.nlB
  have hd := (h.lv hl).2.2.2.2.2.2.2.2.2.1
  unfold fx_X10_ofLevel_48
  rw [loop_sumN (fun d => miW A l d) (A.dv l) ?_ ?_ (llF (by omega))]
  · rw [Option.bind_some, gz2]
    have hb := sumN_le' (f := fun d => miW A l d) (s := 126000) (A.dv l) (fun d _ => miW_le h l d)
    rw [nI_half (by omega), (sumN_half (f := fun d => miW A l d) (A.dv l) (fun d _ => miW_even h l d)).1]
  · intro i a hi
    unfold fx_X10_ofLevel_48_l4
    dsimp only
    rw [gI_nI (by omega) (by decide), rI_n (by omega), (h.lv hl).1, if_neg (nle2 (by omega) (by omega) hi), withinTwice_x h (by omega) (by omega)]
    simp only [Option.bind_some, lt_eq, nI_1, nI_add]
  · intro a
    unfold fx_X10_ofLevel_48_l4
    dsimp only
    rw [gI_nI (by omega) (by decide), rI_n (by omega), (h.lv hl).1, if_pos (le2 (by omega) (by omega) (Nat.le_refl _))]
theorem ix4 (a b : Nat) : (4 : Int32) * nI a + nI b = nI (4 * a + b) := by rw [show (4 : Int32) = nI 4 from rfl, pk_mul, nI_add]
theorem levelMiles_m {A : Ab} {x m : llMem} (h : IPyr A x m) {l : Nat} (hl : l < A.nl) (w : Int32) : loop (fx_X12_level_69_l47 m (nI l) w) llFuel (0, 0) = some (nI (sumN (fun d => miW A l d / 2) (A.dv l))) := by
  have hn := h.nlB
  have hd := (h.lv hl).2.2.2.2.2.2.2.2.2.1
  refine loop_sumN (fun d => miW A l d / 2) (A.dv l) ?_ ?_ (llF (by omega))
  · intro i a hi
    unfold fx_X12_level_69_l47
    dsimp only
    rw [show (0 : Int32) = nI 0 from rfl, ix4, gI_nI (by omega) (by decide), rI_n (by omega), Nat.add_zero, (h.lv hl).2.2.2.2.1, if_neg (nle2 (by omega) (by omega) hi), milesOf_m h (by omega) (by omega)]
    simp only [Option.bind_some, lt_eq, nI_1, nI_add]
  · intro a
    unfold fx_X12_level_69_l47
    dsimp only
    rw [show (0 : Int32) = nI 0 from rfl, ix4, gI_nI (by omega) (by decide), rI_n (by omega), Nat.add_zero, (h.lv hl).2.2.2.2.1, if_pos (le2 (by omega) (by omega) (Nat.le_refl _))]
