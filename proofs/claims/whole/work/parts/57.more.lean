/-! above, journeys, nearest, look -/
theorem one_0 (u : llMem) : fx_X12_one u 0 = some 0 := rfl
theorem one_1 (u : llMem) : fx_X12_one u 1 = some 1 := rfl
theorem tog_x {A : Ab} {x m : llMem} (h : IPyr A x m) {a b l d : Nat} (ha : a < A.nc) (hb : b < A.nc) (hs : A.st a = some (l, d)) : fx_X5_together_3 x (nI a) (nI b) = some (if A.st b = some (l, d) then 1 else 0) := by
  rw [together_x h ha hb, hs]
  by_cases e : A.st b = some (l, d)
  · rw [if_pos ⟨rfl, e.symm⟩, if_pos e]
  · rw [if_neg (fun q => e q.2.symm), if_neg e]
theorem tog_m {A : Ab} {x m : llMem} (h : IPyr A x m) {a b l d : Nat} (ha : a < A.nc) (hb : b < A.nc) (hs : A.st a = some (l, d)) : fx_X12_areTogether_69 m (nI a) (nI b) = some (if A.st b = some (l, d) then 1 else 0) := by
  rw [together_m h ha hb, hs]
  by_cases e : A.st b = some (l, d)
  · rw [if_pos ⟨rfl, e.symm⟩, if_pos e]
  · rw [if_neg (fun q => e q.2.symm), if_neg e]
theorem tog_m2 {A : Ab} {x m : llMem} (h : IPyr A x m) {a b l d : Nat} (ha : a < A.nc) (hb : b < A.nc) (hs : A.st a = some (l, d)) : fx_X12_areTogether_69 m (nI b) (nI a) = some (if A.st b = some (l, d) then 1 else 0) := by
  rw [together_m h hb ha]
  by_cases e : A.st b = some (l, d)
  · rw [if_pos ⟨by rw [e]; rfl, by rw [e, hs]⟩, if_pos e]
  · rw [if_neg (fun q => e (q.2.trans hs)), if_neg e]
def abF (x : llMem) (A : Ab) (l d c : Nat) (i : Nat) : Int32 := if i = c then 0 else if A.st i = some (l, d) then (if ptI x i + 3 * (2 * (nI (A.sz l) - 1) - x.1 21 i) < ptI x c then 0 else 1) else 0
theorem above_S (a : Int32) : StepR (fun u => fx_X11_above_0 u a) (fun u => fx_X12_above_69 u a) := by
  rintro x m ⟨A, mc, ml, k, cj, h⟩
  have hp := h.1
  have hn := hp.ncB
  have hn2 := hp.nlB
  dsimp only
  unfold fx_X11_above_0 fx_X12_above_69
  rcases plays_B hp a with ⟨c, l, d, hc, rfl, hst, hl, hd, p1, p2⟩ | ⟨p1, p2⟩
  · have k1 : fx_X8_canReach_43 x (nI c) = some (sumI (abF x A l d c) A.nc) := by
      unfold fx_X8_canReach_43
      rw [gI_nI (by omega) (by decide), rI_n (by omega), (hp.cl hc).x12, (lvI_some hst).1, gI_nI (by omega) (by decide), rI_n (by omega), (hp.lv hl).2.1, lt_eq, loop_sumI (abF x A l d c) A.nc ?_ ?_ (llF (by omega))]
      · rfl
      · intro i s hi
        unfold fx_X8_canReach_43_l27 fx_X8_canReach_43_j100_b27 abF
        dsimp only
        rw [hp.x35, if_neg (nle2 (by omega) (by omega) hi), tog_x hp hc hi hst, pointsOf_x (by omega), pointsOf_x (by omega)]
        simp only [Option.bind_some, lt_eq, nI_1, gI_nI (show i < 30 by omega) (show 30 < 2 ^ 31 by decide), rI_n (show i < 2 ^ 31 by omega)]
        by_cases e0 : i = c
        · rw [if_pos (by rw [e0]), if_pos e0, i32_add_zero]
        · rw [if_neg (fun q => e0 (nI_inj (by omega) (by omega) q)), if_neg e0]
          by_cases e1 : A.st i = some (l, d)
          · rw [if_pos e1, if_pos e1, if_neg one_ne]
            by_cases e2 : ptI x i + 3 * (2 * (nI (A.sz l) - 1) - x.1 21 i) < ptI x c
            · rw [if_pos e2, if_pos e2, i32_add_zero]
            · rw [if_neg e2, if_neg e2]
          · rw [if_neg e1, if_neg e1, if_pos rfl, i32_add_zero]
      · intro s
        unfold fx_X8_canReach_43_l27
        dsimp only
        rw [hp.x35, if_pos (le2 (by omega) (by omega) (Nat.le_refl _))]
    have k2 : loop (fx_X12_above_69_l21 m (nI c) (ptI x c)) llFuel (0, 0) = some (sumI (abF x A l d c) A.nc) := by
      refine loop_sumI (abF x A l d c) A.nc ?_ ?_ (llF (by omega))
      · intro i s hi
        have s0 : fx_X12_sumOf_69 m (nI i) 0 = some (x.1 21 i) := sumOf_e hp h.2.1 hi (w := 0) (by decide)
        have i4 : (4 : Int32) * nI l + 1 = nI (4 * l + 1) := ix4 l 1
        unfold fx_X12_above_69_l21 fx_X12_above_69_j99_b21 fx_X12_above_69_j104_b21 abF
        dsimp only
        rw [hp.m9, if_neg (nle2 (by omega) (by omega) hi), tog_m2 hp hc hi hst, gI_nI (i := c) (by omega) (by decide), rI_n (k := c) (by omega), (hp.cl hc).m74, (lvI_some hst).1, i4, gI_nI (by omega) (by decide), rI_n (by omega), (hp.lv hl).2.2.2.2.2.1, s0, pointsOf_m hp h.2.1 hi]
        simp only [Option.bind_some, lt_eq, nI_1, one_0, one_1]
        by_cases e0 : i = c
        · rw [if_pos (by rw [e0]), if_pos e0, i32_add_zero]
        · rw [if_neg (fun q => e0 (nI_inj (by omega) (by omega) q)), if_neg e0]
          by_cases e1 : A.st i = some (l, d)
          · rw [if_pos e1, if_pos e1, if_pos one_ne]
            by_cases e2 : ptI x i + 3 * (2 * (nI (A.sz l) - 1) - x.1 21 i) < ptI x c
            · rw [if_pos e2, if_pos e2]
            · rw [if_neg e2, if_neg e2]
          · rw [if_neg e1, if_neg e1, if_neg (fun q => q rfl), i32_add_zero]
      · intro s
        unfold fx_X12_above_69_l21
        dsimp only
        rw [hp.m9, if_pos (le2 (by omega) (by omega) (Nat.le_refl _))]
    rw [p1, p2, Option.bind_some, Option.bind_some, if_neg one_ne, if_pos one_ne, k1, pointsOf_m hp h.2.1 hc]
    simp only [Option.bind_some]
    rw [k2]
    exact ⟨_, rfl, rfl⟩
  · rw [p1, p2]; exact ⟨_, rfl, rfl⟩
/-! matches by their places -/
def memF (f : Nat → Nat) (p : Nat) : Nat → Bool
  | 0 => false
  | j + 1 => memF f p j || decide (f j = p)
theorem memF_iff {f : Nat → Nat} {p : Nat} : ∀ (j : Nat), memF f p j = true ↔ ∃ i, i < j ∧ f i = p
  | 0 => by simp [memF]
  | j + 1 => by
    unfold memF
    rw [Bool.or_eq_true, memF_iff j, decide_eq_true_eq]
    constructor
    · rintro (⟨i, h1, h2⟩ | h)
      · exact ⟨i, by omega, h2⟩
      · exact ⟨j, by omega, h⟩
    · rintro ⟨i, h1, h2⟩
      by_cases e : i = j
      · subst e; exact Or.inr h2
      · exact Or.inl ⟨i, by omega, h2⟩
theorem sumN_at {f g : Nat → Nat} {j : Nat} : ∀ (n : Nat), (∀ i, i < n → i ≠ j → g i = f i) → j < n → sumN g n + f j = sumN f n + g j
  | 0, _, h => by omega
  | n + 1, h, hj => by
    simp only [sumN]
    by_cases e : j = n
    · subst e
      rw [sumN_congr j (fun i hi => h i (by omega) (by omega))]; omega
    · have := sumN_at (f := f) (g := g) (j := j) n (fun i hi hij => h i (by omega) hij) (by omega)
      rw [h n (by omega) (fun q => e q.symm)]; omega
theorem sumN_inj {f g : Nat → Nat} {N : Nat} : ∀ (j : Nat), (∀ i, i < j → f i < N) → (∀ i k, i < j → k < j → f i = f k → i = k) → sumN (fun p => if memF f p j then g p else 0) N = sumN (fun i => g (f i)) j
  | 0, _, _ => by rw [sumN_congr (g := fun _ => 0) N (fun p _ => by simp [memF]), sumN_zero]; rfl
  | j + 1, h1, h2 => by
    have ih := sumN_inj (f := f) (g := g) (N := N) j (fun i hi => h1 i (by omega)) (fun i k hi hk => h2 i k (by omega) (by omega))
    have hno : memF f (f j) j = false := by
      cases e : memF f (f j) j with
      | false => rfl
      | true =>
        obtain ⟨i, q1, q2⟩ := (memF_iff j).mp e
        have := h2 i j (by omega) (by omega) q2
        omega
    have hs := sumN_at (f := fun p => if memF f p j then g p else 0) (g := fun p => if memF f p (j + 1) then g p else 0) (j := f j) N (fun p _ hp => by
      have : memF f p (j + 1) = memF f p j := by
        show (memF f p j || decide (f j = p)) = memF f p j
        rw [decide_eq_false (fun q => hp q.symm), Bool.or_false]
      simp only [this]) (h1 j (by omega))
    have e1 : memF f (f j) (j + 1) = true := (memF_iff (j + 1)).mpr ⟨j, by omega, rfl⟩
    simp only [hno, e1, if_true] at hs
    have e2 : sumN (fun i => g (f i)) (j + 1) = sumN (fun i => g (f i)) j + g (f j) := rfl
    rw [e2, ← ih]
    simp only [Bool.false_eq_true, if_false] at hs
    omega
def kf (ml : Nat → Nat × Nat) (i : Nat) : Nat := 30 * (ml i).1 + (ml i).2
theorem kf_mem {A : Ab} {x m : llMem} {mc : Nat} {ml : Nat → Nat × Nat} (hn : A.nc ≤ 30) (h : IMa A x mc ml) {a b : Nat} (ha : a < 30) (hb : b < 30) : memF (kf ml) (30 * a + b) mc = true ↔ ¬ x.1 17 (30 * a + b) = -1 := by
  rw [memF_iff]
  constructor
  · rintro ⟨i, h1, h2⟩ h3
    obtain ⟨_, _, q1, q2, _, _, _, g, t, g1, t1, q3⟩ := h.2.2.1 i h1
    unfold kf at h2
    have e1 : (ml i).1 = a := by omega
    have e2 : (ml i).2 = b := by omega
    rw [e1, e2, h3] at q3
    exact nI_nm1 (show 100 * g + t < 2 ^ 31 by omega) q3.symm
  · intro h3
    rcases sc_ok h ha hb with ⟨e, -⟩ | ⟨i, g, t, h1, h2, -⟩
    · exact absurd e h3
    · exact ⟨i, h1, by unfold kf; rw [h2]⟩
theorem kf_lt {A : Ab} {x : llMem} {mc : Nat} {ml : Nat → Nat × Nat} (hn : A.nc ≤ 30) (h : IMa A x mc ml) {i : Nat} (hi : i < mc) : kf ml i < 900 := by
  obtain ⟨_, _, q1, q2, _⟩ := h.2.2.1 i hi
  unfold kf; omega
theorem kf_inj {A : Ab} {x : llMem} {mc : Nat} {ml : Nat → Nat × Nat} (hn : A.nc ≤ 30) (h : IMa A x mc ml) {i k : Nat} (hi : i < mc) (hk : k < mc) (e : kf ml i = kf ml k) : i = k := by
  obtain ⟨_, _, q1, q2, _⟩ := h.2.2.1 i hi
  obtain ⟨_, _, r1, r2, _⟩ := h.2.2.1 k hk
  unfold kf at e
  exact h.2.2.2.1 i k hi hk (Prod.ext (by omega) (by omega))
theorem told_count {A : Ab} {x m : llMem} {mc : Nat} {ml : Nat → Nat × Nat} (hn : A.nc ≤ 30) (h : IMa A x mc ml) : sumN (fun p => if x.1 17 p = -1 then 0 else 1) 900 = mc := by
  have := sumN_inj (f := kf ml) (g := fun _ => 1) (N := 900) mc (fun i hi => kf_lt hn h hi) (fun i k hi hk => kf_inj hn h hi hk)
  have e : ∀ n, sumN (fun _ => 1) n = n := fun n => by
    induction n with
    | zero => rfl
    | succ n ih => simp only [sumN]; rw [ih]
  rw [e] at this
  refine (sumN_congr 900 (fun p hp => ?_)).trans this
  have q := kf_mem (m := m) hn h (a := p / 30) (b := p % 30) (by omega) (by omega)
  rw [show 30 * (p / 30) + p % 30 = p by omega] at q
  by_cases e1 : x.1 17 p = -1
  · rw [if_pos e1, if_neg (fun r => (q.mp r) e1)]
  · rw [if_neg e1, if_pos (q.mpr e1)]
theorem trip_sum {ml : Nat → Nat × Nat} {g : Nat → Nat} {c nc : Nat} (hc : c < 30) (hn : nc ≤ 30) : ∀ (j : Nat), (∀ i, i < j → (ml i).1 < nc ∧ (ml i).2 < 30) → (∀ i k, i < j → k < j → ml i = ml k → i = k) → sumN (fun o => if memF (kf ml) (30 * o + c) j then g o else 0) nc = sumN (fun i => if (ml i).2 = c then g (ml i).1 else 0) j
  | 0, _, _ => by rw [sumN_congr (g := fun _ => 0) nc (fun p _ => by simp [memF]), sumN_zero]; rfl
  | j + 1, h1, h2 => by
    have ih := trip_sum (g := g) hc hn j (fun i hi => h1 i (by omega)) (fun i k hi hk => h2 i k (by omega) (by omega))
    have b := h1 j (by omega)
    have st : ∀ o, memF (kf ml) (30 * o + c) (j + 1) = (memF (kf ml) (30 * o + c) j || decide (kf ml j = 30 * o + c)) := fun _ => rfl
    have e2 : sumN (fun i => if (ml i).2 = c then g (ml i).1 else 0) (j + 1) = sumN (fun i => if (ml i).2 = c then g (ml i).1 else 0) j + (if (ml j).2 = c then g (ml j).1 else 0) := rfl
    rw [e2, ← ih]
    by_cases e : (ml j).2 = c
    · have hno : memF (kf ml) (30 * (ml j).1 + c) j = false := by
        cases q : memF (kf ml) (30 * (ml j).1 + c) j with
        | false => rfl
        | true =>
          obtain ⟨i, q1, q2⟩ := (memF_iff j).mp q
          have bi := h1 i (by omega)
          unfold kf at q2
          have := h2 i j (by omega) (by omega) (Prod.ext (by omega) (by omega))
          omega
      have hs := sumN_at (f := fun o => if memF (kf ml) (30 * o + c) j then g o else 0) (g := fun o => if memF (kf ml) (30 * o + c) (j + 1) then g o else 0) (j := (ml j).1) nc (fun o ho hne => by
        simp only [st]
        rw [decide_eq_false (fun q => by unfold kf at q; omega), Bool.or_false]) b.1
      have e1 : memF (kf ml) (30 * (ml j).1 + c) (j + 1) = true := (memF_iff (j + 1)).mpr ⟨j, by omega, by unfold kf; rw [e]⟩
      simp only [hno, e1, if_true, Bool.false_eq_true, if_false] at hs
      rw [if_pos e]
      omega
    · rw [if_neg e, Nat.add_zero]
      refine sumN_congr nc (fun o ho => ?_)
      simp only [st]
      rw [decide_eq_false (fun q => by unfold kf at q; omega), Bool.or_false]
theorem nI_twice (a : Nat) : (2 : Int32) * nI a = nI (2 * a) := pk_mul 2 a
theorem journeys_S (a : Int32) : StepR (fun u => fx_X11_journeys_0 u a) (fun u => fx_X12_journeys_69 u a) := by
  rintro x m ⟨A, mc, ml, k, cj, h⟩
  have hp := h.1
  have hn := hp.ncB
  have hM := h.2.1.2.2.1
  dsimp only
  unfold fx_X11_journeys_0 fx_X12_journeys_69
  rcases plays_B hp a with ⟨c, l, d, hc, rfl, hst, hl, hd, p1, p2⟩ | ⟨p1, p2⟩
  · have k1 : loop (fx_X11_journeys_0_l17 x (nI c)) llFuel (0, 0) = some (nI (sumN (fun i => if (ml i).2 = c then 2 * A.mi (ml i).1 c else 0) mc)) := by
      have hmc := hM.1
      refine loop_sumN (fun i => if (ml i).2 = c then 2 * A.mi (ml i).1 c else 0) mc ?_ ?_ (llF (by omega))
      · intro i s hi
        obtain ⟨b1, b2, b3, b4, _⟩ := hM.2.2.1 i hi
        unfold fx_X11_journeys_0_l17 fx_X11_journeys_0_j63_b17
        dsimp only
        rw [hM.2.1, if_neg (nle2 (by omega) (by omega) hi), gI_nI (by omega) (by decide), gI_nI (by omega) (by decide), rI_n (by omega), rI_n (by omega), b1, b2, between_x hp b3 hc]
        simp only [Option.bind_some, lt_eq, nI_1, nI_twice, nI_add]
        by_cases e0 : (ml i).2 = c
        · rw [if_neg (fun q => q (by rw [e0])), if_pos e0]
        · rw [if_pos (fun q => e0 (nI_inj (by omega) (by omega) q)), if_neg e0]; first | done | rfl
      · intro s
        unfold fx_X11_journeys_0_l17
        dsimp only
        rw [hM.2.1, if_pos (le2 (by omega) (by omega) (Nat.le_refl _))]
    have k2 : loop (fx_X12_journeys_69_l14 m (nI c)) llFuel (0, 0) = some (nI (sumN (fun o => if memF (kf ml) (30 * o + c) mc then 2 * A.mi o c else 0) A.nc)) := by
      refine loop_sumN (fun o => if memF (kf ml) (30 * o + c) mc then 2 * A.mi o c else 0) A.nc ?_ ?_ (llF (by omega))
      · intro i s hi
        have q := kf_mem (m := m) hn hM (a := i) (b := c) (by omega) (by omega)
        unfold fx_X12_journeys_69_l14 fx_X12_journeys_69_j45_b14
        dsimp only
        rw [hp.m9, if_neg (nle2 (by omega) (by omega) hi), goalsAt_m h.2.1 (by omega) (by omega), miles_m hp hi hc]
        simp only [Option.bind_some, lt_eq, nI_1, nI_twice, nI_add, i32_add_zero]
        by_cases e0 : x.1 17 (30 * i + c) = -1
        · rw [if_neg (fun r => r e0), if_neg (fun r => (q.mp r) e0)]; first | done | rfl
        · rw [if_pos e0, if_pos (q.mpr e0)]
      · intro s
        unfold fx_X12_journeys_69_l14
        dsimp only
        rw [hp.m9, if_pos (le2 (by omega) (by omega) (Nat.le_refl _))]
    have k3 := trip_sum (ml := ml) (g := fun o => 2 * A.mi o c) (c := c) (nc := A.nc) (by omega) hn mc (fun i hi => by
      obtain ⟨_, _, b3, b4, _⟩ := hM.2.2.1 i hi
      exact ⟨b3, by omega⟩) hM.2.2.2.1
    rw [k3] at k2
    rw [p1, p2, Option.bind_some, Option.bind_some, if_pos one_ne, if_pos one_ne, k1, k2]
    exact ⟨_, rfl, rfl⟩
  · rw [p1, p2]; exact ⟨_, rfl, rfl⟩
/-! the first of the least -/
def nrB (P : Nat → Bool) (w : Nat → Nat) : Nat → Option Nat
  | 0 => none
  | n + 1 => if P n then (match nrB P w n with
    | none => some n
    | some b => if w n < w b then some n else some b) else nrB P w n
theorem nrB_some {P : Nat → Bool} {w : Nat → Nat} : ∀ (n : Nat) {b : Nat}, nrB P w n = some b → b < n ∧ P b = true
  | 0, b, h => by simp [nrB] at h
  | n + 1, b, h => by
    unfold nrB at h
    by_cases e : P n = true
    · rw [if_pos e] at h
      cases q : nrB P w n with
      | none =>
        rw [q] at h
        simp only [Option.some.injEq] at h
        subst h; exact ⟨by omega, e⟩
      | some b' =>
        rw [q] at h
        dsimp only at h
        by_cases e2 : w n < w b'
        · rw [if_pos e2, Option.some.injEq] at h
          subst h; exact ⟨by omega, e⟩
        · rw [if_neg e2, Option.some.injEq] at h
          subst h
          obtain ⟨h1, h2⟩ := nrB_some n q
          exact ⟨by omega, h2⟩
    · rw [if_neg e] at h
      obtain ⟨h1, h2⟩ := nrB_some n h
      exact ⟨by omega, h2⟩
theorem nrB_f {P : Nat → Bool} {w : Nat → Nat} {n : Nat} (h : P n = false) : nrB P w (n + 1) = nrB P w n := by
  show (if P n then _ else _) = _
  rw [h]; rfl
theorem nrB_tn {P : Nat → Bool} {w : Nat → Nat} {n : Nat} (h : P n = true) (q : nrB P w n = none) : nrB P w (n + 1) = some n := by
  show (if P n then _ else _) = _
  rw [h, if_pos rfl, q]
theorem nrB_ts {P : Nat → Bool} {w : Nat → Nat} {n b : Nat} (h : P n = true) (q : nrB P w n = some b) : nrB P w (n + 1) = if w n < w b then some n else some b := by
  show (if P n then _ else _) = _
  rw [h, if_pos rfl, q]
def bI (o : Option Nat) : Int32 := match o with
  | none => -1
  | some b => nI b
def wI (w : Nat → Nat) (o : Option Nat) : Int32 := match o with
  | none => 2147483647
  | some b => nI (w b)
theorem nearest_S (a : Int32) : StepR (fun u => fx_X11_nearest_0 u a) (fun u => fx_X12_nearest_69 u a) := by
  rintro x m ⟨A, mc, ml, k, cj, h⟩
  have hp := h.1
  have hn := hp.ncB
  dsimp only
  unfold fx_X11_nearest_0 fx_X12_nearest_69
  rcases plays_B hp a with ⟨c, l, d, hc, rfl, hst, hl, hd, p1, p2⟩ | ⟨p1, p2⟩
  · generalize hP : (fun i => decide (i ≠ c ∧ A.st i = some (l, d))) = P
    have P0 : ∀ i, P i = decide (i ≠ c ∧ A.st i = some (l, d)) := fun i => by rw [← hP]
    generalize hW : (fun o => A.mi c o) = w
    have W0 : ∀ i, A.mi c i = w i := fun i => by rw [← hW]
    have k1 : fx_X10_closest_48 x (nI c) = some (bI (nrB P w A.nc)) := by
      unfold fx_X10_closest_48
      suffices q : loop (fx_X10_closest_48_l8 x (nI c)) llFuel (-1, 2147483647, 0) = some (bI (nrB P w A.nc)) by rw [q]; rfl
      refine loop_run0 (fun i => (bI (nrB P w i), wI w (nrB P w i), nI i)) (bI (nrB P w A.nc)) A.nc llFuel rfl ?_ ?_ (llF (by omega))
      · intro i hi
        have bnd := mi_le hp hc hi
        unfold fx_X10_closest_48_l8 fx_X10_closest_48_j61_b8
        dsimp only
        rw [hp.x35, if_neg (nle2 (by omega) (by omega) hi), tog_x hp hc hi hst, between_x hp hc hi]
        simp only [Option.bind_some, lt_eq, nI_1]
        by_cases e0 : i = c
        · rw [if_pos (by rw [e0]), nrB_f (by rw [P0]; exact decide_eq_false (fun q => q.1 e0))]
        · rw [if_neg (fun q => e0 (nI_inj (by omega) (by omega) q))]
          by_cases e1 : A.st i = some (l, d)
          · have pt : P i = true := by rw [P0]; exact decide_eq_true ⟨e0, e1⟩
            rw [if_pos e1, if_neg one_ne]
            cases q : nrB P w i with
            | none =>
              rw [nrB_tn pt q]
              unfold wI bI
              dsimp only
              rw [if_neg, W0]
              rw [show (2147483647 : Int32) = nI 2147483647 from rfl]
              exact nle2 (by decide) (by omega) (by omega)
            | some b =>
              have hb := nrB_some i q
              have bnd2 := mi_le hp hc (show b < A.nc by omega)
              rw [nrB_ts pt q]
              unfold wI bI
              dsimp only
              rw [W0] at bnd bnd2 ⊢
              by_cases e2 : w i < w b
              · rw [if_neg (nle2 (by omega) (by omega) e2), if_pos e2]
              · rw [if_pos (le2 (by omega) (by omega) (by omega)), if_neg e2]
          · rw [if_neg e1, if_pos rfl, nrB_f (by rw [P0]; exact decide_eq_false (fun q => e1 q.2))]
      · unfold fx_X10_closest_48_l8
        dsimp only
        rw [hp.x35, if_pos (le2 (by omega) (by omega) (Nat.le_refl _))]
    have k2 : loop (fx_X12_nearest_69_l14 m (nI c)) llFuel (-1, 0) = some (bI (nrB P w A.nc)) := by
      refine loop_run0 (fun i => (bI (nrB P w i), nI i)) (bI (nrB P w A.nc)) A.nc llFuel rfl ?_ ?_ (llF (by omega))
      · intro i hi
        have bnd := mi_le hp hc hi
        unfold fx_X12_nearest_69_l14 fx_X12_nearest_69_j56_b14 fx_X12_nearest_69_j58_b14
        dsimp only
        rw [hp.m9, if_neg (nle2 (by omega) (by omega) hi), tog_m2 hp hc hi hst, miles_m hp hi hc, mi_comm hp hi hc]
        simp only [Option.bind_some, lt_eq, nI_1]
        by_cases e0 : i = c
        · rw [if_pos (by rw [e0]), nrB_f (by rw [P0]; exact decide_eq_false (fun q => q.1 e0))]
        · rw [if_neg (fun q => e0 (nI_inj (by omega) (by omega) q))]
          by_cases e1 : A.st i = some (l, d)
          · have pt : P i = true := by rw [P0]; exact decide_eq_true ⟨e0, e1⟩
            rw [if_pos e1, if_neg one_ne]
            cases q : nrB P w i with
            | none =>
              rw [nrB_tn pt q]
              unfold bI
              dsimp only
              rw [if_pos rfl]
            | some b =>
              have hb := nrB_some i q
              have hbn : b < A.nc := by omega
              have bnd2 := mi_le hp hc hbn
              rw [nrB_ts pt q]
              unfold bI
              dsimp only
              rw [if_neg (nI_nm1 (by omega)), miles_m hp hbn hc, mi_comm hp hbn hc, Option.bind_some]
              rw [W0] at bnd bnd2 ⊢
              rw [W0]
              by_cases e2 : w i < w b
              · rw [if_neg (nle2 (by omega) (by omega) e2), if_pos e2]
              · rw [if_pos (le2 (by omega) (by omega) (by omega)), if_neg e2]
          · rw [if_neg e1, if_pos rfl, nrB_f (by rw [P0]; exact decide_eq_false (fun q => e1 q.2))]
      · unfold fx_X12_nearest_69_l14
        dsimp only
        rw [hp.m9, if_pos (le2 (by omega) (by omega) (Nat.le_refl _))]
    rw [p1, p2, Option.bind_some, Option.bind_some, if_neg one_ne, if_pos one_ne, k1, k2]
    exact ⟨_, rfl, rfl⟩
  · rw [p1, p2]; exact ⟨_, rfl, rfl⟩
theorem howMany_x {A : Ab} {x m : llMem} (h : IPyr A x m) (a : Int32) : fx_X5_howMany_3 x a = some (sumI (fun i => if lvI A i = a then 1 else 0) A.nc) := by
  have hn := h.ncB
  unfold fx_X5_howMany_3
  rw [loop_sumI (fun i => if lvI A i = a then 1 else 0) A.nc ?_ ?_ (llF (by omega))]
  · rfl
  · intro i s hi
    unfold fx_X5_howMany_3_l4 fx_X5_howMany_3_j25_b4
    dsimp only
    rw [h.x35, if_neg (nle2 (by omega) (by omega) hi), gI_nI (by omega) (by decide), rI_n (by omega), (h.cl hi).x12]
    simp only [lt_eq, nI_1]
    by_cases e : lvI A i = a
    · rw [if_neg (fun q => q e), if_pos e]
    · rw [if_pos e, if_neg e, i32_add_zero]
  · intro s
    unfold fx_X5_howMany_3_l4
    dsimp only
    rw [h.x35, if_pos (le2 (by omega) (by omega) (Nat.le_refl _))]
theorem look_m1 {A : Ab} {x m : llMem} (h : IPyr A x m) (a b : Int32) : loop (fx_X12_look_69_l10 m a b) llFuel (0, 0, 0) = some (sumI (fun i => if lvI A i = -1 then 1 else 0) A.nc, sumI (fun i => if lvI A i = -2 then 1 else 0) A.nc) := by
  have hn := h.ncB
  refine loop_run0 (fun i => (sumI (fun i => if lvI A i = -1 then 1 else 0) i, sumI (fun i => if lvI A i = -2 then 1 else 0) i, nI i)) _ A.nc llFuel rfl ?_ ?_ (llF (by omega))
  · intro i hi
    unfold fx_X12_look_69_l10 fx_X12_look_69_j36_b10 fx_X12_look_69_j59_b10
    dsimp only
    rw [h.m9, if_neg (nle2 (by omega) (by omega) hi), gI_nI (by omega) (by decide), rI_n (by omega), (h.cl hi).m74]
    simp only [one_0, one_1, Option.bind_some, lt_eq, nI_1, gI_nI (show i < 60 by omega) (show 60 < 2 ^ 31 by decide)]
    have s1 : ∀ (f : Nat → Int32), sumI f (i + 1) = sumI f i + f i := fun _ => rfl
    rw [s1, s1]
    by_cases e1 : lvI A i = -1
    · have e2 : ¬ lvI A i = -2 := by rw [e1]; decide
      simp only [e1]; simp
    · by_cases e2 : lvI A i = -2
      · simp only [e2]; simp
      · simp only [e1, e2]; simp
  · unfold fx_X12_look_69_l10
    dsimp only
    rw [h.m9, if_pos (le2 (by omega) (by omega) (Nat.le_refl _))]
theorem look_m2 {A : Ab} {x m : llMem} {mc : Nat} {ml : Nat → Nat × Nat} (h : IPyr A x m) (hs : ISea A x m mc ml) (a b c : Int32) : loop (fx_X12_look_69_l73 m a b c) llFuel (0, 0) = some (nI mc) := by
  rw [← told_count (m := m) h.ncB hs.2.2.1]
  refine loop_sumN (fun p => if x.1 17 p = -1 then 0 else 1) 900 ?_ ?_ (llF (by omega))
  · intro i s hi
    unfold fx_X12_look_69_l73 fx_X12_look_69_j102_b73
    dsimp only
    rw [show (900 : Int32) = nI 900 from rfl, show (120 : Int32) + nI i = nI (120 + i) from nI_add 120 i, if_neg (nle2 (by omega) (by omega) hi), gI_nI (by omega) (by decide), rI_n (by omega), hs.2.1 i hi]
    simp only [one_0, one_1, Option.bind_some, lt_eq, nI_1, i32_add_zero]
    by_cases e : x.1 17 i = -1
    · rw [if_pos e, if_pos e]; first | done | rfl
    · rw [if_neg e, if_neg e]
  · intro s
    unfold fx_X12_look_69_l73
    dsimp only
    rw [show (900 : Int32) = nI 900 from rfl, if_pos (le2 (by omega) (by omega) (Nat.le_refl _))]
theorem look_S (a : Int32) : StepR (fun u => fx_X11_look_0 u a) (fun u => fx_X12_look_69 u a) := by
  rintro x m ⟨A, mc, ml, k, cj, h⟩
  have hp := h.1
  dsimp only
  unfold fx_X11_look_0 fx_X12_look_69
  obtain ⟨bb, n, hT, hM⟩ := h.2.2.2.2.2.1
  rw [look_m1 hp, Option.bind_some, look_m2 hp h.2.1, Option.bind_some, howMany_x hp, howMany_x hp, hp.x30, hp.m1, hp.x35, hp.m9, h.2.1.2.2.1.2.1, h.2.2.1.2.1, h.2.2.1.2.2.1, h.2.2.2.2.2.2.2.1, hT.2.1, hM.2.1]
  simp only [Option.bind_some]
  by_cases h0 : a = 0
  · rw [if_pos h0]; exact ⟨_, rfl, rfl⟩
  rw [if_neg h0]
  by_cases h0 : a = 1
  · rw [if_pos h0]; exact ⟨_, rfl, rfl⟩
  rw [if_neg h0]
  by_cases h0 : a = 2
  · rw [if_pos h0]; exact ⟨_, rfl, rfl⟩
  rw [if_neg h0]
  by_cases h0 : a = 3
  · rw [if_pos h0]; exact ⟨_, rfl, rfl⟩
  rw [if_neg h0]
  by_cases h0 : a = 4
  · rw [if_pos h0]; exact ⟨_, rfl, rfl⟩
  rw [if_neg h0]
  by_cases h0 : a = 5
  · rw [if_pos h0]; exact ⟨_, rfl, rfl⟩
  rw [if_neg h0]
  by_cases h0 : a = 6
  · rw [if_pos h0]; exact ⟨_, rfl, rfl⟩
  rw [if_neg h0]
  by_cases h0 : a = 7
  · rw [if_pos h0]; exact ⟨_, rfl, rfl⟩
  rw [if_neg h0]
  exact ⟨_, rfl, rfl⟩
