/-! are all divisions full -/
def sumN (f : Nat → Nat) : Nat → Nat
  | 0 => 0
  | n + 1 => sumN f n + f n
theorem sumN_congr {f g : Nat → Nat} : ∀ (n : Nat), (∀ i, i < n → f i = g i) → sumN f n = sumN g n
  | 0, _ => rfl
  | n + 1, h => by rw [sumN, sumN, sumN_congr n (fun i hi => h i (by omega)), h n (by omega)]
theorem sumN_add (f g : Nat → Nat) : ∀ (n : Nat), sumN (fun i => f i + g i) n = sumN f n + sumN g n
  | 0 => rfl
  | n + 1 => by simp only [sumN]; rw [sumN_add f g n]; omega
theorem sumN_zero : ∀ (n : Nat), sumN (fun _ => 0) n = 0
  | 0 => rfl
  | n + 1 => by simp only [sumN]; rw [sumN_zero n]
theorem sumN_one {D d : Nat} (h : d < D) : sumN (fun i => if i = d then 1 else 0) D = 1 := by
  induction D with
  | zero => omega
  | succ D ih =>
    simp only [sumN]
    by_cases e : D = d
    · subst e
      rw [if_pos rfl, sumN_congr (g := fun _ => 0) D (fun i hi => by rw [if_neg (by omega)]), sumN_zero]
    · rw [if_neg e, ih (by omega)]
def inLev (st : Nat → Option (Nat × Nat)) (l : Nat) : Nat → Nat := cnt (fun c => (st c).map Prod.fst = some l) (fun _ => inferInstance)
theorem inLev_sum {st : Nat → Option (Nat × Nat)} {l D : Nat} : ∀ (nc : Nat), (∀ c d, c < nc → st c = some (l, d) → d < D) → inLev st l nc = sumN (fun d => inDiv st l d nc) D
  | 0, _ => (sumN_zero D).symm
  | nc + 1, h => by
    have ih := inLev_sum (D := D) nc (fun c d hc => h c d (by omega))
    cases hs : st nc with
    | none =>
      have e1 : inLev st l (nc + 1) = inLev st l nc := cnt_f (by rw [hs]; simp)
      have e2 : ∀ d, inDiv st l d (nc + 1) = inDiv st l d nc := fun d => cnt_f (by rw [hs]; simp)
      rw [e1, ih]
      exact sumN_congr D (fun d _ => (e2 d).symm)
    | some q =>
      obtain ⟨a, b⟩ := q
      by_cases e : a = l
      · subst e
        have hb := h nc b (by omega) hs
        have e1 : inLev st a (nc + 1) = inLev st a nc + 1 := cnt_t (by rw [hs]; rfl)
        have e2 : ∀ d, inDiv st a d (nc + 1) = inDiv st a d nc + (if d = b then 1 else 0) := fun d => by
          by_cases q : d = b
          · subst q; rw [if_pos rfl]; exact cnt_t hs
          · rw [if_neg q]; exact cnt_f (by rw [hs]; simp; exact fun q2 => q q2.symm)
        rw [e1, ih, sumN_congr D (fun d _ => e2 d), sumN_add, sumN_one hb]
      · have e1 : inLev st l (nc + 1) = inLev st l nc := cnt_f (by rw [hs]; simpa using e)
        have e2 : ∀ d, inDiv st l d (nc + 1) = inDiv st l d nc := fun d => cnt_f (by rw [hs]; simp; exact fun q => absurd q e)
        rw [e1, ih]
        exact sumN_congr D (fun d _ => (e2 d).symm)
theorem sumN_le {f : Nat → Nat} {s : Nat} : ∀ (D : Nat), (∀ d, d < D → f d ≤ s) → sumN f D ≤ D * s
  | 0, _ => by simp [sumN]
  | D + 1, h => by
    have := sumN_le D (fun d hd => h d (by omega))
    have := h D (by omega)
    simp only [sumN, Nat.add_mul, Nat.one_mul]
    omega
theorem sumN_full {f : Nat → Nat} {s : Nat} : ∀ (D : Nat), (∀ d, d < D → f d ≤ s) → (D * s ≤ sumN f D ↔ ∀ d, d < D → f d = s)
  | 0, _ => by simp [sumN]
  | D + 1, h => by
    have h1 := sumN_le D (fun d hd => h d (by omega))
    have h2 := h D (by omega)
    have ih := sumN_full D (fun d hd => h d (by omega))
    simp only [sumN, Nat.add_mul, Nat.one_mul]
    constructor
    · intro q d hd
      by_cases e : d = D
      · subst e; omega
      · exact ih.mp (by omega) d (by omega)
    · intro q
      have := ih.mpr (fun d hd => q d (by omega))
      have := q D (by omega)
      omega
theorem howMany_31 {u : llMem} {nc : Nat} (hc : u.1 31 5 = nI nc) (hn : nc ≤ 30) (a : Int32) : fx_X5_howMany_31 u a = some (nI (cnt (fun i => u.1 40 i = a) (fun _ => inferInstance) nc)) := by
  unfold fx_X5_howMany_31
  rw [loop_run0 (fun i => (nI (cnt (fun i => u.1 40 i = a) (fun _ => inferInstance) i), nI i)) (nI (cnt (fun i => u.1 40 i = a) (fun _ => inferInstance) nc)) nc llFuel (s := ((0 : Int32), (0 : Int32))) rfl ?_ ?_ (by unfold llFuel; omega)]
  · rfl
  · intro i hi
    unfold fx_X5_howMany_31_l4 fx_X5_howMany_31_j25_b4
    dsimp only
    have r : rI u 40 (nI i) = u.1 40 i := by unfold rI; rw [nI_clamp (by omega)]
    rw [hc, if_neg (nle2 (by omega) (by omega) hi), gI_nI (by omega) (by decide), r]
    by_cases e : u.1 40 i = a
    · rw [if_neg (fun q => q e), cnt_t e]
      simp only [lt_eq, nI_1]
    · rw [if_pos e, cnt_f e]
      simp only [lt_eq, nI_1]
  · unfold fx_X5_howMany_31_l4
    dsimp only
    rw [hc, if_pos (le2 (by omega) (by omega) (Nat.le_refl _))]
def FullSt (nl nc : Nat) (dv sz : Nat → Nat) (st : Nat → Option (Nat × Nat)) : Prop := ∀ l d, l < nl → d < dv l → inDiv st l d nc = sz l
theorem inLev_x {x m : llMem} {nl nc : Nat} {dv sz dn nd cx cy gr : Nat → Nat} {ws : Nat → List Nat} {st : Nat → Option (Nat × Nat)} (hD : DR x m nl nc dv sz dn nd cx cy gr ws st) {l : Nat} (hl : l < 99) : cnt (fun i => x.1 40 i = nI l) (fun _ => inferInstance) nc = inLev st l nc := by
  refine cnt_congr nc (fun i hi => ?_)
  have h := (hD.2.1.2.2.2 i hi).2.2.2.2.2.2.2.2.2.2.2.2.2.2
  have := hD.1.1
  cases hs : st i with
  | none =>
    rw [hs] at h
    refine ⟨fun q => absurd (h.1.symm.trans q) (fun e => nI_nm1 (by omega) e.symm), fun q => by cases q⟩
  | some q =>
    obtain ⟨a, b⟩ := q
    rw [hs] at h
    obtain ⟨h1, h2, h3, h4⟩ := h
    rw [h3, nI_eq (by omega) (by omega)]
    simp
theorem full_lev {x m : llMem} {nl nc : Nat} {dv sz dn nd cx cy gr : Nat → Nat} {ws : Nat → List Nat} {st : Nat → Option (Nat × Nat)} (hD : DR x m nl nc dv sz dn nd cx cy gr ws st) {l : Nat} (hl : l < nl) : dv l * sz l ≤ inLev st l nc ↔ ∀ d, d < dv l → inDiv st l d nc = sz l := by
  rw [inLev_sum (D := dv l) nc (fun c d hc hs => by
    have h := (hD.2.1.2.2.2 c hc).2.2.2.2.2.2.2.2.2.2.2.2.2.2
    rw [hs] at h
    exact h.2.1)]
  exact sumN_full (dv l) (fun d hd => hD.2.2 l d hl hd)
theorem allFull_x {x m : llMem} {nl nc : Nat} {dv sz dn nd cx cy gr : Nat → Nat} {ws : Nat → List Nat} {st : Nat → Option (Nat × Nat)} (hD : DR x m nl nc dv sz dn nd cx cy gr ws st) : (FullSt nl nc dv sz st → fx_X6_allFull_30 x = some 1) ∧ (¬ FullSt nl nc dv sz st → fx_X6_allFull_30 x = some 0) := by
  have hl4 := hD.1.1
  have key : ∃ e, loop (fx_X6_allFull_30_l2 x) llFuel 0 = some e ∧ ((e = .inl () ∧ FullSt nl nc dv sz st) ∨ (e = .inr 0 ∧ ¬ FullSt nl nc dv sz st)) := by
    refine loop_meas (fun s => ∃ i, i ≤ nl ∧ s = nI i ∧ ∀ l d, l < i → d < dv l → inDiv st l d nc = sz l) (fun s => nl - s.toNatClampNeg) _ llFuel 0 ⟨0, by omega, rfl, fun l d h => by omega⟩ ?_ (by unfold llFuel; omega)
    rintro s ⟨i, hi, rfl, hf⟩
    unfold fx_X6_allFull_30_l2
    rw [hD.1.2.1]
    by_cases e : i = nl
    · subst e
      rw [if_pos (le2 (by omega) (by omega) (Nat.le_refl _))]
      exact Or.inr ⟨_, rfl, Or.inl ⟨rfl, hf⟩⟩
    · have hi' : i < nl := by omega
      obtain ⟨b1, b2, b3, b4, b5, b6, b7, b8, b9, b10, b11, b12, b13, b14, b15⟩ := hD.1.2.2.2 i hi'
      have r32 : rI x 32 (nI i) = nI (dv i) := by unfold rI; rw [nI_clamp (by omega)]; exact b1
      have r33 : rI x 33 (nI i) = nI (sz i) := by unfold rI; rw [nI_clamp (by omega)]; exact b2
      have hle : inLev st i nc ≤ 30 := by have := cnt_le (fun c => (st c).map Prod.fst = some i) (fun _ => inferInstance) nc; have := hD.2.1.1; unfold inLev; omega
      rw [if_neg (nle2 (by omega) (by omega) hi'), howMany_31 hD.2.1.2.1 hD.2.1.1, Option.bind_some, inLev_x hD (by omega), gI_nI (by omega) (by decide), gI_nI (by omega) (by decide), r32, r33, pk_mul]
      by_cases q : dv i * sz i ≤ inLev st i nc
      · rw [if_pos (le2 (by omega) (by omega) q)]
        simp only [lt_eq, nI_1]
        refine Or.inl ⟨_, rfl, ⟨i + 1, by omega, rfl, fun l d h1 h2 => ?_⟩, ?_⟩
        · by_cases q2 : l = i
          · subst q2; exact (full_lev hD hi').mp q d h2
          · exact hf l d (by omega) h2
        · rw [nI_clamp (by omega), nI_clamp (by omega)]; omega
      · rw [if_neg (nle2 (by omega) (by omega) (by omega)), gB_0]
        exact Or.inr ⟨_, rfl, Or.inr ⟨rfl, fun h => q ((full_lev hD hi').mpr (fun d hd => h i d hi' hd))⟩⟩
  obtain ⟨e, h1, h2⟩ := key
  unfold fx_X6_allFull_30
  rw [h1]
  rcases h2 with ⟨rfl, h3⟩ | ⟨rfl, h3⟩
  · exact ⟨fun _ => rfl, fun h => absurd h3 h⟩
  · exact ⟨fun h => absurd h h3, fun _ => rfl⟩
theorem fails_n {u : llMem} {k : Int32} (h0 : ¬ u.1 69 19 = 0) : fx_X12_fails_69 u k = some (u, 0) := by
  unfold fx_X12_fails_69
  rw [if_pos h0, gB_0]
theorem full_in {x m : llMem} {nl nc : Nat} {dv sz dn nd cx cy gr : Nat → Nat} {ws : Nat → List Nat} {st : Nat → Option (Nat × Nat)} (hD : DR x m nl nc dv sz dn nd cx cy gr ws st) {pl : Nat} (h22 : m.1 69 22 = nI pl) (h0 : m.1 69 19 = 0) {l : Nat} (hl : l < nl) :
    ∃ e, loop (fx_X12_pyramid_69_l73_b56 (nI l)) llFuel (m, 0) = some e ∧ ((e = m ∧ ∀ d, d < dv l → inDiv st l d nc = sz l) ∨ (SmF 69 [19, 20] m e ∧ FM e 5 pl ∧ ¬ ∀ d, d < dv l → inDiv st l d nc = sz l)) := by
  obtain ⟨b1, b2, b3, b4, b5, b6, b7, b8, b9, b10, b11, b12, b13, b14, b15⟩ := hD.1.2.2.2 l hl
  have hl4 := hD.1.1
  have e16 : (4 : Int32) * (4 + nI l) = nI (16 + 4 * l) := by
    rw [show (4 : Int32) = nI 4 from rfl, nI_add, pk_mul]; congr 1; omega
  have z0 : nI (16 + 4 * l) + 0 = nI (16 + 4 * l) := nI_add _ 0
  have z1 : nI (16 + 4 * l) + 1 = nI (16 + 4 * l + 1) := nI_add _ 1
  refine loop_inv (fun i s => s.2 = nI i ∧ ((s.1 = m ∧ ∀ d, d < i → inDiv st l d nc = sz l) ∨ (SmF 69 [19, 20] m s.1 ∧ FM s.1 5 pl ∧ ¬ ∀ d, d < i → inDiv st l d nc = sz l))) _ (dv l) llFuel (m, 0) ⟨rfl, Or.inl ⟨rfl, fun d h => by omega⟩⟩ ?_ ?_ (by unfold llFuel; omega)
  · rintro i ⟨u, v⟩ hi ⟨hv, hs⟩
    dsimp only at hv hs
    subst hv
    have hsm : SmF 69 [19, 20] m u := by
      rcases hs with ⟨rfl, _⟩ | ⟨h, _⟩
      · exact SmF.refl _ _ _
      · exact h
    have Du : DR x u nl nc dv sz dn nd cx cy gr ws st := hD.of (SmF.refl _ _ _) (hsm.mono (by simp))
    have r70 : rI u 70 (nI (16 + 4 * l)) = nI (dv l) := by unfold rI; rw [nI_clamp (by omega), (hsm.1 70 (by decide)).1]; exact b5
    have r71 : rI u 70 (nI (16 + 4 * l + 1)) = nI (sz l) := by unfold rI; rw [nI_clamp (by omega), (hsm.1 70 (by decide)).1]; exact b6
    have hle := hD.2.2 l i hl hi
    unfold fx_X12_pyramid_69_l73_b56 fx_X12_pyramid_69_j116_b73_b56
    dsimp only
    rw [e16, z0, z1, gI_nI (by omega) (by decide), r70, if_neg (nle2 (by omega) (by omega) hi), manyIn_m Du.2.1.2.2.1 Du.2.1.1, inDiv_m Du (by omega) (by omega), Option.bind_some, gI_nI (by omega) (by decide), r71]
    by_cases q : inDiv st l i nc = sz l
    · rw [if_pos (le2 (by omega) (by omega) (by omega))]
      simp only [lt_eq, nI_1]
      refine ⟨_, rfl, rfl, ?_⟩
      rcases hs with ⟨h1, h2⟩ | ⟨h1, h2, h3⟩
      · refine Or.inl ⟨h1, fun d hd => ?_⟩
        by_cases q2 : d = i
        · subst q2; exact q
        · exact h2 d (by omega)
      · exact Or.inr ⟨h1, h2, fun h => h3 (fun d hd => h d (by omega))⟩
    · rw [if_neg (nle2 (by omega) (by omega) (by omega))]
      rcases hs with ⟨h1, h2⟩ | ⟨h1, h2, h3⟩
      · subst h1
        obtain ⟨u', f1, f2, f3⟩ := fails_m u 5 pl h22 h0
        rw [f1, bd_mk]
        simp only [lt_eq, nI_1]
        exact ⟨_, rfl, rfl, Or.inr ⟨f2, f3, fun h => q (h i (by omega))⟩⟩
      · rw [fails_n (by rw [h2.1]; decide), bd_mk]
        simp only [lt_eq, nI_1]
        exact ⟨_, rfl, rfl, Or.inr ⟨h1, h2, fun h => q (h i (by omega))⟩⟩
  · rintro ⟨u, v⟩ ⟨hv, hs⟩
    dsimp only at hv hs
    subst hv
    have hsm : SmF 69 [19, 20] m u := by
      rcases hs with ⟨rfl, _⟩ | ⟨h, _⟩
      · exact SmF.refl _ _ _
      · exact h
    have r70 : rI u 70 (nI (16 + 4 * l)) = nI (dv l) := by unfold rI; rw [nI_clamp (by omega), (hsm.1 70 (by decide)).1]; exact b5
    unfold fx_X12_pyramid_69_l73_b56
    dsimp only
    rw [e16, z0, gI_nI (by omega) (by decide), r70, if_pos (le2 (by omega) (by omega) (Nat.le_refl _))]
    exact ⟨_, rfl, hs⟩
theorem full_out {x m : llMem} {nl nc : Nat} {dv sz dn nd cx cy gr : Nat → Nat} {ws : Nat → List Nat} {st : Nat → Option (Nat × Nat)} (hD : DR x m nl nc dv sz dn nd cx cy gr ws st) {pl : Nat} (h22 : m.1 69 22 = nI pl) (h0 : m.1 69 19 = 0) :
    ∃ e, loop fx_X12_pyramid_69_l56 llFuel (m, 0) = some e ∧ ((e = m ∧ FullSt nl nc dv sz st) ∨ (SmF 69 [19, 20] m e ∧ FM e 5 pl ∧ ¬ FullSt nl nc dv sz st)) := by
  have hl4 := hD.1.1
  refine loop_meas (fun s => ∃ i, i ≤ nl ∧ s.2 = nI i ∧ ((s.1 = m ∧ ∀ l d, l < i → d < dv l → inDiv st l d nc = sz l) ∨ (SmF 69 [19, 20] m s.1 ∧ FM s.1 5 pl ∧ ¬ FullSt nl nc dv sz st))) (fun s => nl - s.2.toNatClampNeg) _ llFuel (m, 0) ⟨0, by omega, rfl, Or.inl ⟨rfl, fun l d h => by omega⟩⟩ ?_ (by show nl - 0 < llFuel; unfold llFuel; omega)
  rintro ⟨u, v⟩ ⟨i, hi, hv, hs⟩
  dsimp only at hv hs
  subst hv
  unfold fx_X12_pyramid_69_l56
  dsimp only
  rcases hs with ⟨rfl, h2⟩ | ⟨h1, h2, h3⟩
  · rw [hD.1.2.2.1]
    by_cases e : i = nl
    · subst e
      rw [if_pos (le2 (by omega) (by omega) (Nat.le_refl _))]
      exact Or.inr ⟨_, rfl, Or.inl ⟨rfl, h2⟩⟩
    · have hi' : i < nl := by omega
      obtain ⟨e, f1, f2⟩ := full_in hD h22 h0 hi'
      rw [if_neg (nle2 (by omega) (by omega) hi'), if_neg (fun q => q h0), f1, Option.bind_some]
      simp only [lt_eq, nI_1]
      refine Or.inl ⟨_, rfl, ⟨i + 1, by omega, rfl, ?_⟩, ?_⟩
      · rcases f2 with ⟨rfl, g⟩ | ⟨g1, g2, g3⟩
        · refine Or.inl ⟨rfl, fun l d k1 k2 => ?_⟩
          by_cases q2 : l = i
          · subst q2; exact g d k2
          · exact h2 l d (by omega) k2
        · exact Or.inr ⟨g1, g2, fun h => g3 (fun d hd => h i d hi' hd)⟩
      · dsimp only
        rw [nI_clamp (by omega), nI_clamp (by omega)]; omega
  · refine Or.inr ⟨u, ?_, Or.inr ⟨h1, h2, h3⟩⟩
    rw [if_pos (show ¬ u.1 69 19 = 0 by rw [h2.1]; decide)]
    split <;> rfl
