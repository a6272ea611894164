theorem copyL_m (u : llMem) : ∃ e, loop fx_X12_pyramid_69_l160 llFuel (u, 0) = some e ∧ ((∀ i, i ≠ 70 → e.1 i = u.1 i) ∧ e.2 = u.2 ∧ ∀ k, k < 16 → e.1 70 k = u.1 70 (16 + k)) := by
  refine loop_inv (fun i s => s.2 = nI i ∧ (∀ i, i ≠ 70 → s.1.1 i = u.1 i) ∧ s.1.2 = u.2 ∧ (∀ k, k < i → s.1.1 70 k = u.1 70 (16 + k)) ∧ ∀ k, 16 ≤ k → s.1.1 70 k = u.1 70 k) _ 16 llFuel (u, 0) ⟨rfl, fun _ _ => rfl, rfl, fun k h => by omega, fun _ _ => rfl⟩ ?_ ?_ (by decide)
  · rintro i ⟨s, z⟩ hi ⟨hz, f1, f2, f3, f4⟩
    dsimp only at hz f1 f2 f3 f4
    subst hz
    unfold fx_X12_pyramid_69_l160
    dsimp only
    have e16 : (16 : Int32) + nI i = nI (16 + i) := nI_add 16 i
    rw [if_neg (Lnle 16 (by omega) (by decide) hi), e16, gI_nI (by omega) (by decide), gI_nI (by omega) (by decide), nI_clamp (by omega), rI_n (by omega), lt_eq, lt_eq, nI_1]
    refine ⟨_, rfl, rfl, fun j hj => ?_, f2, fun k hk => ?_, fun k hk => ?_⟩
    · dsimp only; rw [SI_ne hj, f1 j hj]
    · dsimp only
      by_cases e : k = i
      · subst e; rw [SI_same, upd_same, f4 _ (by omega)]
      · rw [SI_at e, f3 k (by omega)]
    · dsimp only; rw [SI_at (by omega), f4 k hk]
  · rintro ⟨s, z⟩ ⟨hz, f1, f2, f3, f4⟩
    dsimp only at hz f1 f2 f3 f4
    subst hz
    unfold fx_X12_pyramid_69_l160
    dsimp only
    rw [if_pos (Lle 16 (by decide) (by decide) (Nat.le_refl _))]
    exact ⟨_, rfl, f1, f2, f3⟩
theorem SL_k {u : llMem} {c k : Nat} {v : Int64} : (llSL u c k v).2.1 c k = v := SL_same _ _ _ _
theorem copyC_m (u : llMem) : ∃ e, loop fx_X12_pyramid_69_l189 llFuel (u, 0) = some e ∧ ((∀ i, i < 71 ∨ i = 76 ∨ 77 < i → e.1 i = u.1 i ∧ e.2.1 i = u.2.1 i) ∧ (∀ k, k < 30 → e.2.1 71 k = u.2.1 71 (30 + k) ∧ e.1 72 k = u.1 72 (30 + k) ∧ e.1 73 k = u.1 73 (30 + k) ∧ e.1 74 k = u.1 74 (30 + k) ∧ e.1 75 k = u.1 75 (30 + k) ∧ e.1 77 k = u.1 76 (30 + k)) ∧ ∀ k, 30 ≤ k → e.1 77 k = u.1 77 k) := by
  refine loop_inv (fun i s => s.2 = nI i ∧ (∀ i, i < 71 ∨ i = 76 ∨ 77 < i → s.1.1 i = u.1 i ∧ s.1.2.1 i = u.2.1 i) ∧ (∀ k, k < i → s.1.2.1 71 k = u.2.1 71 (30 + k) ∧ s.1.1 72 k = u.1 72 (30 + k) ∧ s.1.1 73 k = u.1 73 (30 + k) ∧ s.1.1 74 k = u.1 74 (30 + k) ∧ s.1.1 75 k = u.1 75 (30 + k) ∧ s.1.1 77 k = u.1 76 (30 + k)) ∧ ∀ k, 30 ≤ k → s.1.2.1 71 k = u.2.1 71 k ∧ s.1.1 72 k = u.1 72 k ∧ s.1.1 73 k = u.1 73 k ∧ s.1.1 74 k = u.1 74 k ∧ s.1.1 75 k = u.1 75 k ∧ s.1.1 77 k = u.1 77 k) _ 30 llFuel (u, 0) ⟨rfl, fun _ _ => ⟨rfl, rfl⟩, fun k h => by omega, fun _ _ => ⟨rfl, rfl, rfl, rfl, rfl, rfl⟩⟩ ?_ ?_ (by decide)
  · rintro i ⟨s, z⟩ hi ⟨hz, f1, f3, f4⟩
    dsimp only at hz f1 f3 f4
    subst hz
    unfold fx_X12_pyramid_69_l189
    dsimp only
    have e30 : (30 : Int32) + nI i = nI (30 + i) := nI_add 30 i
    have e0 : (0 : Int32) + nI i = nI i := by rw [show (0 : Int32) = nI 0 from rfl, nI_add, Nat.zero_add]
    rw [if_neg (Lnle 30 (by omega) (by decide) hi), e30, e0]
    simp only [gI_nI (show 30 + i < 60 by omega) (show 60 < 2 ^ 31 by decide), gI_nI (show i < 60 by omega) (show 60 < 2 ^ 31 by decide), gI_nI (show i < 1020 by omega) (show 1020 < 2 ^ 31 by decide), lt_eq, rI_n (show 30 + i < 2 ^ 31 by omega), rL_n (show 30 + i < 2 ^ 31 by omega), nI_clamp (show i < 2 ^ 31 by omega), nI_1]
    obtain ⟨g1, g2, g3, g4, g5, g6⟩ := f4 (30 + i) (by omega)
    have g7 := (f1 76 (by omega)).1
    refine ⟨_, rfl, rfl, fun j hj => ⟨?_, ?_⟩, fun k hk => ?_, fun k hk => ?_⟩
    · dsimp only
      rw [SI_ne (by omega), SI_ne (by omega), SI_ne (by omega), SI_ne (by omega), SI_ne (by omega), SL_1]
      exact (f1 j hj).1
    · dsimp only
      rw [SI_2, SI_2, SI_2, SI_2, SI_2, SL_ne (by omega)]
      exact (f1 j hj).2
    · dsimp only
      rw [SI_2, SI_2, SI_2, SI_2, SI_2]
      by_cases e : k = i
      · subst e
        rw [SL_k]
        simp [llSI, llSA, upd, llSL, llSLA, g1, g2, g3, g4, g5, g7]
      · rw [SL_at e, SI_at e, SI_at e, SI_at e, SI_at e, SI_at e, SL_1, SI_at e, SI_at e, SI_at e, SI_at e, SI_at e, SI_at e, SI_at e, SI_at e, SI_at e, SI_at e, SI_at e, SI_at e, SI_at e, SI_at e, SI_at e, SI_at e, SI_at e, SI_at e, SI_at e, SI_at e]
        exact f3 k (by omega)
    · dsimp only
      have e : k ≠ i := by omega
      rw [SI_2, SI_2, SI_2, SI_2, SI_2, SL_at e]
      simp only [SI_at e, SL_1]
      exact f4 k hk
  · rintro ⟨s, z⟩ ⟨hz, f1, f3, f4⟩
    dsimp only at hz f1 f3 f4
    subst hz
    unfold fx_X12_pyramid_69_l189
    dsimp only
    rw [if_pos (Lle 30 (by decide) (by decide) (Nat.le_refl _))]
    exact ⟨_, rfl, f1, f3, fun k hk => (f4 k hk).2.2.2.2.2⟩
/-- a season begins, the reference's side -/
def Started (u e : llMem) : Prop := (∀ i, i ≠ 69 → i ≠ 77 → e.1 i = u.1 i) ∧ e.2 = u.2 ∧ e.1 69 14 = 0 ∧ (∀ k, k ≠ 14 → e.1 69 k = u.1 69 k) ∧ (∀ k, k < 30 → e.1 77 k = u.1 77 k) ∧ (∀ k, 30 ≤ k → k < 120 → e.1 77 k = 0) ∧ ∀ k, 120 ≤ k → k < 1020 → e.1 77 k = -1
theorem starts_m (u : llMem) : ∃ e, fx_X12_starts_69 u = some (e, ()) ∧ Started u e := by
  have k1 : ∀ v, ∃ e, loop fx_X12_starts_69_l7 llFuel (v, 0) = some e ∧ ((∀ i, i ≠ 77 → e.1 i = v.1 i) ∧ e.2 = v.2 ∧ (∀ k, k < 30 → e.1 77 k = v.1 77 k) ∧ ∀ k, 30 ≤ k → k < 120 → e.1 77 k = 0) := by
    intro v
    refine loop_inv (fun i s => s.2 = nI i ∧ (∀ i, i ≠ 77 → s.1.1 i = v.1 i) ∧ s.1.2 = v.2 ∧ (∀ k, k < 30 → s.1.1 77 k = v.1 77 k) ∧ ∀ k, (30 ≤ k ∧ k < 30 + i) ∨ (60 ≤ k ∧ k < 60 + i) ∨ (90 ≤ k ∧ k < 90 + i) → s.1.1 77 k = 0) _ 30 llFuel (v, 0) ⟨rfl, fun _ _ => rfl, rfl, fun _ _ => rfl, fun k h => by omega⟩ ?_ ?_ (by decide)
    · rintro i ⟨s, z⟩ hi ⟨hz, f1, f2, f3, f4⟩
      dsimp only at hz f1 f2 f3 f4
      subst hz
      unfold fx_X12_starts_69_l7
      dsimp only
      have e30 : (30 : Int32) + nI i = nI (30 + i) := nI_add 30 i
      have e60 : (60 : Int32) + nI i = nI (60 + i) := nI_add 60 i
      have e90 : (90 : Int32) + nI i = nI (90 + i) := nI_add 90 i
      rw [if_neg (Lnle 30 (by omega) (by decide) hi), e30, e60, e90]
      simp only [gI_nI (show 30 + i < 1020 by omega) (show 1020 < 2 ^ 31 by decide), gI_nI (show 60 + i < 1020 by omega) (show 1020 < 2 ^ 31 by decide), gI_nI (show 90 + i < 1020 by omega) (show 1020 < 2 ^ 31 by decide), lt_eq, nI_clamp (show 30 + i < 2 ^ 31 by omega), nI_clamp (show 60 + i < 2 ^ 31 by omega), nI_clamp (show 90 + i < 2 ^ 31 by omega), nI_1]
      refine ⟨_, rfl, rfl, fun j hj => ?_, f2, fun k hk => ?_, fun k hk => ?_⟩
      · dsimp only; rw [SI_ne hj, SI_ne hj, SI_ne hj, f1 j hj]
      · dsimp only; rw [SI_at (by omega), SI_at (by omega), SI_at (by omega), f3 k hk]
      · dsimp only
        rw [SI_same]
        by_cases a1 : k = 90 + i
        · subst a1; rw [upd_same]
        · rw [upd_ne a1, SI_same]
          by_cases a2 : k = 60 + i
          · subst a2; rw [upd_same]
          · rw [upd_ne a2, SI_same]
            by_cases a3 : k = 30 + i
            · subst a3; rw [upd_same]
            · rw [upd_ne a3, f4 k (by omega)]
    · rintro ⟨s, z⟩ ⟨hz, f1, f2, f3, f4⟩
      dsimp only at hz f1 f2 f3 f4
      subst hz
      unfold fx_X12_starts_69_l7
      dsimp only
      rw [if_pos (Lle 30 (by decide) (by decide) (Nat.le_refl _))]
      exact ⟨_, rfl, f1, f2, f3, fun k h1 h2 => f4 k (by omega)⟩
  have k2 : ∀ v, ∃ e, loop fx_X12_starts_69_l51 llFuel (v, 0) = some e ∧ ((∀ i, i ≠ 77 → e.1 i = v.1 i) ∧ e.2 = v.2 ∧ (∀ k, k < 120 → e.1 77 k = v.1 77 k) ∧ ∀ k, 120 ≤ k → k < 1020 → e.1 77 k = -1) := by
    intro v
    refine loop_inv (fun i s => s.2 = nI i ∧ (∀ i, i ≠ 77 → s.1.1 i = v.1 i) ∧ s.1.2 = v.2 ∧ (∀ k, k < 120 → s.1.1 77 k = v.1 77 k) ∧ ∀ k, 120 ≤ k → k < 120 + i → s.1.1 77 k = -1) _ 900 llFuel (v, 0) ⟨rfl, fun _ _ => rfl, rfl, fun _ _ => rfl, fun k h => by omega⟩ ?_ ?_ (by decide)
    · rintro i ⟨s, z⟩ hi ⟨hz, f1, f2, f3, f4⟩
      dsimp only at hz f1 f2 f3 f4
      subst hz
      unfold fx_X12_starts_69_l51
      dsimp only
      have e30 : (120 : Int32) + nI i = nI (120 + i) := nI_add 120 i
      rw [if_neg (Lnle 900 (by omega) (by decide) hi), e30, gI_nI (by omega) (by decide), lt_eq, lt_eq, nI_clamp (by omega), nI_1]
      refine ⟨_, rfl, rfl, fun j hj => ?_, f2, fun k hk => ?_, fun k h1 h2 => ?_⟩
      · dsimp only; rw [SI_ne hj, f1 j hj]
      · dsimp only; rw [SI_at (by omega), f3 k hk]
      · dsimp only
        rw [SI_same]
        by_cases a1 : k = 120 + i
        · subst a1; rw [upd_same]
        · rw [upd_ne a1, f4 k h1 (by omega)]
    · rintro ⟨s, z⟩ ⟨hz, f1, f2, f3, f4⟩
      dsimp only at hz f1 f2 f3 f4
      subst hz
      unfold fx_X12_starts_69_l51
      dsimp only
      rw [if_pos (Lle 900 (by decide) (by decide) (Nat.le_refl _))]
      exact ⟨_, rfl, f1, f2, f3, fun k h1 h2 => f4 k h1 (by omega)⟩
  obtain ⟨a, a1, a2, a3, a4, a5⟩ := k1 (llSI u 69 14 0)
  obtain ⟨b, b1, b2, b3, b4, b5⟩ := k2 a
  unfold fx_X12_starts_69
  rw [lt_eq, a1, Option.bind_some, b1, Option.bind_some]
  refine ⟨b, rfl, fun i h1 h2 => ?_, ?_, ?_, fun k hk => ?_, fun k hk => ?_, fun k h1 h2 => ?_, b5⟩
  · rw [b2 i h2, a2 i h2, SI_ne h1]
  · rw [b3, a3]; rfl
  · rw [b2 69 (by decide), a2 69 (by decide), SI_same, upd_same]
  · rw [b2 69 (by decide), a2 69 (by decide), SI_at hk]
  · rw [b4 k (by omega), a4 k hk, SI_ne (by decide)]
  · rw [b4 k h2, a5 k h1 h2]
