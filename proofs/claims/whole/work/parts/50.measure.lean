/-! measure(), copy(): the new pyramid -/
def dI (cx cy : Nat → Nat) (a b : Nat) : Nat := rt (sqd (cx a) (cx b) + sqd (cy a) (cy b))
theorem dI_comm (cx cy : Nat → Nat) (a b : Nat) : dI cx cy a b = dI cx cy b a := by unfold dI; rw [sqd_comm (cx a), sqd_comm (cy a)]
theorem measure_x {x : llMem} {nc : Nat} {cx cy : Nat → Nat} (hn : nc ≤ 30) (h5 : x.1 3 5 = nI nc) (hc : ∀ c, c < nc → x.1 9 c = nI (cx c) ∧ x.1 10 c = nI (cy c) ∧ cx c ≤ 99 ∧ cy c ≤ 99) :
    ∃ x', fx_X10_measure_48 x = some (x', ()) ∧ (∀ i, i ≠ 49 → x'.1 i = x.1 i) ∧ x'.2 = x.2 ∧ ∀ a b, a < nc → b < nc → x'.1 49 (30 * a + b) = nI (dI cx cy a b) := by
  have inner : ∀ (one : Nat) (u : llMem), one < nc → (∀ i, i ≠ 49 → u.1 i = x.1 i) → u.2 = x.2 → (∀ a b, a < one → b < one → u.1 49 (30 * a + b) = nI (dI cx cy a b)) → ∃ e, loop (fx_X10_measure_48_l15_b2 (nI one)) llFuel (u, 0) = some e ∧ ((∀ i, i ≠ 49 → e.1 i = x.1 i) ∧ e.2 = x.2 ∧ ∀ a b, a < one + 1 → b < one + 1 → e.1 49 (30 * a + b) = nI (dI cx cy a b)) := by
    intro one u ho hu1 hu2 hu3
    refine loop_inv (fun i s => s.2 = nI i ∧ (∀ i, i ≠ 49 → s.1.1 i = x.1 i) ∧ s.1.2 = x.2 ∧ ∀ a b, (a < one ∧ b < one) ∨ (a = one ∧ b < i) ∨ (b = one ∧ a < i) → s.1.1 49 (30 * a + b) = nI (dI cx cy a b)) _ (one + 1) llFuel (u, 0) ⟨rfl, hu1, hu2, fun a b h => by
      rcases h with ⟨h1, h2⟩ | ⟨_, h⟩ | ⟨_, h⟩
      · exact hu3 a b h1 h2
      · omega
      · omega⟩ ?_ ?_ (by unfold llFuel; omega)
    · rintro i ⟨s, z⟩ hi ⟨hz, f1, f2, f3⟩
      dsimp only at hz f1 f2 f3
      subst hz
      have k1 := hc one ho
      have k2 := hc i (by omega)
      have q1 := sqd_le k1.2.2.1 k2.2.2.1
      have q2 := sqd_le k1.2.2.2 k2.2.2.2
      unfold fx_X10_measure_48_l15_b2
      dsimp only
      rw [if_neg (nlt2 (by omega) (by omega) (by omega))]
      simp only [gI_nI (show one < 30 by omega) (show 30 < 2 ^ 31 by decide), gI_nI (show i < 30 by omega) (show 30 < 2 ^ 31 by decide), lt_eq, rI_n (show one < 2 ^ 31 by omega), rI_n (show i < 2 ^ 31 by omega)]
      rw [f1 9 (by decide), f1 10 (by decide), k1.1, k1.2.1, k2.1, k2.2.1, sq_sub, sq_sub, nI_add, rootOf_x s (by omega), Option.bind_some, ix30, ix30]
      rw [gI_nI (by omega) (by decide), gI_nI (by omega) (by decide), nI_clamp (by omega), nI_clamp (by omega), nI_1]
      refine ⟨_, rfl, rfl, fun j hj => ?_, f2, fun a b h => ?_⟩
      · dsimp only
        rw [SI_ne hj, SI_ne hj, f1 j hj]
      · dsimp only
        rw [SI_same]
        by_cases e1 : 30 * a + b = 30 * i + one
        · have ea : a = i := by omega
          have eb : b = one := by omega
          subst ea; subst eb
          rw [upd_same, dI_comm]; rfl
        · rw [upd_ne e1, SI_same]
          by_cases e2 : 30 * a + b = 30 * one + i
          · have ea : a = one := by omega
            have eb : b = i := by omega
            subst ea; subst eb
            rw [upd_same]; rfl
          · rw [upd_ne e2]
            exact f3 a b (by omega)
    · rintro ⟨s, z⟩ ⟨hz, f1, f2, f3⟩
      dsimp only at hz f1 f2 f3
      subst hz
      unfold fx_X10_measure_48_l15_b2
      dsimp only
      rw [if_pos (lt2 (by omega) (by omega) (by omega))]
      exact ⟨_, rfl, f1, f2, fun a b ha hb => f3 a b (by omega)⟩
  obtain ⟨e, h1, h2⟩ := loop_inv (body := fx_X10_measure_48_l2) (fun i s => s.2 = nI i ∧ (∀ i, i ≠ 49 → s.1.1 i = x.1 i) ∧ s.1.2 = x.2 ∧ ∀ a b, a < i → b < i → s.1.1 49 (30 * a + b) = nI (dI cx cy a b)) (fun e => (∀ i, i ≠ 49 → e.1 i = x.1 i) ∧ e.2 = x.2 ∧ ∀ a b, a < nc → b < nc → e.1 49 (30 * a + b) = nI (dI cx cy a b)) nc llFuel (x, 0) ⟨rfl, fun _ _ => rfl, rfl, fun a b h => by omega⟩ (by
    rintro i ⟨s, z⟩ hi ⟨hz, f1, f2, f3⟩
    dsimp only at hz f1 f2 f3
    subst hz
    obtain ⟨e, g1, g2, g3, g4⟩ := inner i s hi f1 f2 f3
    unfold fx_X10_measure_48_l2
    dsimp only
    rw [f1 3 (by decide), h5, if_neg (nle2 (by omega) (by omega) hi), g1, Option.bind_some, lt_eq, nI_1]
    exact ⟨_, rfl, rfl, g2, g3, g4⟩) (by
    rintro ⟨s, z⟩ ⟨hz, f1, f2, f3⟩
    dsimp only at hz f1 f2 f3
    subst hz
    unfold fx_X10_measure_48_l2
    dsimp only
    rw [f1 3 (by decide), h5, if_pos (le2 (by omega) (by omega) (Nat.le_refl _))]
    exact ⟨_, rfl, f1, f2, f3⟩) (by unfold llFuel; omega)
  unfold fx_X10_measure_48
  rw [h1]
  exact ⟨e, rfl, h2⟩
theorem miles_m {A : Ab} {x m : llMem} (h : IPyr A x m) {a b : Nat} (ha : a < A.nc) (hb : b < A.nc) : fx_X12_miles_69 m (nI a) (nI b) = some (nI (A.mi a b)) := by
  obtain ⟨_, _, _, _, hn, _, _, hc, _, hm⟩ := h
  have k1 := hc a ha
  have k2 := hc b hb
  obtain ⟨q, -⟩ := hm a b ha hb
  have q1 := sqd_le k1.2.2.2.2.1 k2.2.2.2.2.1
  have q2 := sqd_le k1.2.2.2.2.2.1 k2.2.2.2.2.2.1
  unfold fx_X12_miles_69
  simp only [gI_nI (show a < 60 by omega) (show 60 < 2 ^ 31 by decide), gI_nI (show b < 60 by omega) (show 60 < 2 ^ 31 by decide), lt_eq, rI_n (show a < 2 ^ 31 by omega), rI_n (show b < 2 ^ 31 by omega)]
  rw [k1.2.2.1, k1.2.2.2.1, k2.2.2.1, k2.2.2.2.1, sq_sub, sq_sub, nI_add, milesL_m m (by omega), Option.bind_some, isRoot_uniq (rt_ok _) q]
theorem cpI_ok {ρ : Type} (u : llMem) (c0 c1 n : Nat) (hn : n < 2 ^ 31) (kx : llMem → Option ρ) : cpI u c0 n c1 n 0 0 (nI n) kx = kx (llSA u c1 (va_cpy (u.1 c0) (u.1 c1) 0 0 n)) := by
  unfold cpI
  rw [if_neg, nI_clamp hn]
  · rfl
  · rw [nI_clamp hn]
    rintro (h | h | h | h | h)
    · exact absurd h (by decide)
    · exact absurd h (by decide)
    · exact nI_nneg hn h
    · revert h; show ¬ n < 0 + n; omega
    · revert h; show ¬ n < 0 + n; omega
theorem cpL_ok {ρ : Type} (u : llMem) (c0 c1 n : Nat) (hn : n < 2 ^ 31) (kx : llMem → Option ρ) : cpL u c0 n c1 n 0 0 (nI n) kx = kx (llSLA u c1 (va_cpy (u.2.1 c0) (u.2.1 c1) 0 0 n)) := by
  unfold cpL
  rw [if_neg, nI_clamp hn]
  · rfl
  · rw [nI_clamp hn]
    rintro (h | h | h | h | h)
    · exact absurd h (by decide)
    · exact absurd h (by decide)
    · exact nI_nneg hn h
    · revert h; show ¬ n < 0 + n; omega
    · revert h; show ¬ n < 0 + n; omega
theorem cpy_at {α : Type} {f g : Nat → α} {n k : Nat} (h : k < n) : va_cpy f g 0 0 n k = f k := by
  rw [pk_cpy_in (by omega) (by omega)]; congr 1; omega
theorem SA_same (u : llMem) (c : Nat) (f : Nat → Int32) : (llSA u c f).1 c = f := by simp [llSA]
theorem SA_ne {u : llMem} {c i : Nat} {f : Nat → Int32} (h : i ≠ c) : (llSA u c f).1 i = u.1 i := by simp [llSA, h]
theorem SA_2 (u : llMem) (c : Nat) (f : Nat → Int32) : (llSA u c f).2 = u.2 := rfl
theorem SLA_1 (u : llMem) (c : Nat) (f : Nat → Int64) : (llSLA u c f).1 = u.1 := rfl
theorem SLA_same (u : llMem) (c : Nat) (f : Nat → Int64) : (llSLA u c f).2.1 c = f := by simp [llSLA]
theorem SLA_nei {u : llMem} {c i : Nat} {f : Nat → Int64} (h : i ≠ c) : (llSLA u c f).2.1 i = u.2.1 i := by simp [llSLA, h]
theorem copy_x (u : llMem) : ∃ u', fx_X5_copy_3_31 u = some (u', ()) ∧ (∀ i, i < 3 ∨ 13 < i → u'.1 i = u.1 i ∧ u'.2.1 i = u.2.1 i) ∧ u'.1 3 0 = u.1 31 0 ∧ u'.1 3 5 = u.1 31 5 ∧ (∀ k, k < 4 → u'.1 4 k = u.1 32 k ∧ u'.1 5 k = u.1 33 k ∧ u'.1 6 k = u.1 34 k ∧ u'.1 7 k = u.1 35 k) ∧ ∀ k, k < 30 → u'.2.1 8 k = u.2.1 36 k ∧ u'.1 9 k = u.1 37 k ∧ u'.1 10 k = u.1 38 k ∧ u'.1 11 k = u.1 39 k ∧ u'.1 12 k = u.1 40 k ∧ u'.1 13 k = u.1 41 k := by
  unfold fx_X5_copy_3_31
  simp only [lt_eq, show (4 : Int32) = nI 4 from rfl, show (30 : Int32) = nI 30 from rfl, cpI_ok _ _ _ 4 (by decide), cpI_ok _ _ _ 30 (by decide), cpL_ok _ _ _ 30 (by decide)]
  refine ⟨_, rfl, fun i hi => ⟨?_, ?_⟩, ?_, ?_, fun k hk => ?_, fun k hk => ?_⟩
  · simp only [SA_ne (show i ≠ 13 by omega), SA_ne (show i ≠ 12 by omega), SA_ne (show i ≠ 11 by omega), SA_ne (show i ≠ 10 by omega), SA_ne (show i ≠ 9 by omega), SLA_1, SI_ne (show i ≠ 3 by omega), SA_ne (show i ≠ 7 by omega), SA_ne (show i ≠ 6 by omega), SA_ne (show i ≠ 5 by omega), SA_ne (show i ≠ 4 by omega)]
  · simp only [SA_2, SLA_nei (show i ≠ 8 by omega), SI_2]
  · simp [llSA, llSLA, llSI, upd]
  · simp [llSA, llSLA, llSI, upd]
  · simp [llSA, llSLA, llSI, cpy_at hk]
  · simp [llSA, llSLA, llSI, cpy_at hk]
