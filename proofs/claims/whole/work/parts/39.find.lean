/-! searches and counts over clubs -/
def fst1 (P : Nat → Bool) (n : Nat) : Nat := rto (fun k => !(P k)) n 0
theorem fst1_spec (P : Nat → Bool) (n : Nat) : fst1 P n ≤ n ∧ (∀ k, k < fst1 P n → P k = false) ∧ (fst1 P n < n → P (fst1 P n) = true) := by
  obtain ⟨-, h2, h3, h4⟩ := rto_spec (fun k => !(P k)) n 0
  exact ⟨by unfold fst1; omega, fun k hk => by simpa using h3 k (Nat.zero_le _) hk, fun h => by unfold fst1 at h ⊢; simpa using h4 (by omega)⟩
theorem rto_congr {P Q : Nat → Bool} : ∀ (f p : Nat), (∀ k, p ≤ k → k < p + f → P k = Q k) → rto P f p = rto Q f p
  | 0, _, _ => rfl
  | f + 1, p, h => by
    unfold rto
    rw [h p (Nat.le_refl _) (by omega), rto_congr f (p + 1) (fun k h1 h2 => h k (by omega) (by omega))]
theorem fst1_congr {P Q : Nat → Bool} {n : Nat} (h : ∀ k, k < n → P k = Q k) : fst1 P n = fst1 Q n := rto_congr n 0 (fun k _ h2 => by rw [h k (by omega)])
/-- an index, or NONE -/
def ixO (r n : Nat) : Int32 := if r < n then nI r else -1
theorem find_3 {u : llMem} {nc : Nat} (hc : u.1 3 5 = nI nc) (hn : nc ≤ 30) (z : Int64) : fx_X5_find_3 u z = some (ixO (fst1 (fun k => decide (u.2.1 8 k = z)) nc) nc) := by
  obtain ⟨f1, f2, f3⟩ := fst1_spec (fun k => decide (u.2.1 8 k = z)) nc
  generalize fst1 (fun k => decide (u.2.1 8 k = z)) nc = r at *
  obtain ⟨e, h1, h2⟩ := loop_inv (body := fx_X5_find_3_l2 u z) (fun i s => s = nI i) (fun e => Sum.elim (fun _ => (-1 : Int32)) (fun v => v) e = ixO r nc) r llFuel 0 rfl (by
      intro i s hi hs
      subst hs
      have hp := f2 i hi
      unfold fx_X5_find_3_l2
      rw [hc, if_neg (nle2 (by omega) (by omega) (by omega)), gI_nI (by omega) (by decide)]
      simp only [rL, nI_clamp (show i < 2 ^ 31 by omega), lt_eq]
      rw [if_pos (fun q => by simp [lg_eq.mp q] at hp)]
      exact ⟨_, rfl, nI_1 i⟩) (by
      intro s hs
      subst hs
      unfold fx_X5_find_3_l2 ixO
      rw [hc]
      by_cases hlt : r < nc
      · have hp := f3 hlt
        rw [if_neg (nle2 (by omega) (by omega) hlt), gI_nI (by omega) (by decide)]
        simp only [rL, nI_clamp (show r < 2 ^ 31 by omega), lt_eq]
        rw [if_neg (fun q => q (lg_eq.mpr (of_decide_eq_true hp)))]
        exact ⟨_, rfl, by rw [if_pos hlt]; rfl⟩
      · rw [if_pos (le2 (by omega) (by omega) (by omega))]
        exact ⟨_, rfl, by rw [if_neg hlt]; rfl⟩) (by unfold llFuel; omega)
  unfold fx_X5_find_3
  rw [h1, ← h2]
  cases e <;> rfl
theorem find_31 {u : llMem} {nc : Nat} (hc : u.1 31 5 = nI nc) (hn : nc ≤ 30) (z : Int64) : fx_X5_find_31 u z = some (ixO (fst1 (fun k => decide (u.2.1 36 k = z)) nc) nc) := by
  obtain ⟨f1, f2, f3⟩ := fst1_spec (fun k => decide (u.2.1 36 k = z)) nc
  generalize fst1 (fun k => decide (u.2.1 36 k = z)) nc = r at *
  obtain ⟨e, h1, h2⟩ := loop_inv (body := fx_X5_find_31_l2 u z) (fun i s => s = nI i) (fun e => Sum.elim (fun _ => (-1 : Int32)) (fun v => v) e = ixO r nc) r llFuel 0 rfl (by
      intro i s hi hs
      subst hs
      have hp := f2 i hi
      unfold fx_X5_find_31_l2
      rw [hc, if_neg (nle2 (by omega) (by omega) (by omega)), gI_nI (by omega) (by decide)]
      simp only [rL, nI_clamp (show i < 2 ^ 31 by omega), lt_eq]
      rw [if_pos (fun q => by simp [lg_eq.mp q] at hp)]
      exact ⟨_, rfl, nI_1 i⟩) (by
      intro s hs
      subst hs
      unfold fx_X5_find_31_l2 ixO
      rw [hc]
      by_cases hlt : r < nc
      · have hp := f3 hlt
        rw [if_neg (nle2 (by omega) (by omega) hlt), gI_nI (by omega) (by decide)]
        simp only [rL, nI_clamp (show r < 2 ^ 31 by omega), lt_eq]
        rw [if_neg (fun q => q (lg_eq.mpr (of_decide_eq_true hp)))]
        exact ⟨_, rfl, by rw [if_pos hlt]; rfl⟩
      · rw [if_pos (le2 (by omega) (by omega) (by omega))]
        exact ⟨_, rfl, by rw [if_neg hlt]; rfl⟩) (by unfold llFuel; omega)
  unfold fx_X5_find_31
  rw [h1, ← h2]
  cases e <;> rfl
theorem placeOf_m {u : llMem} {nc b : Nat} (hn : nc ≤ 30) (hb : b ≤ 30) (z : Int64) : fx_X12_placeOf_69 u z (nI b) (nI nc) = some (ixO (fst1 (fun k => decide (u.2.1 71 (b + k) = z)) nc) nc) := by
  obtain ⟨f1, f2, f3⟩ := fst1_spec (fun k => decide (u.2.1 71 (b + k) = z)) nc
  generalize fst1 (fun k => decide (u.2.1 71 (b + k) = z)) nc = r at *
  obtain ⟨e, h1, h2⟩ := loop_inv (body := fx_X12_placeOf_69_l3 u z (nI b) (nI nc)) (fun i s => s = nI i) (fun e => Sum.elim (fun _ => (-1 : Int32)) (fun v => v) e = ixO r nc) r llFuel 0 rfl (by
      intro i s hi hs
      subst hs
      have hp := f2 i hi
      unfold fx_X12_placeOf_69_l3
      rw [if_neg (nle2 (by omega) (by omega) (by omega)), nI_add, gI_nI (by omega) (by decide)]
      simp only [rL, nI_clamp (show b + i < 2 ^ 31 by omega), lt_eq]
      rw [if_pos (fun q => by simp [lg_eq.mp q] at hp)]
      exact ⟨_, rfl, nI_1 i⟩) (by
      intro s hs
      subst hs
      unfold fx_X12_placeOf_69_l3 ixO
      by_cases hlt : r < nc
      · have hp := f3 hlt
        rw [if_neg (nle2 (by omega) (by omega) hlt), nI_add, gI_nI (by omega) (by decide)]
        simp only [rL, nI_clamp (show b + r < 2 ^ 31 by omega), lt_eq]
        rw [if_neg (fun q => q (lg_eq.mpr (of_decide_eq_true hp)))]
        exact ⟨_, rfl, by rw [if_pos hlt]; rfl⟩
      · rw [if_pos (le2 (by omega) (by omega) (by omega))]
        exact ⟨_, rfl, by rw [if_neg hlt]; rfl⟩) (by unfold llFuel; omega)
  unfold fx_X12_placeOf_69
  rw [h1, ← h2]
  cases e <;> rfl
theorem cnt_le (p : Nat → Prop) (dp : ∀ i, Decidable (p i)) : ∀ n, cnt p dp n ≤ n
  | 0 => Nat.le_refl _
  | n + 1 => by
    have h := cnt_le p dp n
    unfold cnt
    split <;> omega
theorem cnt_t {p : Nat → Prop} {dp : ∀ i, Decidable (p i)} {n : Nat} (h : p n) : cnt p dp (n + 1) = cnt p dp n + 1 := by unfold cnt; rw [if_pos h]; cases n <;> rfl
theorem cnt_f {p : Nat → Prop} {dp : ∀ i, Decidable (p i)} {n : Nat} (h : ¬ p n) : cnt p dp (n + 1) = cnt p dp n := by unfold cnt; rw [if_neg h]; cases n <;> rfl
theorem cnt_congr {p q : Nat → Prop} {dp : ∀ i, Decidable (p i)} {dq : ∀ i, Decidable (q i)} : ∀ (n : Nat), (∀ i, i < n → (p i ↔ q i)) → cnt p dp n = cnt q dq n
  | 0, _ => rfl
  | n + 1, h => by
    unfold cnt
    rw [cnt_congr n (fun i hi => h i (by omega))]
    have h1 := h n (by omega)
    by_cases hp : p n
    · rw [if_pos hp, if_pos (h1.mp hp)]
    · rw [if_neg hp, if_neg (fun q => hp (h1.mpr q))]
theorem standsIn_31 {u : llMem} {i : Nat} (hi : i < 30) (a b : Int32) : fx_X5_standsIn_31 u (nI i) a b = some (if u.1 40 i = a ∧ u.1 41 i = b then 1 else 0) := by
  unfold fx_X5_standsIn_31
  rw [gI_nI hi (by decide), gI_nI hi (by decide)]
  simp only [rI, nI_clamp (show i < 2 ^ 31 by omega), gB_0, gB_1]
  by_cases h1 : u.1 40 i = a
  · rw [if_neg (fun q => q h1)]
    by_cases h2 : u.1 41 i = b
    · rw [if_neg (fun q => q h2), if_pos ⟨h1, h2⟩]
    · rw [if_pos h2, if_neg (fun q => h2 q.2)]
  · rw [if_pos h1, if_neg (fun q => h1 q.1)]
theorem howManyIn_31 {u : llMem} {nc : Nat} (hc : u.1 31 5 = nI nc) (hn : nc ≤ 30) (a b : Int32) : fx_X5_howManyIn_31 u a b = some (nI (cnt (fun i => u.1 40 i = a ∧ u.1 41 i = b) (fun _ => inferInstance) nc)) := by
  obtain ⟨e, h1, h2⟩ := loop_inv (body := fx_X5_howManyIn_31_l5 u a b) (fun i s => s = (nI (cnt (fun i => u.1 40 i = a ∧ u.1 41 i = b) (fun _ => inferInstance) i), nI i)) (fun e => e = nI (cnt (fun i => u.1 40 i = a ∧ u.1 41 i = b) (fun _ => inferInstance) nc)) nc llFuel (0, 0) rfl (by
      intro i s hi hs
      subst hs
      unfold fx_X5_howManyIn_31_l5 fx_X5_howManyIn_31_j28_b5
      simp only [lt_eq]
      rw [hc, if_neg (nle2 (by omega) (by omega) hi), standsIn_31 (by omega)]
      simp only [Option.bind_some]
      by_cases hP : u.1 40 i = a ∧ u.1 41 i = b
      · rw [if_pos hP, if_neg (by decide)]
        exact ⟨_, rfl, by rw [nI_1, nI_1, cnt_t hP]⟩
      · rw [if_neg hP, if_pos rfl]
        exact ⟨_, rfl, by rw [nI_1, cnt_f hP]⟩) (by
      intro s hs
      subst hs
      unfold fx_X5_howManyIn_31_l5
      simp only
      rw [hc, if_pos (le2 (by omega) (by omega) (Nat.le_refl _))]
      exact ⟨_, rfl, rfl⟩) (by unfold llFuel; omega)
  unfold fx_X5_howManyIn_31
  rw [h1, h2]
  rfl
theorem manyIn_m {u : llMem} {nc : Nat} (hc : u.1 69 10 = nI nc) (hn : nc ≤ 30) (a b : Int32) : fx_X12_manyIn_69 u a b = some (nI (cnt (fun i => u.1 74 (30 + i) = a ∧ u.1 75 (30 + i) = b) (fun _ => inferInstance) nc)) := by
  obtain ⟨e, h1, h2⟩ := loop_inv (body := fx_X12_manyIn_69_l6 u a b) (fun i s => s = (nI (cnt (fun i => u.1 74 (30 + i) = a ∧ u.1 75 (30 + i) = b) (fun _ => inferInstance) i), nI (30 + i))) (fun e => e = nI (cnt (fun i => u.1 74 (30 + i) = a ∧ u.1 75 (30 + i) = b) (fun _ => inferInstance) nc)) nc llFuel (0, 30) rfl (by
      intro i s hi hs
      subst hs
      unfold fx_X12_manyIn_69_l6 fx_X12_manyIn_69_j45_b6 fx_X12_manyIn_69_j46_b6 fx_X12_one
      simp only [lt_eq]
      rw [hc, show (30 : Int32) + nI nc = nI (30 + nc) from nI_add 30 nc, if_neg (nle2 (by omega) (by omega) (by omega)), gI_nI (by omega) (by decide), gI_nI (by omega) (by decide)]
      simp only [rI, nI_clamp (show 30 + i < 2 ^ 31 by omega)]
      rw [if_pos trivial, if_neg (show ¬ (1 : Int32) = 0 by decide)]
      simp only [Option.bind_some]
      by_cases g1 : u.1 74 (30 + i) = a
      · rw [if_neg (fun q => q g1)]
        by_cases g2 : u.1 75 (30 + i) = b
        · rw [if_neg (fun q => q g2)]
          exact ⟨_, rfl, by rw [nI_1, nI_1, cnt_t ⟨g1, g2⟩, Nat.add_assoc]⟩
        · rw [if_pos g2]
          exact ⟨_, rfl, by rw [nI_1, cnt_f (fun q => g2 q.2), Nat.add_assoc]; simp⟩
      · rw [if_pos g1]
        exact ⟨_, rfl, by rw [nI_1, cnt_f (fun q => g1 q.1), Nat.add_assoc]; simp⟩) (by
      intro s hs
      subst hs
      unfold fx_X12_manyIn_69_l6
      simp only
      rw [hc, show (30 : Int32) + nI nc = nI (30 + nc) from nI_add 30 nc, if_pos (le2 (by omega) (by omega) (Nat.le_refl _))]
      exact ⟨_, rfl, rfl⟩) (by unfold llFuel; omega)
  unfold fx_X12_manyIn_69
  rw [h1, h2]
  rfl
