theorem byteEq (v s : Int32) (k : Nat) (hk : k = 24 ∨ k = 16 ∨ k = 8 ∨ k = 0) (h1 : ((s &&& 31).toBitVec.smod 32).toNat = k) (h2 : ((s.toUInt32 &&& Int32.toUInt32 31).toBitVec % 32).toNat = k) : (v.toUInt32 >>> (s.toUInt32 &&& Int32.toUInt32 31)).toInt32 &&& 255 = (v >>> (s &&& 31)) &&& 255 := by
  rw [pk_and _ 8 (m := 255) (by decide), pk_and _ 8 (m := 255) (by decide)]
  congr 1
  have a1 := pk_ushr v s k h2
  have a2 := pk_shr v (s &&& 31) k h1
  rw [a1]
  have b1 : ((v >>> (s &&& 31)).toInt : Int) = (v >>> (s &&& 31)).toBitVec.toInt := rfl
  have b2 : (v.toInt : Int) = v.toBitVec.toInt := rfl
  rw [b1, b2] at a2
  rw [BitVec.toInt_eq_toNat_cond, BitVec.toInt_eq_toNat_cond, Int.shiftRight_eq_div_pow] at a2
  have c1 := (v >>> (s &&& 31)).toBitVec.isLt
  have c2 := v.toBitVec.isLt
  generalize (v >>> (s &&& 31)).toBitVec.toNat = y at *
  generalize v.toBitVec.toNat = x at *
  rcases hk with rfl | rfl | rfl | rfl <;> (split at a2 <;> split at a2 <;> omega)
def sh8 (i : Nat) : Int32 := 24 - 8 * nI i
def bt (v : Int32) (i : Nat) : Int32 := (v >>> (sh8 i &&& 31)) &&& 255
theorem bt_lt (v : Int32) (i : Nat) : ∃ b, b < 256 ∧ bt v i = nI b := pk_andE _ 8 (by decide)
theorem sh8_0 : (24 : Int32) = sh8 0 := by decide
theorem sh8_nn : ∀ i, i < 4 → ¬ sh8 i < 0 := by decide
theorem sh8_4 : sh8 4 < 0 := by decide
theorem sh8_s : ∀ i, i < 4 → sh8 i + (-8) = sh8 (i + 1) := by decide
theorem sh8_a : ∀ i, i < 4 → ((sh8 i &&& 31).toBitVec.smod 32).toNat = 24 - 8 * i := by decide
theorem sh8_b : ∀ i, i < 4 → (((sh8 i).toUInt32 &&& Int32.toUInt32 31).toBitVec % 32).toNat = 24 - 8 * i := by decide
theorem bt_x (v : Int32) {i : Nat} (hi : i < 4) : (v.toUInt32 >>> ((sh8 i).toUInt32 &&& Int32.toUInt32 31)).toInt32 &&& 255 = bt v i := byteEq v (sh8 i) (24 - 8 * i) (by omega) (sh8_a i hi) (sh8_b i hi)
/-- four bytes come behind the n of a tape: length at place k of cell c, bytes in cell b -/
def Fed (c k b : Nat) (u u' : llMem) (n : Nat) (v : Int32) (i : Nat) : Prop := Sm [c, b] u u' ∧ u'.2 = u.2 ∧ u'.1 c = upd (u.1 c) k (nI (n + i)) ∧ ∀ j, u'.1 b j = if n ≤ j ∧ j < n + i then bt v (j - n) else u.1 b j
theorem Fed.step {c k b : Nat} {u s : llMem} {n i : Nat} {v : Int32} (hcb : c ≠ b) (h : Fed c k b u s n v i) (hn : n + i < 2 ^ 31) : Fed c k b u (llSI (llSI s b (n + i) (bt v i)) c k (nI (n + i) + 1)) n v (i + 1) := by
  obtain ⟨h1, h2, h3, h4⟩ := h
  refine ⟨h1.trans ((Sm.SI (by simp)).trans (Sm.SI (by simp))), h2, ?_, ?_⟩
  · rw [SI_same, SI_ne hcb, h3, nI_1]
    funext j
    simp only [upd]
    by_cases hj : j = k <;> simp [hj, Nat.add_assoc]
  · intro j
    rw [SI_ne (Ne.symm hcb), SI_same]
    simp only [upd]
    by_cases hj : j = n + i
    · subst hj
      rw [if_pos rfl, if_pos (by omega)]
      congr 1
      omega
    · rw [if_neg hj, h4]
      by_cases h5 : n ≤ j ∧ j < n + i
      · rw [if_pos h5, if_pos (by omega)]
      · rw [if_neg h5, if_neg (by omega)]
theorem put_x (u : llMem) (n : Nat) (v : Int32) (hn : n + 4 ≤ 700) (h : u.1 1 1 = nI n) : ∃ u', fx_X9_put_1 u v = some (u', ()) ∧ Fed 1 1 2 u u' n v 4 := by
  obtain ⟨e, h1, h2⟩ := loop_inv (body := fx_X9_put_1_l3 v) (fun i s => s.2 = sh8 i ∧ Fed 1 1 2 u s.1 n v i) (fun e => Fed 1 1 2 u e n v 4) 4 llFuel (u, 24) ⟨sh8_0, Sm.refl _ _, rfl, by rw [Nat.add_zero, ← h]; funext j; simp only [upd]; by_cases hj : j = 1 <;> simp [hj], fun j => by rw [if_neg (by omega)]⟩
    (fun i s hi ⟨a1, a2⟩ => by
      obtain ⟨s, sh⟩ := s
      simp only at a1 a2
      subst a1
      have hl : s.1 1 1 = nI (n + i) := by rw [a2.2.2.1, upd_same]
      unfold fx_X9_put_1_l3 fx_X9_put_1_j43_b3
      simp only [lt_eq]
      rw [if_neg (sh8_nn i hi), hl, if_neg (show ¬ (700 : Int32) ≤ nI (n + i) from fun q => absurd ((nI_leI (a := 700) (by decide) (by omega)).mp q) (by omega)), gI_nI (by omega) (by decide), nI_clamp (by omega), bt_x v hi]
      have e2 : (llSI s 2 (n + i) (bt v i)).1 1 1 = nI (n + i) := by rw [SI_ne (by decide), hl]
      rw [e2, sh8_s i hi]
      exact ⟨_, rfl, rfl, a2.step (by decide) (by omega)⟩)
    (fun s ⟨a1, a2⟩ => by
      obtain ⟨s, sh⟩ := s
      simp only at a1 a2
      subst a1
      unfold fx_X9_put_1_l3
      rw [if_pos sh8_4]
      exact ⟨_, rfl, a2⟩) (by decide)
  unfold fx_X9_put_1
  rw [h1]
  exact ⟨e, rfl, h2⟩
theorem four_m (u : llMem) (n : Nat) (v : Int32) (hn : n + 4 ≤ 700) (h : u.1 69 16 = nI n) : ∃ u', fx_X12_four_69 u v = some (u', ()) ∧ Fed 69 16 79 u u' n v 4 := by
  obtain ⟨e, h1, h2⟩ := loop_inv (body := fx_X12_four_69_l3 v) (fun i s => s.2 = sh8 i ∧ Fed 69 16 79 u s.1 n v i) (fun e => Fed 69 16 79 u e n v 4) 4 llFuel (u, 24) ⟨sh8_0, Sm.refl _ _, rfl, by rw [Nat.add_zero, ← h]; funext j; simp only [upd]; by_cases hj : j = 16 <;> simp [hj], fun j => by rw [if_neg (by omega)]⟩
    (fun i s hi ⟨a1, a2⟩ => by
      obtain ⟨s, sh⟩ := s
      simp only at a1 a2
      subst a1
      have hl : s.1 69 16 = nI (n + i) := by rw [a2.2.2.1, upd_same]
      unfold fx_X12_four_69_l3
      simp only [lt_eq]
      rw [if_neg (sh8_nn i hi), hl, gI_nI (by omega) (by decide), nI_clamp (by omega)]
      have e2 : (llSI s 79 (n + i) (bt v i)).1 69 16 = nI (n + i) := by rw [SI_ne (by decide), hl]
      have e3 : ((v >>> (sh8 i &&& 31)) &&& 255) = bt v i := rfl
      rw [e3, e2, sh8_s i hi]
      exact ⟨_, rfl, rfl, a2.step (by decide) (by omega)⟩)
    (fun s ⟨a1, a2⟩ => by
      obtain ⟨s, sh⟩ := s
      simp only at a1 a2
      subst a1
      unfold fx_X12_four_69_l3
      rw [if_pos sh8_4]
      exact ⟨_, rfl, a2⟩) (by decide)
  unfold fx_X12_four_69
  rw [h1]
  exact ⟨e, rfl, h2⟩
def FedQ (c k b : Nat) (u u' : llMem) (n : Nat) (vs : Nat → Int32) (q : Nat) : Prop := Sm [c, b] u u' ∧ u'.2 = u.2 ∧ u'.1 c = upd (u.1 c) k (nI (n + 4 * q)) ∧ ∀ j, u'.1 b j = if n ≤ j ∧ j < n + 4 * q then bt (vs ((j - n) / 4)) ((j - n) % 4) else u.1 b j
theorem FedQ.step {c k b : Nat} {u s s' : llMem} {n q : Nat} {vs : Nat → Int32} (h : FedQ c k b u s n vs q) (h' : Fed c k b s s' (n + 4 * q) (vs q) 4) : FedQ c k b u s' n vs (q + 1) := by
  obtain ⟨h1, h2, h3, h4⟩ := h
  obtain ⟨g1, g2, g3, g4⟩ := h'
  refine ⟨h1.trans g1, g2.trans h2, ?_, fun j => ?_⟩
  · rw [g3, h3]
    funext j
    simp only [upd]
    by_cases hj : j = k <;> simp [hj, Nat.mul_add, Nat.add_assoc]
  · rw [g4]
    by_cases h5 : n + 4 * q ≤ j ∧ j < n + 4 * q + 4
    · rw [if_pos h5, if_pos (by omega)]
      rw [show (j - n) / 4 = q by omega, show (j - n) % 4 = j - (n + 4 * q) by omega]
    · rw [if_neg h5, h4]
      by_cases h6 : n ≤ j ∧ j < n + 4 * q
      · rw [if_pos h6, if_pos (by omega)]
      · rw [if_neg h6, if_neg (by omega)]
theorem FedQ.zero {c k b : Nat} {u : llMem} {n : Nat} {vs : Nat → Int32} (h : u.1 c k = nI n) : FedQ c k b u u n vs 0 := ⟨Sm.refl _ _, rfl, by rw [Nat.mul_zero, Nat.add_zero, ← h]; funext j; simp only [upd]; by_cases hj : j = k <;> simp [hj], fun j => by rw [if_neg (by omega)]⟩
theorem FedQ.len {c k b : Nat} {u s : llMem} {n q : Nat} {vs : Nat → Int32} (h : FedQ c k b u s n vs q) : s.1 c k = nI (n + 4 * q) := by rw [h.2.2.1, upd_same]
def v5 (a0 a1 a2 a3 a4 : Int32) (i : Nat) : Int32 := match i with
  | 0 => a0
  | 1 => a1
  | 2 => a2
  | 3 => a3
  | _ => a4
theorem feed_x (u : llMem) (n : Nat) (a0 a1 a2 a3 a4 : Int32) (hn : n ≤ 680) (h : u.1 1 1 = nI n) : ∃ u', fx_X11_feed_0 u a0 a1 a2 a3 a4 = some (u', nI (n + 20)) ∧ FedQ 1 1 2 u u' n (v5 a0 a1 a2 a3 a4) 5 := by
  have f0 : FedQ 1 1 2 u u n (v5 a0 a1 a2 a3 a4) 0 := FedQ.zero h
  obtain ⟨u1, e1, g1⟩ := put_x u (n + 4 * 0) a0 (by omega) f0.len
  have f1 := f0.step g1
  obtain ⟨u2, e2, g2⟩ := put_x u1 (n + 4 * 1) a1 (by omega) f1.len
  have f2 := f1.step g2
  obtain ⟨u3, e3, g3⟩ := put_x u2 (n + 4 * 2) a2 (by omega) f2.len
  have f3 := f2.step g3
  obtain ⟨u4, e4, g4⟩ := put_x u3 (n + 4 * 3) a3 (by omega) f3.len
  have f4 := f3.step g4
  obtain ⟨u5, e5, g5⟩ := put_x u4 (n + 4 * 4) a4 (by omega) f4.len
  have f5 := f4.step g5
  refine ⟨u5, ?_, f5⟩
  unfold fx_X11_feed_0
  rw [h, if_pos (show nI n ≤ (680 : Int32) from (nI_leI (b := 680) (by omega) (by decide)).mpr hn)]
  simp only [e1, e2, e3, e4, e5, bd_eq]
  rw [f5.len]
theorem feed_m (u : llMem) (n : Nat) (a0 a1 a2 a3 a4 : Int32) (hn : n ≤ 680) (h : u.1 69 16 = nI n) : ∃ u', fx_X12_feed_69 u a0 a1 a2 a3 a4 = some (u', nI (n + 20)) ∧ FedQ 69 16 79 u u' n (v5 a0 a1 a2 a3 a4) 5 := by
  have f0 : FedQ 69 16 79 u u n (v5 a0 a1 a2 a3 a4) 0 := FedQ.zero h
  obtain ⟨u1, e1, g1⟩ := four_m u (n + 4 * 0) a0 (by omega) f0.len
  have f1 := f0.step g1
  obtain ⟨u2, e2, g2⟩ := four_m u1 (n + 4 * 1) a1 (by omega) f1.len
  have f2 := f1.step g2
  obtain ⟨u3, e3, g3⟩ := four_m u2 (n + 4 * 2) a2 (by omega) f2.len
  have f3 := f2.step g3
  obtain ⟨u4, e4, g4⟩ := four_m u3 (n + 4 * 3) a3 (by omega) f3.len
  have f4 := f3.step g4
  obtain ⟨u5, e5, g5⟩ := four_m u4 (n + 4 * 4) a4 (by omega) f4.len
  have f5 := f4.step g5
  refine ⟨u5, ?_, f5⟩
  unfold fx_X12_feed_69
  have e20 : nI n + 20 = nI (n + 20) := nI_add n 20
  rw [h, e20, if_pos (show nI (n + 20) ≤ (700 : Int32) from (nI_leI (b := 700) (by omega) (by decide)).mpr (by omega))]
  simp only [e1, e2, e3, e4, e5, bd_eq]
  rw [f5.len]
