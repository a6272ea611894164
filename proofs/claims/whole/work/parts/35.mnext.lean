theorem lg_lt {a b : Int64} : lg_cmp a b < 0 ↔ a < b := by
  unfold lg_cmp
  by_cases h : a > b
  · rw [if_pos h]
    exact ⟨fun q => absurd q (by decide), fun q => absurd q (Int64.not_lt.mpr (Int64.le_of_lt h))⟩
  · rw [if_neg h]
    by_cases h2 : a = b
    · rw [if_pos h2]
      exact ⟨fun q => absurd q (by decide), fun q => absurd q (by rw [h2]; exact Int64.lt_irrefl)⟩
    · rw [if_neg h2]
      refine ⟨fun _ => ?_, fun _ => by decide⟩
      rcases Int64.lt_or_eq_of_le (Int64.not_lt.mp h) with q | q
      · exact q
      · exact absurd q h2
theorem lg_gt {a b : Int64} : 0 < lg_cmp a b ↔ b < a := by
  unfold lg_cmp
  by_cases h : a > b
  · rw [if_pos h]
    exact ⟨fun _ => h, fun _ => by decide⟩
  · rw [if_neg h]
    by_cases h2 : a = b
    · rw [if_pos h2]
      exact ⟨fun q => absurd q (by decide), fun q => absurd q h⟩
    · rw [if_neg h2]
      exact ⟨fun q => absurd q (by decide), fun q => absurd q h⟩
theorem lg_eq {a b : Int64} : lg_cmp a b = 0 ↔ a = b := by
  unfold lg_cmp
  by_cases h : a > b
  · rw [if_pos h]
    exact ⟨fun q => absurd q (by decide), fun q => absurd h (by rw [q]; exact Int64.lt_irrefl)⟩
  · rw [if_neg h]
    by_cases h2 : a = b
    · rw [if_pos h2]; exact ⟨fun _ => h2, fun _ => rfl⟩
    · rw [if_neg h2]; exact ⟨fun q => absurd q (by decide), fun q => absurd q h2⟩
theorem isIn_eq (u : llMem) (a l m : Int64) : fx_X12_isIn u a l m = some (if l ≤ a ∧ a ≤ m then 1 else 0) := by
  unfold fx_X12_isIn
  by_cases h1 : a < l
  · rw [if_pos (lg_lt.mpr h1), gB_0, if_neg (fun q => absurd h1 (Int64.not_lt.mpr q.1))]
  · rw [if_neg (fun q => h1 (lg_lt.mp q))]
    by_cases h2 : m < a
    · rw [if_pos (lg_gt.mpr h2), gB_0, if_neg (fun q => absurd h2 (Int64.not_lt.mpr q.2))]
    · rw [if_neg (fun q => h2 (lg_gt.mp q)), gB_1, if_pos ⟨Int64.not_lt.mp h1, Int64.not_lt.mp h2⟩]
/-- ints between written numbers -/
theorem isIn_n (u : llMem) {a l m : Nat} (ha : a < 2 ^ 31) (hl : l < 2 ^ 31) (hm : m < 2 ^ 31) : fx_X12_isIn u (Int32.toInt64 (nI a)) (OfNat.ofNat l : Int64) (OfNat.ofNat m : Int64) = some (if l ≤ a ∧ a ≤ m then 1 else 0) := by
  rw [isIn_eq, nI_l ha]
  have e1 : ((OfNat.ofNat l : Int64) ≤ lN a) ↔ l ≤ a := lN_le hl ha
  have e2 : (lN a ≤ (OfNat.ofNat m : Int64)) ↔ a ≤ m := lN_le ha hm
  by_cases h : l ≤ a ∧ a ≤ m
  · rw [if_pos h, if_pos ⟨e1.mpr h.1, e2.mpr h.2⟩]
  · rw [if_neg h, if_neg (fun q => h ⟨e1.mp q.1, e2.mp q.2⟩)]
theorem isIn_m1 (u : llMem) {l m : Nat} (hl : l < 2 ^ 31) : fx_X12_isIn u (Int32.toInt64 (-1)) (OfNat.ofNat l : Int64) (OfNat.ofNat m : Int64) = some 0 := by
  rw [isIn_eq, if_neg]
  intro q
  have h1 := Int64.le_iff_toInt_le.mp q.1
  have h2 : (OfNat.ofNat l : Int64).toInt = (l : Int) := lN_toInt hl
  have h3 : (Int32.toInt64 (-1)).toInt = -1 := by decide
  rw [h2, h3] at h1
  omega
theorem see_in {u : llMem} {bb : Nat → Nat} {n k : Nat} (h : TM u bb n) (hk : k < n) : fx_X12_see_69 u (nI k) = some (nI (bb k)) := by
  have h700 := h.1
  unfold fx_X12_see_69
  rw [h.2.1, if_neg (nle2 (by omega) (by omega) hk), gI_nI (by omega) (by decide), h.rd hk]
theorem see_out {u : llMem} {bb : Nat → Nat} {n k : Nat} (h : TM u bb n) (hk : n ≤ k) (hk2 : k < 2 ^ 31) : fx_X12_see_69 u (nI k) = some (-1) := by
  have h700 := h.1
  unfold fx_X12_see_69
  rw [h.2.1, if_pos (le2 (by omega) hk2 hk)]
theorem nextL_m (u : llMem) (bb : Nat → Nat) (n p : Nat) (hT : TM u bb n) (hp : p ≤ n) (hat : u.1 69 23 = nI p) : ∃ e, loop fx_X12_next_69_l0 llFuel u = some e ∧ SmF 69 [23] u e ∧ e.1 69 23 = nI (run bb n isBl p) := by
  obtain ⟨r1, r2, r3, r4⟩ := run_spec bb n isBl hp
  have h700 := hT.1
  refine loop_inv (fun i s => SmF 69 [23] u s ∧ s.1 69 23 = nI (p + i)) _ (run bb n isBl p - p) llFuel u ⟨SmF.refl _ _ _, by rw [Nat.add_zero]; exact hat⟩ ?_ ?_ (by unfold llFuel; omega)
  · intro i s hi ⟨a1, a2⟩
    have hT' := hT.of a1 (by decide)
    have hlt : p + i < n := by omega
    have hb := r3 (p + i) (by omega) (by omega)
    refine ⟨llSI s 69 23 (nI (p + i) + 1), ?_, a1.trans (SmF.SI (by simp)), by rw [SI_same, upd_same, nI_1, Nat.add_assoc]⟩
    unfold fx_X12_next_69_l0 fx_X12_next_69_j26_b0
    simp only [lt_eq]
    rw [a2, see_in hT' hlt]
    simp only [Option.bind_some]
    simp only [isBl, Bool.or_eq_true, beq_iff_eq] at hb
    rcases hb with hb | hb
    · rw [if_pos (by rw [hb]; decide)]
    · rw [if_neg (by rw [hb]; decide), if_neg (by rw [hb]; decide)]
  · intro s ⟨a1, a2⟩
    have hT' := hT.of a1 (by decide)
    rw [show p + (run bb n isBl p - p) = run bb n isBl p by omega] at a2
    refine ⟨s, ?_, a1, a2⟩
    unfold fx_X12_next_69_l0
    rw [a2]
    by_cases hlt : run bb n isBl p < n
    · have hb := r4 hlt
      have hb256 := (hT.2.2 _ hlt).2
      simp only [isBl, Bool.or_eq_false_iff, beq_eq_false_iff_ne] at hb
      rw [see_in hT' hlt]
      simp only [Option.bind_some]
      rw [if_neg (neL 32 (by omega) (by decide) hb.1), if_pos (neL 10 (by omega) (by decide) hb.2)]
    · rw [see_out hT' (by omega) (by omega)]
      simp only [Option.bind_some]
      rw [if_neg (by decide), if_pos (by decide)]
/-- the reference passes a word -/
theorem word_m (u : llMem) (bb : Nat → Nat) (n q : Nat) (hT : TM u bb n) (hq : q ≤ n) (hto : u.1 69 23 = nI q) (hfr : u.1 69 22 = nI q) (hw : u.2.1 69 24 = 0) : ∃ e, loop fx_X12_next_69_l103 llFuel u = some e ∧ SmF 69 [23] u e ∧ e.1 69 23 = nI (run bb n isLt q) ∧ (run bb n isLt q - q ≤ 7 → e.2.1 69 24 = lN (p5 (lets bb q (run bb n isLt q - q)))) := by
  obtain ⟨r1, r2, r3, r4⟩ := run_spec bb n isLt hq
  have h700 := hT.1
  generalize hr : run bb n isLt q = r at *
  refine loop_inv (fun i s => SmF 69 [23] u s ∧ s.1 69 23 = nI (q + i) ∧ (i ≤ 7 → s.2.1 69 24 = lN (p5 (lets bb q i)))) _ (r - q) llFuel u ⟨SmF.refl _ _ _, hto, fun _ => hw⟩ ?_ ?_ (by unfold llFuel; omega)
  · intro i s hi ⟨a1, a2, a3⟩
    have hT' := hT.of a1 (by decide)
    have hlt : q + i < n := by omega
    have hb := isLt_iff.mp (r3 (q + i) (by omega) (by omega))
    have hfr' : s.1 69 22 = nI q := by rw [a1.2 22 (by decide)]; exact hfr
    unfold fx_X12_next_69_l103 fx_X12_next_69_j161_b103
    simp only [lt_eq]
    rw [a2, see_in hT' hlt]
    simp only [Option.bind_some]
    rw [isIn_n s (l := 97) (m := 122) (by omega) (by decide) (by decide), if_pos hb]
    simp only [Option.bind_some]
    rw [if_neg (by decide), hfr', pk_sub (by omega), show q + i - q = i by omega]
    by_cases h7 : i < 7
    · rw [if_neg (Lnle 7 (by omega) (by decide) h7)]
      have e23 : (llSL s 69 24 ((s.2.1 69 24 <<< (Int32.toInt64 5 &&& 63)) ||| Int32.toInt64 (nI (bb (q + i)) - 96))).1 69 23 = nI (q + i) := a2
      rw [e23]
      refine ⟨_, rfl, a1.trans (SmF.SL.trans (SmF.SI (by simp))), by rw [SI_same, upd_same, nI_1, Nat.add_assoc], fun _ => ?_⟩
      show (llSL s 69 24 _).2.1 69 24 = _
      have hp := p5_lets_lt bb q i (fun k x y => r3 k x (by omega))
      have hp2 := pow_le_65 (i := i) (by omega)
      rw [SL_same, a3 (by omega), show (96 : Int32) = nI 96 from rfl, pk_sub (by omega), lN_shl5 (by omega) (by omega), lets, p5_snoc, show bb (q + i) - 97 + 1 = bb (q + i) - 96 by omega]
    · rw [if_pos (Lle 7 (by omega) (by decide) (by omega))]
      exact ⟨_, rfl, a1.trans (SmF.SI (by simp)), by rw [SI_same, upd_same, nI_1, Nat.add_assoc], fun h => by omega⟩
  · intro s ⟨a1, a2, a3⟩
    have hT' := hT.of a1 (by decide)
    rw [show q + (r - q) = r by omega] at a2
    refine ⟨s, ?_, a1, a2, a3⟩
    unfold fx_X12_next_69_l103
    rw [a2]
    by_cases hlt : r < n
    · have hb := isLt_not (r4 hlt)
      have hb256 := (hT.2.2 _ hlt).2
      rw [see_in hT' hlt]
      simp only [Option.bind_some]
      rw [isIn_n s (l := 97) (m := 122) (by omega) (by decide) (by decide), if_neg (by omega)]
      simp only [Option.bind_some]
      rw [if_pos trivial]
    · rw [see_out hT' (by omega) (by omega)]
      simp only [Option.bind_some]
      rw [isIn_m1 s (by decide)]
      simp only [Option.bind_some]
      rw [if_pos trivial]
/-- the reference passes a number -/
theorem number_m (u : llMem) (bb : Nat → Nat) (n q : Nat) (hT : TM u bb n) (hq : q ≤ n) (hto : u.1 69 23 = nI q) (hfr : u.1 69 22 = nI q) (hw : u.1 69 25 = 0) : ∃ e, loop fx_X12_next_69_l193 llFuel u = some e ∧ SmF 69 [23, 25] u e ∧ e.1 69 23 = nI (run bb n isDg q) ∧ (run bb n isDg q - q ≤ 3 → e.1 69 25 = nI (dec bb q (run bb n isDg q - q))) := by
  obtain ⟨r1, r2, r3, r4⟩ := run_spec bb n isDg hq
  have h700 := hT.1
  generalize hr : run bb n isDg q = r at *
  refine loop_inv (fun i s => SmF 69 [23, 25] u s ∧ s.1 69 23 = nI (q + i) ∧ (i ≤ 3 → s.1 69 25 = nI (dec bb q i))) _ (r - q) llFuel u ⟨SmF.refl _ _ _, hto, fun _ => hw⟩ ?_ ?_ (by unfold llFuel; omega)
  · intro i s hi ⟨a1, a2, a3⟩
    have hT' := hT.of a1 (by decide)
    have hlt : q + i < n := by omega
    have hb := isDg_iff.mp (r3 (q + i) (by omega) (by omega))
    have hfr' : s.1 69 22 = nI q := by rw [a1.2 22 (by decide)]; exact hfr
    unfold fx_X12_next_69_l193 fx_X12_next_69_j250_b193
    simp only [lt_eq]
    rw [a2, see_in hT' hlt]
    simp only [Option.bind_some]
    rw [isIn_n s (l := 48) (m := 57) (by omega) (by decide) (by decide), if_pos hb]
    simp only [Option.bind_some]
    rw [if_neg (by decide), hfr', pk_sub (by omega), show q + i - q = i by omega]
    by_cases h7 : i < 3
    · rw [if_neg (Lnle 3 (by omega) (by decide) h7)]
      have e23 : (llSI s 69 25 ((10 * s.1 69 25 + nI (bb (q + i))) - 48)).1 69 23 = nI (q + i) := by rw [SI_same, upd_ne (by decide)]; exact a2
      rw [e23]
      refine ⟨_, rfl, a1.trans ((SmF.SI (by simp)).trans (SmF.SI (by simp))), by rw [SI_same, upd_same, nI_1, Nat.add_assoc], fun _ => ?_⟩
      have hp := dec_lt bb q i (fun k x y => r3 k x (by omega))
      have hp2 := pow_le_10 (i := i) (by omega)
      rw [SI_same, upd_ne (by decide), SI_same, upd_same, a3 (by omega), show (10 : Int32) = nI 10 from rfl, show (48 : Int32) = nI 48 from rfl, pk_mul, nI_add, pk_sub (by omega), dec]
      congr 1
      omega
    · rw [if_pos (Lle 3 (by omega) (by decide) (by omega))]
      exact ⟨_, rfl, a1.trans (SmF.SI (by simp)), by rw [SI_same, upd_same, nI_1, Nat.add_assoc], fun h => by omega⟩
  · intro s ⟨a1, a2, a3⟩
    have hT' := hT.of a1 (by decide)
    rw [show q + (r - q) = r by omega] at a2
    refine ⟨s, ?_, a1, a2, a3⟩
    unfold fx_X12_next_69_l193
    rw [a2]
    by_cases hlt : r < n
    · have hb := isDg_not (r4 hlt)
      have hb256 := (hT.2.2 _ hlt).2
      rw [see_in hT' hlt]
      simp only [Option.bind_some]
      rw [isIn_n s (l := 48) (m := 57) (by omega) (by decide) (by decide), if_neg (by omega)]
      simp only [Option.bind_some]
      rw [if_pos trivial]
    · rw [see_out hT' (by omega) (by omega)]
      simp only [Option.bind_some]
      rw [isIn_m1 s (by decide)]
      simp only [Option.bind_some]
      rw [if_pos trivial]
/-- THE REFERENCE'S next() -/
theorem next_m (u : llMem) (bb : Nat → Nat) (n p : Nat) (hT : TM u bb n) (hp : p ≤ n) (hat : u.1 69 23 = nI p) : ∃ u', fx_X12_next_69 u = some (u', ()) ∧ SmF 69 [21, 22, 23, 25, 26] u u' ∧ MT u' (tok bb n p) := by
  obtain ⟨r1, r2, -, -⟩ := run_spec bb n isBl hp
  obtain ⟨e, h1, h2, h3⟩ := nextL_m u bb n p hT hp hat
  have h700 := hT.1
  unfold fx_X12_next_69 tok
  rw [h1]
  simp only [Option.bind_some, lt_eq]
  generalize run bb n isBl p = q at *
  have b1 : SmF 69 [21, 22, 23, 25, 26] u (llSI e 69 22 (e.1 69 23)) := (h2.mono (by simp)).trans (SmF.SI (by simp))
  have c9 : (llSI e 69 22 (e.1 69 23)).1 69 23 = nI q := by rw [SI_same, upd_ne (by decide)]; exact h3
  have c3 : (llSI e 69 22 (e.1 69 23)).1 69 22 = nI q := by rw [SI_same, upd_same]; exact h3
  generalize llSI e 69 22 (e.1 69 23) = v at *
  have hTv := hT.of b1 (by decide)
  have b2 : SmF 69 [21, 22, 23, 25, 26] u (llSI (llSI (llSL v 69 24 0) 69 25 0) 69 26 0) := b1.trans (SmF.SL.trans ((SmF.SI (by simp)).trans (SmF.SI (by simp))))
  have d23 : (llSI (llSI (llSL v 69 24 0) 69 25 0) 69 26 0).1 69 23 = nI q := by rw [SI_same, upd_ne (by decide), SI_same, upd_ne (by decide)]; exact c9
  have d22 : (llSI (llSI (llSL v 69 24 0) 69 25 0) 69 26 0).1 69 22 = nI q := by rw [SI_same, upd_ne (by decide), SI_same, upd_ne (by decide)]; exact c3
  have d25 : (llSI (llSI (llSL v 69 24 0) 69 25 0) 69 26 0).1 69 25 = 0 := by rw [SI_same, upd_ne (by decide), SI_same, upd_same]
  have d24 : (llSI (llSI (llSL v 69 24 0) 69 25 0) 69 26 0).2.1 69 24 = 0 := SL_same _ _ _ _
  rw [c9]
  generalize llSI (llSI (llSL v 69 24 0) 69 25 0) 69 26 0 = w at *
  by_cases hq : q < n
  · have hb256 := (hT.2.2 _ hq).2
    rw [see_in hTv hq, if_pos hq]
    simp only [Option.bind_some]
    rw [if_pos (show ¬ nI (bb q) = -1 from fun q2 => by have := congrArg Int32.toInt q2; rw [nI_toInt (by omega)] at this; revert this; show ¬ ((bb q : Nat) : Int) = -1; omega)]
    rw [isIn_n w (l := 97) (m := 122) (by omega) (by decide) (by decide), isIn_n w (l := 48) (m := 57) (by omega) (by decide) (by decide)]
    by_cases hL : isLt (bb q) = true
    · have hb := isLt_iff.mp hL
      rw [if_pos hb, if_pos hL]
      simp only [Option.bind_some]
      rw [if_neg (by decide)]
      have b3 : SmF 69 [21, 22, 23, 25, 26] u (llSI w 69 21 1) := b2.trans (SmF.SI (by simp))
      obtain ⟨z, z1, z2, z3, z4⟩ := word_m (llSI w 69 21 1) bb n q (hT.of b3 (by decide)) (by omega) (by rw [SI_same, upd_ne (by decide)]; exact d23) (by rw [SI_same, upd_ne (by decide)]; exact d22) d24
      rw [z1]
      refine ⟨z, rfl, b3.trans (z2.mono (by simp)), ?_, z3, ?_, ?_⟩
      · rw [z2.2 22 (by decide), SI_same, upd_ne (by decide)]; exact d22
      · rw [z2.2 21 (by decide), SI_same, upd_same]
      · intro h
        rw [lets_len] at h
        exact z4 h
    · have hL : isLt (bb q) = false := by simpa using hL
      have hb := isLt_not hL
      rw [if_neg (show ¬ (97 ≤ bb q ∧ bb q ≤ 122) by omega), if_neg (show ¬ isLt (bb q) = true by rw [hL]; decide)]
      simp only [Option.bind_some]
      rw [if_pos trivial]
      by_cases hD : isDg (bb q) = true
      · have hb := isDg_iff.mp hD
        rw [if_pos hb, if_pos hD]
        rw [if_neg (by decide)]
        have b3 : SmF 69 [21, 22, 23, 25, 26] u (llSI w 69 21 2) := b2.trans (SmF.SI (by simp))
        obtain ⟨z, z1, z2, z3, z4⟩ := number_m (llSI w 69 21 2) bb n q (hT.of b3 (by decide)) (by omega) (by rw [SI_same, upd_ne (by decide)]; exact d23) (by rw [SI_same, upd_ne (by decide)]; exact d22) (by rw [SI_same, upd_ne (by decide)]; exact d25)
        rw [z1]
        refine ⟨z, rfl, b3.trans (z2.mono (by simp)), ?_, z3, ?_, z4⟩
        · rw [z2.2 22 (by decide), SI_same, upd_ne (by decide)]; exact d22
        · rw [z2.2 21 (by decide), SI_same, upd_same]
      · have hD : isDg (bb q) = false := by simpa using hD
        have hb := isDg_not hD
        rw [if_neg (show ¬ (48 ≤ bb q ∧ bb q ≤ 57) by omega), if_neg (show ¬ isDg (bb q) = true by rw [hD]; decide)]
        rw [if_pos rfl]
        refine ⟨_, rfl, b2.trans ((SmF.SI (by simp)).trans ((SmF.SI (by simp)).trans (SmF.SI (by simp)))), ?_, ?_, ?_, ?_⟩
        · rw [SI_same, upd_ne (by decide), SI_same, upd_ne (by decide), SI_same, upd_ne (by decide)]; exact d22
        · rw [SI_same, upd_same, SI_same, upd_ne (by decide), SI_same, upd_ne (by decide), d23, nI_1]
        · rw [SI_same, upd_ne (by decide), SI_same, upd_ne (by decide), SI_same, upd_same]
        · rw [SI_same, upd_ne (by decide), SI_same, upd_same]
  · rw [see_out hTv (by omega) (by omega), if_neg hq]
    simp only [Option.bind_some]
    rw [if_neg (by decide)]
    refine ⟨_, rfl, b2.trans (SmF.SI (by simp)), ?_, ?_, ?_⟩
    · rw [SI_same, upd_ne (by decide)]; exact d22
    · rw [SI_same, upd_ne (by decide)]; exact d23
    · show (llSI w 69 21 0).1 69 21 = 0
      rw [SI_same, upd_same]
