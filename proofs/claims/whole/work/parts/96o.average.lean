/-! average -/
theorem Zq_le {n q T : Nat} (hq : 1 ≤ q) (h1 : 1 ≤ T) (h2 : T < 2 ^ 18) (h : n * 256 ≤ T * q) : Zq n q ≤ T * 2 ^ 141 := by
  obtain ⟨V, v1, v2, v3⟩ := av_VT h1 h2
  rw [← v3]
  refine Jvm.FP.Core.zmag_roundRatio_le Jvm.FP.Core.good_b32 (e0 := Jvm.FP.Core.b32.qmin) (by omega) v1 v2 (Int.le_refl _) (by rw [Jvm.FP.Core.qmin_b32]; decide) ?_
  rw [v3, Jvm.FP.Core.qmin_b32]
  show n * 2 ^ 149 ≤ T * 2 ^ 141 * 1 * q
  have e : n * 2 ^ 149 = n * 256 * 2 ^ 141 := by rw [Nat.mul_assoc]
  have e2 : T * 2 ^ 141 * 1 * q = T * q * 2 ^ 141 := by rw [Nat.mul_one]; ac_rfl
  rw [e, e2]
  exact Nat.mul_le_mul_right _ h
theorem Zq_ge {n q T : Nat} (hq : 1 ≤ q) (h1 : 1 ≤ T) (h2 : T < 2 ^ 18) (h : T * q ≤ n * 256) : T * 2 ^ 141 ≤ Zq n q := by
  obtain ⟨V, v1, v2, v3⟩ := av_VT h1 h2
  rw [← v3]
  refine Jvm.FP.Core.zmag_roundRatio_ge Jvm.FP.Core.good_b32 (e0 := Jvm.FP.Core.b32.qmin) (by omega) v1 (Int.le_refl _) (by rw [Jvm.FP.Core.qmin_b32]; decide) ?_
  rw [v3, Jvm.FP.Core.qmin_b32]
  show T * 2 ^ 141 * 1 * q ≤ n * 2 ^ 149
  have e : n * 2 ^ 149 = n * 256 * 2 ^ 141 := by rw [Nat.mul_assoc]
  have e2 : T * 2 ^ 141 * 1 * q = T * q * 2 ^ 141 := by rw [Nat.mul_one]; ac_rfl
  rw [e, e2]
  exact Nat.mul_le_mul_right _ h
theorem av_norm {p : Int32} {q : Nat} (hp : -999 ≤ p.toInt ∧ p.toInt ≤ 40) (hq : 1 ≤ q ∧ q ≤ 10) (h0 : p.toInt ≠ 0) : ∃ s c r, Jvm.FP.Core.val32 (avF p (nI q)) = .fin s c r ∧ 2 ^ 23 ≤ c ∧ c < 2 ^ 24 ∧ -149 ≤ r ∧ r ≤ 104 := by
  have k1 : 1 * q ≤ p.toInt.natAbs * 256 := by omega
  have k2 : p.toInt.natAbs * 256 ≤ 262143 * q := by omega
  have z1 := Zq_ge (n := p.toInt.natAbs) (q := q) (T := 1) hq.1 (by decide) (by decide) k1
  have z2 := Zq_le (n := p.toInt.natAbs) (q := q) (T := 262143) hq.1 (Nat.le_add_left 1 262142) (Nat.lt_of_sub_pos (by decide +kernel)) k2
  have hf := Jvm.FP.Core.val32_fits (avF p (nI q))
  rw [av_val hp hq] at hf ⊢
  rw [← Zq_s (decide (p.toInt < 0))] at z1 z2
  rcases Jvm.FP.Core.roundRatio_cases Jvm.FP.Core.b32 (decide (p.toInt < 0)) p.toInt.natAbs q 0 with ⟨c, r, e⟩ | e
  · rw [e] at hf z1 ⊢
    obtain ⟨f1, f2, f3, f4⟩ := hf
    rw [Jvm.FP.Core.qmin_b32] at f2 f4
    rw [show Jvm.FP.Core.b32.qmax = 104 from by decide] at f3
    rw [Jvm.FP.Core.tails_b32] at f4
    refine ⟨_, c, r, rfl, ?_, f1, f2, f3⟩
    rcases f4 with g | g
    · exfalso
      have z3 : 1 * 2 ^ 141 ≤ c * 2 ^ (r - Jvm.FP.Core.b32.qmin).toNat := z1
      rw [Jvm.FP.Core.qmin_b32, g] at z3
      have z4 : 1 * 2 ^ 141 ≤ c := by rwa [show ((-149 : Int) - -149).toNat = 0 from rfl, Nat.pow_zero, Nat.mul_one] at z3
      have z5 : c < 2 ^ 24 := f1
      exact absurd (Nat.lt_of_le_of_lt z4 z5) (by decide +kernel)
    · exact g
  · rw [e] at z2
    have z3 : Jvm.FP.Core.b32.tails * 2 ^ (Jvm.FP.Core.b32.exps - 2) ≤ 262143 * 2 ^ 141 := z2
    exact absurd z3 (by decide +kernel)
theorem fcmp0 {d : UInt32} {s : Bool} {c : Nat} {q : Int} (h1 : Jvm.FP.Core.val32 d = .fin s c q) (h2 : 0 < c) : FP.fcmp d FP.fconst0 = some (if s then .lt else .gt) := by
  have n0 : Jvm.FP.Core.val32 FP.fconst0 = .fin false 0 (-149) := by decide +kernel
  have e : FP.fcmp d FP.fconst0 = _ := Jvm.FP.Core.fcmp_zval (a := d) (b := FP.fconst0) (by rw [h1]; exact fun z => by cases z) (by rw [n0]; exact fun z => by cases z)
  rw [e, h1, n0]
  have z0 : Jvm.FP.Core.zval Jvm.FP.Core.b32 (.fin false 0 (-149)) = 0 := by
    show ((0 * _ : Nat) : Int) = 0
    rw [Nat.zero_mul]; rfl
  have zp : 0 < c * 2 ^ (q - Jvm.FP.Core.b32.qmin).toNat := Nat.mul_pos h2 (Nat.two_pow_pos _)
  have z1 : Jvm.FP.Core.zval Jvm.FP.Core.b32 (.fin s c q) = if s then -((c * 2 ^ (q - Jvm.FP.Core.b32.qmin).toNat : Nat) : Int) else ((c * 2 ^ (q - Jvm.FP.Core.b32.qmin).toNat : Nat) : Int) := rfl
  rw [z0, z1, Jvm.FP.Core.compare_ite]
  cases s
  · rw [if_neg Bool.false_ne_true, if_neg Bool.false_ne_true, if_neg (by omega), if_neg (by omega)]
  · rw [if_pos rfl, if_pos rfl, if_pos (by omega)]
theorem lN_neg {n : Nat} (h1 : 2 ^ 63 ≤ n) (h2 : n < 2 ^ 64) : lN n < 0 := by
  rw [Int64.lt_iff_toInt_lt]
  show (Int64.ofNat n).toInt < 0
  rw [Int64.toInt_ofNat']
  show Int.bmod (n : Int) 18446744073709551616 < 0
  rw [Int.bmod_def]
  split <;> omega
theorem lN_pos {n : Nat} (h1 : n < 2 ^ 63) : ¬ lN n < 0 := by
  rw [Int64.lt_iff_toInt_lt, pf_lI h1]
  show ¬ (n : Int) < 0
  omega
theorem DN_neg {c : Nat} {q : Int} (h2 : 2 ^ 52 ≤ c) (h3 : c < 2 ^ 53) (h4 : -1074 ≤ q) (h5 : q ≤ 971) : lN (DN true c q) < 0 := by
  have e : DN true c q = 2 ^ 63 + ((q + 1075).toNat * 2 ^ 52 + (c - 2 ^ 52)) := by unfold DN; rw [Bool.toNat_true, Nat.one_mul]
  rw [e]
  exact lN_neg (by omega) (by omega)
theorem DN_pos {c : Nat} {q : Int} (h2 : 2 ^ 52 ≤ c) (h3 : c < 2 ^ 53) (h4 : -1074 ≤ q) (h5 : q ≤ 971) : ¬ lN (DN false c q) < 0 := by
  have e : DN false c q = (q + 1075).toNat * 2 ^ 52 + (c - 2 ^ 52) := by unfold DN; rw [Bool.toNat_false, Nat.zero_mul, Nat.zero_add]
  rw [e]
  exact lN_pos (by omega)
theorem u2i_N (a : UInt32) : UInt32.toInt32 a = nI a.toNat := by
  show _ = UInt32.toInt32 (UInt32.ofNat a.toNat)
  rw [UInt32.ofNat_toNat]
theorem avF_bits (u : llMem) {p : Int32} {q : Nat} (hp : -999 ≤ p.toInt ∧ p.toInt ≤ 40) (hq : 1 ≤ q ∧ q ≤ 10) : fx_X0_ofFloat u (avF p (nI q)) = some (UInt32.toInt32 (avF p (nI q))) := by
  by_cases h0 : p.toInt = 0
  · have e : avF p (nI q) = FP.fconst0 := by
      have hv := av_val hp hq
      rw [h0] at hv
      exact Jvm.FP.Core.val32_inj (av_nan hp hq) (hv.trans (by show Jvm.FP.Core.Datum.fin false 0 Jvm.FP.Core.b32.qmin = _; decide +kernel))
    rw [e]
    unfold fx_X0_ofFloat
    rw [if_neg (by decide +kernel)]
    rfl
  · obtain ⟨s, c, r, h1, h2, h3, h4, h5⟩ := av_norm hp hq h0
    have hd := f_f2d h1 h2 h3 h4 h5
    unfold fx_X0_ofFloat
    rw [fcmp0 h1 (by omega), u2i_N, f_bits h1 h2 h3 h4 h5, g64_ok (by rw [hd]; exact (fun z => by cases z)), of_any u hd (by omega) (by omega) (by omega) (by omega), Option.bind_some]
    cases s
    · rw [if_neg Bool.false_ne_true, cv_gt, if_pos (by decide), if_pos (Int32.not_lt.mp (fun z => DN_pos (c := c * 2 ^ 29) (q := r - 29) (by omega) (by omega) (by omega) (by omega) (lg_lt.mp z)))]
      exact j26_ok u (s := false) h2 h3 h4 h5
    · rw [if_pos rfl, cv_lt, if_pos (by decide), if_neg (fun z => Int32.not_lt.mpr z (lg_lt.mpr (DN_neg (c := c * 2 ^ 29) (q := r - 29) (by omega) (by omega) (by omega) (by omega))))]
      exact j26_ok u (s := true) h2 h3 h4 h5
theorem f2b_ok (u : llMem) {a : UInt32} (h : Jvm.FP.Core.val32 a ≠ .nan) : fx_Jxf58ca_floatToIntBits_5c35a u a = some (UInt32.toInt32 a) := by
  have e : FP.fcmp a a = some .eq := Jvm.FP.Core.fcmp_self h
  unfold fx_Jxf58ca_floatToIntBits_5c35a fx_Jxf58ca_isNaN_12338
  rw [e, cv_eq, if_pos rfl, gB_0, Option.bind_some, if_neg (fun q => q rfl)]
theorem average_S (a : Int32) : StepR (fun u => fx_X11_average_0 u a) (fun u => fx_X12_average_69 u a) := by
  rintro x m ⟨A, mc, ml, k, cj, h⟩
  have hp := h.1
  have hn := hp.ncB
  dsimp only
  unfold fx_X11_average_0 fx_X12_average_69
  rcases plays_B hp a with ⟨c, l, d, hc, rfl, hst, hl, hd, p1, p2⟩ | ⟨p1, p2⟩
  · obtain ⟨a0, _, _, _, _, b, _⟩ := SnB hp h.2.1 hc
    have h1 := apI_ok hp h.2.1 hc
    rw [p1, p2, Option.bind_some, Option.bind_some, if_pos one_ne, if_neg one_ne, averageOf_m hp h.2.1 hc, Option.bind_some, f2b_ok m (av_nan h1.1 h1.2), Option.bind_some, gI_nI (show c < 30 by omega) (by decide), rI_n (show c < 2 ^ 31 by omega), lt_eq, a0]
    by_cases e : Sn x 0 c = 0
    · rw [if_neg (Lnle 1 (by omega) (by omega) (by omega))]
      unfold apI mxN
      rw [if_pos e, if_pos e, avF_0]
      exact ⟨_, rfl, rfl⟩
    · rw [if_pos (Lle 1 (by omega) (by omega) (by omega)), pointsOf_x (by omega), Option.bind_some]
      have e1 : apI x c = ptI x c := by unfold apI; rw [if_neg e]
      have e2 : mxN x c = Sn x 0 c := by unfold mxN; rw [if_neg e]
      rw [e1, e2] at h1
      rw [e1, e2]
      have g := avF_bits x h1.1 h1.2
      have g2 := avF_g h1.1 h1.2 ((fx_X0_ofFloat x (avF (ptI x c) (nI (Sn x 0 c)))).bind (fun r4 => some r4))
      unfold avF at g g2 ⊢
      rw [g2, g]
      exact ⟨_, rfl, rfl⟩
  · rw [p1, p2]; exact ⟨_, rfl, rfl⟩
