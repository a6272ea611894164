/-! rest: a double less its whole part -/
theorem un_congr {n c : Nat} {e q : Int} (he : -1074 ≤ e) (hq : -1074 ≤ q) (h : n * 2 ^ (e + 1074).toNat = c * 2 ^ (q + 1074).toNat) : n * 1 * 2 ^ (e - q).toNat = c * 1 * 2 ^ (q - e).toNat := by
  rw [Nat.mul_one, Nat.mul_one]
  by_cases g : q ≤ e
  · have e1 : (q - e).toNat = 0 := by omega
    have e2 : (e + 1074).toNat = (e - q).toNat + (q + 1074).toNat := by omega
    rw [e2, Nat.pow_add, ← Nat.mul_assoc] at h
    rw [e1, Nat.pow_zero, Nat.mul_one]
    exact Nat.eq_of_mul_eq_mul_right (Nat.two_pow_pos _) h
  · have e1 : (e - q).toNat = 0 := by omega
    have e2 : (q + 1074).toNat = (q - e).toNat + (e + 1074).toNat := by omega
    rw [e2, Nat.pow_add, ← Nat.mul_assoc] at h
    rw [e1, Nat.pow_zero, Nat.mul_one]
    exact Nat.eq_of_mul_eq_mul_right (Nat.two_pow_pos _) h
theorem iu64 (c : Nat) (q : Int) : Jvm.FP.Core.inUnits c q Jvm.FP.Core.b64.qmin = c * 2 ^ (q + 1074).toNat := by
  unfold Jvm.FP.Core.inUnits
  rw [Jvm.FP.Core.qmin_b64, Int.sub_neg]
theorem wh_units {c K O : Nat} {q : Int} (hO : O = 2 ^ 1074) (hq : -1074 ≤ q) (h : c * 2 ^ q.toNat = K * 2 ^ (-q).toNat) : c * 2 ^ (q + 1074).toNat = K * O := by
  rw [hO]
  by_cases g : 0 ≤ q
  · have e1 : (-q).toNat = 0 := by omega
    have e2 : (q + 1074).toNat = q.toNat + 1074 := by omega
    rw [e1, Nat.pow_zero, Nat.mul_one] at h
    rw [e2, Nat.pow_add, ← Nat.mul_assoc, h]
  · have e1 : q.toNat = 0 := by omega
    have e2 : (-q).toNat + (q + 1074).toNat = 1074 := by omega
    rw [e1, Nat.pow_zero, Nat.mul_one] at h
    rw [h, Nat.mul_assoc, ← Nat.pow_add, e2]
theorem one_units {O : Nat} (hO : O = 2 ^ 1074) : 2 ^ 52 * 2 ^ ((-52 : Int) + 1074).toNat = O := by
  rw [hO, ← Nat.pow_add]; rfl
theorem split_u {c : Nat} {q E : Int} (h1 : E ≤ q) (h2 : -1074 ≤ E) : c * 2 ^ (q - E).toNat * 2 ^ (E + 1074).toNat = c * 2 ^ (q + 1074).toNat := by
  rw [Nat.mul_assoc, ← Nat.pow_add, show (q - E).toNat + (E + 1074).toNat = (q + 1074).toNat by omega]
theorem max_min {K : Nat} (h : K < 2147483648) : max (-2 ^ 63) (min (2 ^ 63 - 1) ((K : Nat) : Int)) = ((K : Nat) : Int) := by omega
theorem rv_d2l {v : UInt64} {c O : Nat} {q : Int} (hO : O = 2 ^ 1074) (h : Jvm.FP.Core.val64 v = .fin false c q) (hK : c * 2 ^ (q + 1074).toNat < O * 2147483648) : (FP.d2l v).toInt = ((c * 2 ^ (q + 1074).toNat / O : Nat) : Int) := by
  have hn : Jvm.FP.Core.val64 v ≠ .nan := by rw [h]; exact (fun z => by cases z)
  have e : (FP.d2l v).toInt = max (-2 ^ 63) (min (2 ^ 63 - 1) (Jvm.FP.Core.signed (Jvm.FP.Core.sgn (Jvm.FP.Core.val64 v)) (Jvm.FP.Core.zmag Jvm.FP.Core.b64 (Jvm.FP.Core.val64 v) / Jvm.FP.Core.one64))) := Jvm.FP.Core.d2l_val hn
  have z : Jvm.FP.Core.zmag Jvm.FP.Core.b64 (.fin false c q) = c * 2 ^ (q + 1074).toNat := iu64 c q
  have o : Jvm.FP.Core.one64 = O := by rw [hO]; rfl
  rw [e, h, z, o]
  have k := Nat.div_lt_of_lt_mul hK
  generalize c * 2 ^ (q + 1074).toNat / O = K at k
  exact max_min k
theorem rv_frac {v : UInt64} {c O : Nat} {q : Int} (hO : O = 2 ^ 1074) (h : Jvm.FP.Core.val64 v = .fin false c q) (hK : c * 2 ^ (q + 1074).toNat < O * 2147483648) : FP.dsub v (FP.l2d (FP.d2l v)) = FP.drem v FP.dconst1 ∧ ∃ c' q', Jvm.FP.Core.val64 (FP.drem v FP.dconst1) = .fin false c' q' ∧ c' * 2 ^ (q' + 1074).toNat = c * 2 ^ (q + 1074).toNat % O := by
  have hf := Jvm.FP.Core.val64_fits v
  rw [h] at hf
  have hq : -1074 ≤ q := by have := hf.2.1; rwa [Jvm.FP.Core.qmin_b64] at this
  have r : ∃ c' q', Jvm.FP.Core.val64 (FP.drem v FP.dconst1) = .fin false c' q' ∧ Jvm.FP.Core.inUnits c' q' Jvm.FP.Core.b64.qmin = Jvm.FP.Core.inUnits c q Jvm.FP.Core.b64.qmin % Jvm.FP.Core.inUnits (2 ^ 52) (-52) Jvm.FP.Core.b64.qmin := Jvm.FP.Core.drem_exact (a := v) (b := FP.dconst1) h nd_one.1 (by decide)
  obtain ⟨c', q', r1, r2⟩ := r
  rw [iu64, iu64, iu64, one_units hO] at r2
  have hf' := Jvm.FP.Core.val64_fits (FP.drem v FP.dconst1)
  rw [r1] at hf'
  have hq' : -1074 ≤ q' := by have := hf'.2.1; rwa [Jvm.FP.Core.qmin_b64] at this
  have hd := rv_d2l hO h hK
  have hKs := Nat.div_lt_of_lt_mul hK
  have hle : c * 2 ^ (q + 1074).toNat / O * O ≤ c * 2 ^ (q + 1074).toNat := Nat.div_mul_le_self _ _
  have hmod : c * 2 ^ (q + 1074).toNat - c * 2 ^ (q + 1074).toNat / O * O = c * 2 ^ (q + 1074).toNat % O := by
    have := Nat.div_add_mod (c * 2 ^ (q + 1074).toNat) O
    rw [Nat.mul_comm] at this
    omega
  obtain ⟨cK, qK, w1⟩ := Jvm.FP.Core.l2d_shape (FP.d2l v)
  have w1 : Jvm.FP.Core.val64 (FP.l2d (FP.d2l v)) = .fin (decide ((FP.d2l v).toInt < 0)) cK qK := w1
  have hwf := Jvm.FP.Core.val64_fits (FP.l2d (FP.d2l v))
  rw [w1] at hwf
  have hqK : -1074 ≤ qK := by have := hwf.2.1; rwa [Jvm.FP.Core.qmin_b64] at this
  have w3 : cK * 2 ^ qK.toNat = (FP.d2l v).toInt.natAbs * 2 ^ (-qK).toNat := by
    refine Jvm.FP.Core.whole_natAbs (s := decide ((FP.d2l v).toInt < 0)) ?_
    rw [← w1]
    refine Jvm.FP.Core.l2d_whole ⟨?_, ?_⟩
    · rw [hd]; exact Int.lt_of_lt_of_le (by decide) (Int.natCast_nonneg _)
    · rw [hd]; omega
  rw [hd, Int.natAbs_natCast] at w3
  rw [hd, decide_eq_false (Int.not_lt.mpr (Int.natCast_nonneg _))] at w1
  have w4 := wh_units hO hqK w3
  have e : Jvm.FP.Core.val64 (FP.dsub v (FP.l2d (FP.d2l v))) = Jvm.FP.Core.round Jvm.FP.Core.b64 (Jvm.FP.Core.exactSum (Jvm.FP.Core.val64 v) (Jvm.FP.Core.negate (Jvm.FP.Core.val64 (FP.l2d (FP.d2l v))))) := Jvm.FP.Core.val64_dsub _ _
  rw [h, w1] at e
  have hE : -1074 ≤ min q qK := by omega
  have x1 := split_u (c := c) (show min q qK ≤ q by omega) hE
  have x2 := split_u (c := cK) (show min q qK ≤ qK by omega) hE
  rw [w4] at x2
  have x3 : cK * 2 ^ (qK - min q qK).toNat ≤ c * 2 ^ (q - min q qK).toNat := by
    refine Nat.le_of_mul_le_mul_right ?_ (Nat.two_pow_pos (min q qK + 1074).toNat)
    rw [x1, x2]; exact hle
  have x4 : (c * 2 ^ (q - min q qK).toNat - cK * 2 ^ (qK - min q qK).toNat) * 2 ^ (min q qK + 1074).toNat = c' * 2 ^ (q' + 1074).toNat := by
    rw [Nat.sub_mul, x1, x2, hmod, r2]
  have su : Jvm.FP.Core.sumUnits false c q true cK qK (min q qK) = ((c * 2 ^ (q - min q qK).toNat - cK * 2 ^ (qK - min q qK).toNat : Nat) : Int) := by
    show ((c * 2 ^ (q - min q qK).toNat : Nat) : Int) + -((cK * 2 ^ (qK - min q qK).toNat : Nat) : Int) = _
    omega
  have e2 : Jvm.FP.Core.exactSum (.fin false c q) (Jvm.FP.Core.negate (.fin false cK qK)) = .fin false (c * 2 ^ (q - min q qK).toNat - cK * 2 ^ (qK - min q qK).toNat) (min q qK) := by
    show Jvm.FP.Core.Datum.fin (Jvm.FP.Core.sumSign false true (Jvm.FP.Core.sumUnits false c q true cK qK (min q qK))) (Jvm.FP.Core.sumUnits false c q true cK qK (min q qK)).natAbs (min q qK) = _
    rw [su, Int.natAbs_natCast]
    generalize c * 2 ^ (q - min q qK).toNat - cK * 2 ^ (qK - min q qK).toNat = n
    have e3 : Jvm.FP.Core.sumSign false true ((n : Nat) : Int) = false := by
      unfold Jvm.FP.Core.sumSign
      split
      · rfl
      · exact decide_eq_false (by omega)
    rw [e3]
  rw [e2] at e
  have e4 : Jvm.FP.Core.round Jvm.FP.Core.b64 (.fin false c' q') = .fin false c' q' := Jvm.FP.Core.round_of_fits Jvm.FP.Core.good_b64 hf'
  have e5 : Jvm.FP.Core.roundRatio Jvm.FP.Core.b64 false (c * 2 ^ (q - min q qK).toNat - cK * 2 ^ (qK - min q qK).toNat) 1 (min q qK) = Jvm.FP.Core.roundRatio Jvm.FP.Core.b64 false c' 1 q' := Jvm.FP.Core.roundRatio_congr (by decide) (by decide) (un_congr hE hq' x4)
  have e6 : Jvm.FP.Core.val64 (FP.dsub v (FP.l2d (FP.d2l v))) = .fin false c' q' := e.trans (e5.trans e4)
  exact ⟨Jvm.FP.Core.val64_inj (by rw [e6]; exact (fun z => by cases z)) (e6.trans r1.symm), c', q', r1, r2⟩
theorem u2l_N (a : UInt64) : UInt64.toInt64 a = lN a.toNat := by
  show _ = UInt64.toInt64 (UInt64.ofNat a.toNat)
  rw [UInt64.ofNat_toNat]
theorem of_zero (u : llMem) : fx_X0_ofDouble u FP.dconst0 = some (UInt64.toInt64 FP.dconst0) := by
  unfold fx_X0_ofDouble
  rw [if_neg (by decide +kernel)]
  rfl
theorem rv_bits (u : llMem) {v : UInt64} {c O : Nat} {q : Int} (hO : O = 2 ^ 1074) (h : Jvm.FP.Core.val64 v = .fin false c q) (hK : c * 2 ^ (q + 1074).toNat < O * 2147483648) (hD : 2 ^ 52 ∣ c * 2 ^ (q + 1074).toNat) : fx_X0_ofDouble u (FP.dsub v (FP.l2d (FP.d2l v))) = some (UInt64.toInt64 (FP.drem v FP.dconst1)) ∧ Jvm.FP.Core.val64 (FP.dsub v (FP.l2d (FP.d2l v))) ≠ .nan ∧ Jvm.FP.Core.val64 (FP.drem v FP.dconst1) ≠ .nan := by
  obtain ⟨e1, c', q', r1, r2⟩ := rv_frac hO h hK
  have nn : Jvm.FP.Core.val64 (FP.drem v FP.dconst1) ≠ .nan := by rw [r1]; exact (fun z => by cases z)
  rw [e1]
  refine ⟨?_, nn, nn⟩
  have hf := Jvm.FP.Core.val64_fits (FP.drem v FP.dconst1)
  rw [r1] at hf
  obtain ⟨f1, f2, f3, f4⟩ := hf
  rw [Jvm.FP.Core.qmin_b64] at f2 f4
  rw [show Jvm.FP.Core.b64.qmax = 971 from by decide] at f3
  rw [Jvm.FP.Core.tails_b64] at f4
  have f1 : c' < 2 ^ 53 := f1
  by_cases g : 2 ^ 52 ≤ c'
  · rw [of_any u r1 g f1 f2 f3, u2l_N, nd_bitsS r1 g f1 f2 f3]
  · have q0 : q' = -1074 := by
      rcases f4 with z | z
      · exact z
      · exact absurd z g
    have d2 : 2 ^ 52 ∣ O := by rw [hO]; exact Nat.pow_dvd_pow 2 (by omega)
    have d3 := (Nat.dvd_mod_iff d2).mpr hD
    rw [← r2, q0, show ((-1074 : Int) + 1074).toNat = 0 from rfl, Nat.pow_zero, Nat.mul_one] at d3
    have c0 : c' = 0 := by
      obtain ⟨k, hk⟩ := d3
      omega
    have ez : FP.drem v FP.dconst1 = FP.dconst0 := by
      refine Jvm.FP.Core.val64_inj nn ?_
      rw [r1, c0, q0]
      decide +kernel
    rw [ez]
    exact of_zero u
