/-! the bits of a double of either sign, of a float; average -/
theorem x63 {m : Nat} (h : m < 2 ^ 63) : (2 ^ 63 + m) ^^^ 2 ^ 63 = m := by
  apply Nat.eq_of_testBit_eq
  intro i
  rw [Nat.testBit_xor, Nat.testBit_two_pow]
  rcases Nat.lt_trichotomy i 63 with h1 | h1 | h1
  · rw [Nat.testBit_two_pow_add_gt h1]
    simp [show ¬ 63 = i by omega]
  · subst h1
    rw [Nat.testBit_two_pow_add_eq]
    simp
  · have a1 : 2 ^ 64 ≤ 2 ^ i := Nat.pow_le_pow_right (by decide) h1
    rw [Nat.testBit_lt_two_pow (show 2 ^ 63 + m < 2 ^ i by omega), Nat.testBit_lt_two_pow (show m < 2 ^ i by omega)]
    simp [show ¬ 63 = i by omega]
theorem dneg_nat {d : UInt64} {m : Nat} (h : d.toNat = 2 ^ 63 + m) : (FP.dneg d).toNat = m := by
  have h1 := d.toNat_lt
  unfold FP.dneg
  rw [UInt64.toNat_xor, h, show (0x8000000000000000 : UInt64).toNat = 2 ^ 63 from rfl]
  exact x63 (by omega)
def DN (s : Bool) (c : Nat) (q : Int) : Nat := s.toNat * 2 ^ 63 + ((q + 1075).toNat * 2 ^ 52 + (c - 2 ^ 52))
theorem nd_bitsS {a : UInt64} {s : Bool} {c : Nat} {q : Int} (h1 : Jvm.FP.Core.val64 a = .fin s c q) (h2 : 2 ^ 52 ≤ c) (h3 : c < 2 ^ 53) (h4 : -1074 ≤ q) (h5 : q ≤ 971) : a.toNat = DN s c q := by
  have e := Jvm.FP.Core.of64_val64 (a := a) (by rw [h1]; exact fun z => by cases z)
  rw [h1] at e
  rw [← e, Jvm.FP.Core.toNat_of64 (nd_fits h2 h3 h4 h5)]
  show (if c < Jvm.FP.Core.b64.tails then _ else ((s.toNat * Jvm.FP.Core.b64.exps + ((q - Jvm.FP.Core.b64.qmin).toNat + 1)) * Jvm.FP.Core.b64.tails + (c - Jvm.FP.Core.b64.tails))) = _
  rw [Jvm.FP.Core.tails_b64, if_neg (by omega), Jvm.FP.Core.qmin_b64, show (q - -1074).toNat + 1 = (q + 1075).toNat by omega, show Jvm.FP.Core.b64.exps = 2048 from rfl]
  unfold DN
  rw [Nat.add_mul, Nat.mul_assoc, Nat.add_assoc]
theorem cmp0 {d : UInt64} {s : Bool} {c : Nat} {q : Int} (h1 : Jvm.FP.Core.val64 d = .fin s c q) (h2 : 0 < c) : FP.dcmp d FP.dconst0 = some (if s then .lt else .gt) := by
  have n0 : Jvm.FP.Core.val64 FP.dconst0 = .fin false 0 (-1074) := by decide +kernel
  have e : FP.dcmp d FP.dconst0 = _ := Jvm.FP.Core.dcmp_zval (a := d) (b := FP.dconst0) (by rw [h1]; exact fun z => by cases z) (by rw [n0]; exact fun z => by cases z)
  rw [e, h1, n0]
  have z0 : Jvm.FP.Core.zval Jvm.FP.Core.b64 (.fin false 0 (-1074)) = 0 := by
    show ((0 * _ : Nat) : Int) = 0
    rw [Nat.zero_mul]; rfl
  have zp : 0 < c * 2 ^ (q - Jvm.FP.Core.b64.qmin).toNat := Nat.mul_pos h2 (Nat.two_pow_pos _)
  have z1 : Jvm.FP.Core.zval Jvm.FP.Core.b64 (.fin s c q) = if s then -((c * 2 ^ (q - Jvm.FP.Core.b64.qmin).toNat : Nat) : Int) else ((c * 2 ^ (q - Jvm.FP.Core.b64.qmin).toNat : Nat) : Int) := rfl
  rw [z0, z1, Jvm.FP.Core.compare_ite]
  cases s
  · rw [if_neg Bool.false_ne_true, if_neg Bool.false_ne_true, if_neg (by omega), if_neg (by omega)]
  · rw [if_pos rfl, if_pos rfl, if_pos (by omega)]
theorem of_any (u : llMem) {d : UInt64} {s : Bool} {c : Nat} {q : Int} (h1 : Jvm.FP.Core.val64 d = .fin s c q) (h2 : 2 ^ 52 ≤ c) (h3 : c < 2 ^ 53) (h4 : -1074 ≤ q) (h5 : q ≤ 971) : fx_X0_ofDouble u d = some (lN (DN s c q)) := by
  have hb := nd_bitsS h1 h2 h3 h4 h5
  unfold fx_X0_ofDouble
  rw [cmp0 h1 (by omega)]
  cases s
  · rw [if_neg Bool.false_ne_true, cv_gt, cv_gt, if_pos (by decide), if_pos (by decide), nd_of u d d ⟨h1, h2, h3, h4, h5⟩ (by omega), cmp0 h1 (by omega), if_neg Bool.false_ne_true, cv_gt, if_pos (by decide), hb]
  · have hb' : d.toNat = 2 ^ 63 + ((q + 1075).toNat * 2 ^ 52 + (c - 2 ^ 52)) := by rw [hb]; unfold DN; rw [Bool.toNat_true, Nat.one_mul]
    have hn := dneg_nat hb'
    have hv : Jvm.FP.Core.val64 (FP.dneg d) = .fin false c q := by
      rw [Jvm.FP.Core.val64_neg_bits (a := d) (b := FP.dneg d) (Or.inl (by rw [hn, hb']; omega)), h1]; rfl
    rw [if_pos rfl, cv_lt, cv_lt, if_pos (by decide), if_neg (by decide), nd_of u d (FP.dneg d) ⟨hv, h2, h3, h4, h5⟩ (by omega), cmp0 h1 (by omega), if_pos rfl, cv_lt, if_neg (by decide), hn]
    rw [show (-9223372036854775808 : Int64) = lN (1 * 2 ^ 63) from rfl, g_or' (k := 63) rfl (by omega) (by omega)]
    unfold DN
    rw [Bool.toNat_true, Nat.one_mul, Nat.add_comm]
/-- floats with all 24 digits -/
theorem f_bits {a : UInt32} {s : Bool} {c : Nat} {r : Int} (h1 : Jvm.FP.Core.val32 a = .fin s c r) (h2 : 2 ^ 23 ≤ c) (h3 : c < 2 ^ 24) (h4 : -149 ≤ r) (h5 : r ≤ 104) : a.toNat = s.toNat * 2 ^ 31 + ((r + 150).toNat * 2 ^ 23 + (c - 2 ^ 23)) := by
  have e := Jvm.FP.Core.of32_val32 (a := a) (by rw [h1]; exact fun z => by cases z)
  rw [h1] at e
  have hf : Jvm.FP.Core.fits Jvm.FP.Core.b32 (.fin s c r) := ⟨h3, by rw [Jvm.FP.Core.qmin_b32]; omega, by rw [show Jvm.FP.Core.b32.qmax = 104 from by decide]; omega, Or.inr (by rw [Jvm.FP.Core.tails_b32]; omega)⟩
  rw [← e, Jvm.FP.Core.toNat_of32 hf]
  show (if c < Jvm.FP.Core.b32.tails then _ else ((s.toNat * Jvm.FP.Core.b32.exps + ((r - Jvm.FP.Core.b32.qmin).toNat + 1)) * Jvm.FP.Core.b32.tails + (c - Jvm.FP.Core.b32.tails))) = _
  rw [Jvm.FP.Core.tails_b32, if_neg (by omega), Jvm.FP.Core.qmin_b32, show (r - -149).toNat + 1 = (r + 150).toNat by omega, show Jvm.FP.Core.b32.exps = 256 from rfl]
  rw [Nat.add_mul, Nat.mul_assoc, Nat.add_assoc]
theorem f_f2d {a : UInt32} {s : Bool} {c : Nat} {r : Int} (h1 : Jvm.FP.Core.val32 a = .fin s c r) (h2 : 2 ^ 23 ≤ c) (h3 : c < 2 ^ 24) (h4 : -149 ≤ r) (h5 : r ≤ 104) : Jvm.FP.Core.val64 (FP.f2d a) = .fin s (c * 2 ^ 29) (r - 29) := by
  have hn : Jvm.FP.Core.fIsNaN a = false := (Jvm.FP.Core.notNaN_iff32 a).mpr (by rw [h1]; exact fun z => by cases z)
  unfold FP.f2d
  rw [hn, if_neg Bool.false_ne_true, Jvm.FP.Core.val64_f2d, h1]
  show Jvm.FP.Core.roundRatio Jvm.FP.Core.b64 s c 1 r = _
  exact Jvm.FP.Core.roundRatio_exact Jvm.FP.Core.good_b64 (by decide) (nd_fits (by omega) (by omega) (by omega) (by omega)) (by rw [show (r - (r - 29)).toNat = 29 by omega, show (r - 29 - r).toNat = 0 by omega, Nat.pow_zero, Nat.mul_one, Nat.mul_one])
theorem l2i_N (n : Nat) : Int64.toInt32 (lN n) = nI n := Int64.toInt32_ofNat' (n := n)
theorem i_tn {n : Nat} (h : n < 2 ^ 32) : (UInt32.ofNat n).toNat = n := Nat.mod_eq_of_lt h
theorem i_or {k p a b : Nat} (hp : 2 ^ k = p) (ha : a < p) (h : b * p + a < 2 ^ 32) : nI (b * p) ||| nI a = nI (b * p + a) := by
  subst hp
  have h1 : b * 2 ^ k ||| a = b * 2 ^ k + a := by rw [← Nat.shiftLeft_eq, Nat.shiftLeft_add_eq_or_of_lt ha]
  have h3 : UInt32.ofNat (b * 2 ^ k) ||| UInt32.ofNat a = UInt32.ofNat (b * 2 ^ k + a) := UInt32.toNat_inj.mp (by rw [UInt32.toNat_or, i_tn (by omega), i_tn (by omega), i_tn h, h1])
  have h2 := congrArg UInt32.toInt32 h3
  exact h2
theorem i_shl23 {n : Nat} : nI n <<< ((23 : Int32) &&& 31) = nI (n * 2 ^ 23) := by
  apply Int32.toBitVec_inj.mp
  rw [Int32.toBitVec_shiftLeft, show ((23 : Int32) &&& 31).toBitVec.smod 32 = 23#32 from by decide]
  show BitVec.ofNat 32 n <<< 23#32 = BitVec.ofNat 32 (n * 2 ^ 23)
  apply BitVec.eq_of_toNat_eq
  rw [BitVec.shiftLeft_eq', BitVec.toNat_shiftLeft, BitVec.toNat_ofNat, BitVec.toNat_ofNat, Nat.shiftLeft_eq, show 23 % 2 ^ 32 = 23 from rfl, BitVec.toNat_ofNat, Nat.mod_mul_mod]
theorem j26_ok (u : llMem) {s : Bool} {c : Nat} {r : Int} (h2 : 2 ^ 23 ≤ c) (h3 : c < 2 ^ 24) (h4 : -149 ≤ r) (h5 : r ≤ 104) : fx_X0_ofFloat_j26 u (lN (DN s (c * 2 ^ 29) (r - 29))) (if s then -2147483648 else 0) = some (nI (s.toNat * 2 ^ 31 + ((r + 150).toNat * 2 ^ 23 + (c - 2 ^ 23)))) := by
  have hs : s.toNat ≤ 1 := by cases s <;> decide
  have hE : (r - 29 + 1075).toNat = (r + 150).toNat + 896 := by omega
  have hX : (r + 150).toNat < 255 ∧ 1 ≤ (r + 150).toNat := by omega
  unfold DN
  rw [hE]
  generalize (r + 150).toNat = X at hX
  have hF : c * 2 ^ 29 - 2 ^ 52 = (c - 2 ^ 23) * 2 ^ 29 := by rw [Nat.sub_mul]
  rw [hF]
  obtain ⟨F, rfl⟩ : ∃ F, c = 2 ^ 23 + F := ⟨c - 2 ^ 23, by omega⟩
  rw [Nat.add_sub_cancel_left]
  have hD : s.toNat * 2 ^ 63 + ((X + 896) * 2 ^ 52 + F * 2 ^ 29) < 2 ^ 64 := by omega
  unfold fx_X0_ofFloat_j26
  have e1 : ((lN (s.toNat * 2 ^ 63 + ((X + 896) * 2 ^ 52 + F * 2 ^ 29))).toUInt64 >>> (Int64.toUInt64 (Int32.toInt64 52) &&& Int64.toUInt64 63)).toInt64 &&& 2047 = lN (X + 896) := by
    rw [show (52 : Int32) = nI 52 from rfl, wb_shr hD (by decide), show (2047 : Int64) = lN (2048 - 1) from rfl, g_mask (s := 11) rfl (by decide) (by omega)]
    exact congrArg _ (by omega)
  have e2 : ((lN (s.toNat * 2 ^ 63 + ((X + 896) * 2 ^ 52 + F * 2 ^ 29))).toUInt64 >>> (Int64.toUInt64 (Int32.toInt64 29) &&& Int64.toUInt64 63)).toInt64 &&& 8388607 = lN F := by
    rw [show (29 : Int32) = nI 29 from rfl, wb_shr hD (by decide), show (8388607 : Int64) = lN (8388608 - 1) from rfl, g_mask (s := 23) rfl (by decide) (by omega)]
    exact congrArg _ (by omega)
  have e3 : nI (X + 896) - 1023 + 127 = nI X := by
    apply nI_of_toInt
    rw [Int32.toInt_add, Int32.toInt_sub, nI_toInt (by omega), show (1023 : Int32).toInt = 1023 from rfl, show (127 : Int32).toInt = 127 from rfl, Int.bmod_eq_of_le_mul_two (x := ((X + 896 : Nat) : Int) - 1023) (by omega) (by omega), Int.bmod_eq_of_le_mul_two (by omega) (by omega)]
    omega
  rw [e1, e2, l2i_N, l2i_N, e3, lt_eq, i_shl23]
  refine congrArg some ?_
  have hF2 : F < 2 ^ 23 := by omega
  clear e1 e2 e3 hD hs hF hE h2 h3
  cases s
  · rw [if_neg Bool.false_ne_true, Bool.toNat_false, Nat.zero_mul, Nat.zero_add, Int32.zero_or, i_or (k := 23) (p := 2 ^ 23) (a := F) rfl (by omega) (by omega)]
  · rw [if_pos rfl, Bool.toNat_true, show (-2147483648 : Int32) = nI (1 * 2 ^ 31) from rfl, i_or (k := 31) (p := 2 ^ 31) (a := X * 2 ^ 23) (b := 1) rfl (by omega) (by omega), show 1 * 2 ^ 31 + X * 2 ^ 23 = (256 + X) * 2 ^ 23 by omega, i_or (k := 23) (p := 2 ^ 23) (a := F) rfl (by omega) (by omega)]
    exact congrArg _ (by omega)
