/-! the bits of a double, by the class's own arithmetic -/
def Nd (a : UInt64) (c : Nat) (q : Int) : Prop := Jvm.FP.Core.val64 a = .fin false c q ∧ 2 ^ 52 ≤ c ∧ c < 2 ^ 53 ∧ -1074 ≤ q ∧ q ≤ 971
theorem nd_fits {s : Bool} {c : Nat} {q : Int} (h1 : 2 ^ 52 ≤ c) (h2 : c < 2 ^ 53) (h3 : -1074 ≤ q) (h4 : q ≤ 971) : Jvm.FP.Core.fits Jvm.FP.Core.b64 (.fin s c q) := ⟨h2, by rw [Jvm.FP.Core.qmin_b64]; omega, by rw [show Jvm.FP.Core.b64.qmax = 971 from by decide]; omega, Or.inr (by rw [Jvm.FP.Core.tails_b64]; omega)⟩
theorem nd_two : Nd 4611686018427387904 (2 ^ 52) (-51) := ⟨by decide +kernel, by decide, by decide, by decide, by decide⟩
theorem nd_one : Nd FP.dconst1 (2 ^ 52) (-52) := ⟨by decide +kernel, by decide, by decide, by decide, by decide⟩
theorem nd_52 : Jvm.FP.Core.val64 4841369599423283200 = .fin false (2 ^ 52) 0 := by decide +kernel
theorem nd_half {a : UInt64} {c : Nat} {q : Int} (h : Nd a c q) (hq : -1073 ≤ q) : Nd (FP.ddiv a 4611686018427387904) c (q - 1) := by
  obtain ⟨h1, h2, h3, h4, h5⟩ := h
  refine ⟨?_, h2, h3, by omega, by omega⟩
  have e : Jvm.FP.Core.val64 (FP.ddiv a 4611686018427387904) = Jvm.FP.Core.quotient Jvm.FP.Core.b64 (Jvm.FP.Core.val64 a) (Jvm.FP.Core.val64 4611686018427387904) := Jvm.FP.Core.val64_ddiv _ _
  rw [e, h1, nd_two.1]
  show (if 2 ^ 52 = 0 then (if c = 0 then Jvm.FP.Core.Datum.nan else Jvm.FP.Core.Datum.inf false) else Jvm.FP.Core.roundRatio Jvm.FP.Core.b64 false c (2 ^ 52) (q - -51)) = _
  rw [if_neg (by decide)]
  exact Jvm.FP.Core.roundRatio_exact Jvm.FP.Core.good_b64 (by decide) (nd_fits h2 h3 (by omega) (by omega)) (by rw [show (q - -51 - (q - 1)).toNat = 52 by omega, show (q - 1 - (q - -51)).toNat = 0 by omega, Nat.pow_zero, Nat.mul_one])
theorem nd_double {a : UInt64} {c : Nat} {q : Int} (h : Nd a c q) (hq : q ≤ 970) : Nd (FP.dmul a 4611686018427387904) c (q + 1) := by
  obtain ⟨h1, h2, h3, h4, h5⟩ := h
  refine ⟨?_, h2, h3, by omega, by omega⟩
  have e : Jvm.FP.Core.val64 (FP.dmul a 4611686018427387904) = Jvm.FP.Core.round Jvm.FP.Core.b64 (Jvm.FP.Core.exactProduct (Jvm.FP.Core.val64 a) (Jvm.FP.Core.val64 4611686018427387904)) := Jvm.FP.Core.val64_dmul _ _
  rw [e, h1, nd_two.1]
  show Jvm.FP.Core.roundRatio Jvm.FP.Core.b64 false (c * 2 ^ 52) 1 (q + -51) = _
  exact Jvm.FP.Core.roundRatio_exact Jvm.FP.Core.good_b64 (by decide) (nd_fits h2 h3 (by omega) (by omega)) (by rw [show (q + -51 - (q + 1)).toNat = 0 by omega, show (q + 1 - (q + -51)).toNat = 52 by omega, Nat.pow_zero, Nat.mul_one, Nat.mul_one])
theorem nd_nan {a : UInt64} {c : Nat} {q : Int} (h : Nd a c q) : Jvm.FP.Core.val64 a ≠ .nan := by rw [h.1]; exact fun z => by cases z
theorem g64_ok {ρ : Type} {a : UInt64} (h : Jvm.FP.Core.val64 a ≠ .nan) (y : Option ρ) : g64 a y = y := by
  have h := (Jvm.FP.Core.ne_nan _).mp h
  unfold g64
  rw [if_pos]
  rw [UInt64.le_iff_toNat_le, Jvm.FP.Core.mask_toNat]
  exact h
theorem nd_z {a : UInt64} {c : Nat} {q : Int} (h : Nd a c q) : Jvm.FP.Core.zval Jvm.FP.Core.b64 (Jvm.FP.Core.val64 a) = ((c * 2 ^ (q + 1074).toNat : Nat) : Int) := by
  rw [h.1]
  show ((c * 2 ^ (q - Jvm.FP.Core.b64.qmin).toNat : Nat) : Int) = _
  rw [Jvm.FP.Core.qmin_b64, Int.sub_neg]
theorem nd_cmp {a b : UInt64} {c c' : Nat} {q q' : Int} (h : Nd a c q) (h' : Nd b c' q') : FP.dcmp a b = some (compare ((c * 2 ^ (q + 1074).toNat : Nat) : Int) ((c' * 2 ^ (q' + 1074).toNat : Nat) : Int)) := by
  have e : FP.dcmp a b = _ := Jvm.FP.Core.dcmp_zval (nd_nan h) (nd_nan h')
  rw [e, nd_z h, nd_z h']
theorem nd_lt {a b : UInt64} {c : Nat} {q q' : Int} (h : Nd a c q) (h' : Nd b (2 ^ 52) q') (hq : q < q') : FP.dcmp a b = some .lt := by
  have e1 : c * 2 ^ (q + 1074).toNat < 2 ^ 53 * 2 ^ (q + 1074).toNat := Nat.mul_lt_mul_of_pos_right h.2.2.1 (Nat.two_pow_pos _)
  have e2 : 2 ^ 53 * 2 ^ (q + 1074).toNat ≤ 2 ^ 52 * 2 ^ (q' + 1074).toNat := by
    rw [← Nat.pow_add, ← Nat.pow_add]
    exact Nat.pow_le_pow_right (by decide) (by have := h.2.2.2.1; omega)
  rw [nd_cmp h h', Jvm.FP.Core.compare_ite, if_pos (by omega)]
theorem nd_ge {a b : UInt64} {c : Nat} {q q' : Int} (h : Nd a c q) (h' : Nd b (2 ^ 52) q') (hq : q' ≤ q) : FP.dcmp a b = some .eq ∨ FP.dcmp a b = some .gt := by
  have e1 : 2 ^ 52 * 2 ^ (q + 1074).toNat ≤ c * 2 ^ (q + 1074).toNat := Nat.mul_le_mul_right _ h.2.1
  have e2 : 2 ^ 52 * 2 ^ (q' + 1074).toNat ≤ 2 ^ 52 * 2 ^ (q + 1074).toNat := Nat.mul_le_mul_left _ (Nat.pow_le_pow_right (by decide) (by omega))
  rw [nd_cmp h h', Jvm.FP.Core.compare_ite, if_neg (by omega)]
  split
  · exact Or.inl rfl
  · exact Or.inr rfl
theorem cv_lt (o : CmpOp) : Op.cmpValue (some .lt) o = -1 := by cases o <;> decide
theorem cv_eq (o : CmpOp) : Op.cmpValue (some .eq) o = 0 := by cases o <;> decide
theorem cv_gt (o : CmpOp) : Op.cmpValue (some .gt) o = 1 := by cases o <;> decide
theorem nd_loop1 (u : llMem) (v a : UInt64) {c : Nat} {q : Int} (h : Nd a c q) : ∃ e, loop (fx_X0_ofDouble_l24 u v) llFuel (a, 0) = some e ∧ (Nd e.1 c (q - (q + 52).toNat) ∧ e.2 = nI (q + 52).toNat) := by
  have hb := h.2.2.2.2
  refine loop_inv (fun (i : Nat) (s : UInt64 × Int32) => Nd s.1 c (q - i) ∧ s.2 = nI i) (fun (e : UInt64 × Int32) => Nd e.1 c (q - (q + 52).toNat) ∧ e.2 = nI (q + 52).toNat) (q + 52).toNat llFuel (a, 0) ⟨by rw [show q - ((0 : Nat) : Int) = q by omega]; exact h, rfl⟩ ?_ ?_ (by unfold llFuel; omega)
  · rintro i ⟨s, p⟩ hi ⟨h1, h2⟩
    dsimp only at h1 h2
    refine ⟨(FP.ddiv s 4611686018427387904, nI (i + 1)), ?_, by have := nd_half h1 (by omega); rwa [show q - (i : Int) - 1 = q - ((i + 1 : Nat) : Int) by omega] at this, rfl⟩
    unfold fx_X0_ofDouble_l24
    dsimp only
    rw [h2, if_neg (by rcases nd_ge h1 nd_two (by omega) with e | e <;> rw [e] <;> first | rw [cv_eq]; decide | rw [cv_gt]; decide), if_neg (Lnle 1023 (by omega) (by omega) (by omega)), g64_ok (nd_nan (nd_half h1 (by omega))), lt_eq, lt_eq]
    rw [show nI i + 1 = nI (i + 1) from nI_add i 1]
  · rintro ⟨s, p⟩ ⟨h1, h2⟩
    refine ⟨(s, p), ?_, h1, h2⟩
    unfold fx_X0_ofDouble_l24
    dsimp only at h1 ⊢
    rw [if_pos (by rw [nd_lt h1 nd_two (by omega), cv_lt]; decide)]
theorem nd_loop2 (u : llMem) (v a : UInt64) {c n : Nat} {q : Int} {p : Int32} (h : Nd a c q) (hq : q ≤ -52) (hp : p.toInt = n) (hn : n = 0 ∨ q = -52) (hn2 : n ≤ 1023) : ∃ e, loop (fx_X0_ofDouble_l52 u v) llFuel (a, p) = some e ∧ (Nd e.1 c (-52) ∧ e.2.toInt = (n : Int) + q + 52) := by
  have hb := h.2.2.2.1
  refine loop_inv (fun (i : Nat) (s : UInt64 × Int32) => Nd s.1 c (q + i) ∧ s.2.toInt = (n : Int) - i) (fun (e : UInt64 × Int32) => Nd e.1 c (-52) ∧ e.2.toInt = (n : Int) + q + 52) (-52 - q).toNat llFuel (a, p) ⟨by rw [show q + ((0 : Nat) : Int) = q by omega]; exact h, by show p.toInt = _; omega⟩ ?_ ?_ (by unfold llFuel; omega)
  · rintro i ⟨s, p⟩ hi ⟨h1, h2⟩
    dsimp only at h1 h2
    refine ⟨(FP.dmul s 4611686018427387904, p + -1), ?_, by have := nd_double h1 (by omega); rwa [show q + (i : Int) + 1 = q + ((i + 1 : Nat) : Int) by omega] at this, ?_⟩
    · unfold fx_X0_ofDouble_l52
      dsimp only
      rw [if_neg (by rw [nd_lt h1 nd_one (by omega), cv_lt]; decide), if_neg (fun z => by have := Int32.le_iff_toInt_le.mp z; rw [show (-1022 : Int32).toInt = -1022 from rfl] at this; omega), g64_ok (nd_nan (nd_double h1 (by omega))), lt_eq, lt_eq]
    · show (p + -1).toInt = _
      rw [Int32.toInt_add, show (-1 : Int32).toInt = -1 from rfl, h2]
      rw [Int.bmod_eq_of_le_mul_two (by omega) (by omega)]
      omega
  · rintro ⟨s, p⟩ ⟨h1, h2⟩
    dsimp only at h1 h2
    refine ⟨(s, p), ?_, by show Nd s c (-52); rwa [show q + ((-52 - q).toNat : Int) = -52 by omega] at h1, by show p.toInt = _; omega⟩
    unfold fx_X0_ofDouble_l52
    dsimp only
    rw [if_pos (by rcases nd_ge h1 nd_one (by omega) with e | e <;> rw [e] <;> first | rw [cv_eq]; decide | rw [cv_gt]; decide)]
theorem nd_sub {a : UInt64} {c : Nat} (h : Nd a c (-52)) : Jvm.FP.Core.val64 (FP.dsub a FP.dconst1) = Jvm.FP.Core.round Jvm.FP.Core.b64 (.fin false (c - 2 ^ 52) (-52)) := by
  have e : Jvm.FP.Core.val64 (FP.dsub a FP.dconst1) = Jvm.FP.Core.round Jvm.FP.Core.b64 (Jvm.FP.Core.exactSum (Jvm.FP.Core.val64 a) (Jvm.FP.Core.negate (Jvm.FP.Core.val64 FP.dconst1))) := Jvm.FP.Core.val64_dsub _ _
  rw [e, h.1, nd_one.1]
  have h2 := h.2.1
  have e2 : Jvm.FP.Core.sumUnits false c (-52) true (2 ^ 52) (-52) (min (-52) (-52)) = ((c - 2 ^ 52 : Nat) : Int) := by
    show ((c * 2 ^ 0 : Nat) : Int) + -((2 ^ 52 * 2 ^ 0 : Nat) : Int) = _
    rw [Nat.pow_zero, Nat.mul_one, Nat.mul_one]
    omega
  show Jvm.FP.Core.round Jvm.FP.Core.b64 (.fin (Jvm.FP.Core.sumSign false true (Jvm.FP.Core.sumUnits false c (-52) true (2 ^ 52) (-52) (min (-52) (-52)))) (Jvm.FP.Core.sumUnits false c (-52) true (2 ^ 52) (-52) (min (-52) (-52))).natAbs (min (-52) (-52))) = _
  rw [e2, Int.natAbs_natCast]
  have e3 : Jvm.FP.Core.sumSign false true ((c - 2 ^ 52 : Nat) : Int) = false := by
    unfold Jvm.FP.Core.sumSign
    split
    · rfl
    · exact decide_eq_false (by omega)
  rw [e3]
  rfl
theorem nd_pow {c k X Y Z W : Nat} (h : c * 2 ^ X = k * 2 ^ W) (e : 52 + Z + W = X + Y) : c * 2 ^ 52 * 2 ^ Z = k * 2 ^ Y := by
  refine Nat.eq_of_mul_eq_mul_right (Nat.two_pow_pos W) ?_
  calc c * 2 ^ 52 * 2 ^ Z * 2 ^ W = c * 2 ^ (52 + Z + W) := by rw [Nat.pow_add, Nat.pow_add, Nat.mul_assoc, Nat.mul_assoc, Nat.mul_assoc]
    _ = c * 2 ^ X * 2 ^ Y := by rw [e, Nat.pow_add, Nat.mul_assoc]
    _ = k * 2 ^ Y * 2 ^ W := by rw [h]; ac_rfl
theorem nd_p53 {k : Nat} (h : k ≤ 9007199254740992) : ((k : Nat) : Int).natAbs ≤ 2 ^ Jvm.FP.Core.b64.p := by
  rw [Int.natAbs_natCast, show Jvm.FP.Core.b64.p = 53 from rfl]
  exact h
theorem nd_rx {c k : Nat} {q : Int} (r2 : Jvm.FP.Core.inUnits c q Jvm.FP.Core.b64.qmin = Jvm.FP.Core.inUnits k (-52) Jvm.FP.Core.b64.qmin) : ∃ W : Nat, W = 1022 ∧ c * 2 ^ (q - -1074).toNat = k * 2 ^ W := by
  unfold Jvm.FP.Core.inUnits at r2
  rw [Jvm.FP.Core.qmin_b64] at r2
  exact ⟨((-52 : Int) - -1074).toNat, by decide, r2⟩
theorem nd_wh {k : Nat} (h : k ≤ 9007199254740992) : Jvm.FP.Core.Whole ((k : Nat) : Int) (Jvm.FP.Core.round Jvm.FP.Core.b64 (Jvm.FP.Core.ofInt ((k : Nat) : Int))) := Jvm.FP.Core.whole_round Jvm.FP.Core.good_b64 Jvm.FP.Core.wide_b64 (nd_p53 h) (Jvm.FP.Core.whole_ofInt _)
theorem nd_mn {k : Nat} (h : k < 9007199254740992) {b : UInt64} (hm : Jvm.FP.Core.val64 b = Jvm.FP.Core.round Jvm.FP.Core.b64 (Jvm.FP.Core.ofInt ((k : Nat) : Int))) : Jvm.FP.Core.val64 b ≠ .nan ∧ FP.d2l b = lN k := by
  refine ⟨by rw [hm]; exact (nd_wh (by omega)).ne_nan, ?_⟩
  refine Jvm.FP.Core.d2l_int (a := lN k) ?_
  rw [pf_lI (by omega)]
  unfold Jvm.FP.Core.DInt
  rw [hm]
  exact nd_wh (by omega)
theorem nd_frac {a : UInt64} {c : Nat} (h : Nd a c (-52)) : Jvm.FP.Core.val64 (FP.dsub a FP.dconst1) ≠ .nan ∧ Jvm.FP.Core.val64 (FP.dmul (FP.dsub a FP.dconst1) 4841369599423283200) ≠ .nan ∧ FP.d2l (FP.dmul (FP.dsub a FP.dconst1) 4841369599423283200) = lN (c - 2 ^ 52) := by
  have h2 := h.2.1
  have h3 := h.2.2.1
  have hs := nd_sub h
  obtain ⟨c', q', r1, r2⟩ := Jvm.FP.Core.round_exact Jvm.FP.Core.good_b64 false (c := c - 2 ^ 52) (q := -52) (show c - 2 ^ 52 < 2 ^ 53 by omega) (by rw [Jvm.FP.Core.qmin_b64]; decide) (by decide)
  rw [r1] at hs
  have hf := Jvm.FP.Core.val64_fits (FP.dsub a FP.dconst1)
  rw [hs] at hf
  have hq : -1074 ≤ q' := by have := hf.2.1; rwa [Jvm.FP.Core.qmin_b64] at this
  obtain ⟨W, hW, r2⟩ := nd_rx r2
  have hm : Jvm.FP.Core.val64 (FP.dmul (FP.dsub a FP.dconst1) 4841369599423283200) = Jvm.FP.Core.round Jvm.FP.Core.b64 (Jvm.FP.Core.ofInt ((c - 2 ^ 52 : Nat) : Int)) := by
    have e : Jvm.FP.Core.val64 (FP.dmul (FP.dsub a FP.dconst1) 4841369599423283200) = Jvm.FP.Core.round Jvm.FP.Core.b64 (Jvm.FP.Core.exactProduct (Jvm.FP.Core.val64 (FP.dsub a FP.dconst1)) (Jvm.FP.Core.val64 4841369599423283200)) := Jvm.FP.Core.val64_dmul _ _
    rw [e, hs, nd_52]
    show Jvm.FP.Core.roundRatio Jvm.FP.Core.b64 false (c' * 2 ^ 52) 1 (q' + 0) = Jvm.FP.Core.roundRatio Jvm.FP.Core.b64 (decide (((c - 2 ^ 52 : Nat) : Int) < 0)) ((c - 2 ^ 52 : Nat) : Int).natAbs 1 0
    rw [decide_eq_false (by omega), Int.natAbs_natCast]
    refine Jvm.FP.Core.roundRatio_congr (by decide) (by decide) ?_
    rw [Nat.mul_one, Nat.mul_one, show (q' + 0 - 0).toNat = q'.toNat by omega, show (0 - (q' + 0)).toNat = (-q').toNat by omega]
    exact nd_pow (W := W) r2 (by omega)
  have hz : Jvm.FP.Core.val64 (FP.dsub a FP.dconst1) ≠ .nan := by rw [hs]; exact (fun z => by cases z)
  have hk : c - 2 ^ 52 < 9007199254740992 := by omega
  generalize c - 2 ^ 52 = k at hm hk
  refine ⟨hz, nd_mn hk hm⟩
/-- the bits that a number has -/
theorem nd_bits {a : UInt64} {c : Nat} {q : Int} (h : Nd a c q) : a.toNat = (q + 1075).toNat * 2 ^ 52 + (c - 2 ^ 52) := by
  obtain ⟨h1, h2, h3, h4, h5⟩ := h
  have e := Jvm.FP.Core.of64_val64 (a := a) (by rw [h1]; exact fun z => by cases z)
  rw [h1] at e
  rw [← e, Jvm.FP.Core.toNat_of64 (nd_fits h2 h3 h4 h5)]
  show (if c < Jvm.FP.Core.b64.tails then _ else ((false.toNat * Jvm.FP.Core.b64.exps + ((q - Jvm.FP.Core.b64.qmin).toNat + 1)) * Jvm.FP.Core.b64.tails + (c - Jvm.FP.Core.b64.tails))) = _
  rw [Jvm.FP.Core.tails_b64, if_neg (by omega), Jvm.FP.Core.qmin_b64, Bool.toNat_false, Nat.zero_mul, Nat.zero_add, show (q - -1074).toNat + 1 = (q + 1075).toNat by omega]
theorem nI_of_toInt {i : Int32} {n : Nat} (h : i.toInt = n) : i = nI n := by
  have := Int32.toInt_lt i
  rw [toInt32_of (i := i) (by omega), h]; rfl
theorem nd_of (u : llMem) (v a : UInt64) {c : Nat} {q : Int} (h : Nd a c q) (h2 : -1022 ≤ q + 52) : fx_X0_ofDouble_j20 u v a = if 0 ≤ Op.cmpValue (FP.dcmp v FP.dconst0) CmpOp.g then some (lN a.toNat) else some (lN a.toNat ||| -9223372036854775808) := by
  have hb := h.2.2.2.2
  have hc := h.2.1
  have hc2 := h.2.2.1
  obtain ⟨e, l1, l2, l3⟩ := nd_loop1 u v a h
  obtain ⟨e', k1, k2, k3⟩ := nd_loop2 u v e.1 (p := e.2) (n := (q + 52).toNat) l2 (by omega) (by rw [l3, nI_toInt (by omega)]) (by omega) (by omega)
  unfold fx_X0_ofDouble_j20
  rw [l1, Option.bind_some, k1, Option.bind_some]
  obtain ⟨f1, f2, f3⟩ := nd_frac k2
  rw [g64_ok f1, g64_ok f2, f3]
  have pw : e'.2 + 1023 = nI (q + 1075).toNat := by
    apply nI_of_toInt
    rw [Int32.toInt_add, k3, show (1023 : Int32).toInt = 1023 from rfl, Int.bmod_eq_of_le_mul_two (by omega) (by omega)]
    omega
  have bt : (Int32.toInt64 (nI (q + 1075).toNat) <<< (Int32.toInt64 52 &&& 63)) ||| lN (c - 2 ^ 52) = lN a.toNat := by
    have t1 : Int32.toInt64 (nI (q + 1075).toNat) = lN (q + 1075).toNat := by
      apply Int64.toInt_inj.mp
      rw [Int32.toInt_toInt64, nI_toInt (by omega), pf_lI (by omega)]
    rw [t1, show (52 : Int32) = nI 52 from rfl, wb_shl _ (by decide), g_or (k := 52) rfl (by omega) (by omega), nd_bits h]
  rw [pw, lt_eq, bt]
