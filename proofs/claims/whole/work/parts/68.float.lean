/-! averages as floats: their value, their order -/
def avF (p q : Int32) : UInt32 := FP.fdiv (FP.i2f p) (FP.i2f q)
theorem av_pow {c n q d : Nat} {r r' : Int} (h1 : c * 2 ^ r.toNat = n * 2 ^ (-r).toNat) (h2 : d * 2 ^ r'.toNat = q * 2 ^ (-r').toNat) : c * q * 2 ^ (r - r' - 0).toNat = n * d * 2 ^ (0 - (r - r')).toNat := by
  have e : (r - r' - 0).toNat + ((-r).toNat + r'.toNat) = (0 - (r - r')).toNat + (r.toNat + (-r').toNat) := by omega
  have k : c * q * 2 ^ (r - r' - 0).toNat * 2 ^ ((-r).toNat + r'.toNat) = n * d * 2 ^ (0 - (r - r')).toNat * 2 ^ ((-r).toNat + r'.toNat) := by
    rw [Nat.mul_assoc (c * q), ← Nat.pow_add, e, Nat.pow_add, Nat.pow_add, Nat.pow_add]
    calc c * q * (2 ^ (0 - (r - r')).toNat * (2 ^ r.toNat * 2 ^ (-r').toNat)) = (c * 2 ^ r.toNat) * (q * 2 ^ (-r').toNat) * 2 ^ (0 - (r - r')).toNat := by ac_rfl
      _ = _ := by rw [h1, ← h2]; ac_rfl
  exact Nat.eq_of_mul_eq_mul_right (Nat.two_pow_pos _) k
theorem av_i2f {p : Int32} (hp : p.toInt.natAbs ≤ 2 ^ 24) : ∃ c r, Jvm.FP.Core.val32 (FP.i2f p) = .fin (decide (p.toInt < 0)) c r ∧ c * 2 ^ r.toNat = p.toInt.natAbs * 2 ^ (-r).toNat := by
  have h := Jvm.FP.Core.whole_round Jvm.FP.Core.good_b32 Jvm.FP.Core.wide_b32 (i := p.toInt) hp (Jvm.FP.Core.whole_ofInt p.toInt)
  have e : Jvm.FP.Core.val32 (FP.i2f p) = Jvm.FP.Core.round Jvm.FP.Core.b32 (Jvm.FP.Core.ofInt p.toInt) := Jvm.FP.Core.val32_i2f p
  have e2 : Jvm.FP.Core.round Jvm.FP.Core.b32 (Jvm.FP.Core.ofInt p.toInt) = Jvm.FP.Core.roundRatio Jvm.FP.Core.b32 (decide (p.toInt < 0)) p.toInt.natAbs 1 0 := rfl
  have sg := Jvm.FP.Core.sgn_roundRatio Jvm.FP.Core.b32 (decide (p.toInt < 0)) p.toInt.natAbs 1 0
  rw [← e2] at sg
  rw [e]
  generalize Jvm.FP.Core.round Jvm.FP.Core.b32 (Jvm.FP.Core.ofInt p.toInt) = D at h sg
  cases D with
  | nan => exact h.elim
  | inf s => exact h.elim
  | fin s c r =>
    have sg' : s = decide (p.toInt < 0) := sg
    exact ⟨c, r, by rw [sg'], Jvm.FP.Core.whole_natAbs h⟩
theorem av_val {p : Int32} {q : Nat} (hp : -999 ≤ p.toInt ∧ p.toInt ≤ 40) (hq : 1 ≤ q ∧ q ≤ 10) : Jvm.FP.Core.val32 (avF p (nI q)) = Jvm.FP.Core.roundRatio Jvm.FP.Core.b32 (decide (p.toInt < 0)) p.toInt.natAbs q 0 := by
  obtain ⟨c, r, h1, h2⟩ := av_i2f (p := p) (by omega)
  obtain ⟨d, r', h3, h4⟩ := av_i2f (p := nI q) (by rw [nI_toInt (by omega)]; omega)
  rw [nI_toInt (by omega)] at h3 h4
  rw [Int.natAbs_natCast] at h4
  have hd : d ≠ 0 := by
    intro z
    rw [z, Nat.zero_mul] at h4
    have := Nat.mul_pos (show 0 < q by omega) (Nat.two_pow_pos (-r').toNat)
    omega
  have h5 : Jvm.FP.Core.val32 (avF p (nI q)) = Jvm.FP.Core.quotient Jvm.FP.Core.b32 (Jvm.FP.Core.val32 (FP.i2f p)) (Jvm.FP.Core.val32 (FP.i2f (nI q))) := Jvm.FP.Core.val32_fdiv _ _
  rw [h5, h1, h3, decide_eq_false (show ¬ (q : Int) < 0 by omega)]
  show (if d = 0 then _ else Jvm.FP.Core.roundRatio Jvm.FP.Core.b32 (decide (p.toInt < 0) != false) c d (r - r')) = _
  rw [if_neg hd, Bool.bne_false]
  exact Jvm.FP.Core.roundRatio_congr (by omega) (by omega) (av_pow h2 h4)
theorem av_nan {p : Int32} {q : Nat} (hp : -999 ≤ p.toInt ∧ p.toInt ≤ 40) (hq : 1 ≤ q ∧ q ≤ 10) : Jvm.FP.Core.val32 (avF p (nI q)) ≠ .nan := by
  rw [av_val hp hq]; exact Jvm.FP.Core.roundRatio_ne_nan _ _ _ _ _
theorem avF_g {ρ : Type} {p : Int32} {q : Nat} (hp : -999 ≤ p.toInt ∧ p.toInt ≤ 40) (hq : 1 ≤ q ∧ q ≤ 10) (y : Option ρ) : g32 (avF p (nI q)) y = y := by
  have h := (Jvm.FP.Core.ne_nan32 _).mp (av_nan hp hq)
  unfold g32
  rw [if_pos]
  rw [UInt32.le_iff_toNat_le, Jvm.FP.Core.mask_toNat32]
  exact h
/-- the magnitude of a rounded ratio -/
def Zq (n q : Nat) : Nat := Jvm.FP.Core.zmag Jvm.FP.Core.b32 (Jvm.FP.Core.roundRatio Jvm.FP.Core.b32 false n q 0)
theorem Zq_s (s : Bool) (n q : Nat) : Jvm.FP.Core.zmag Jvm.FP.Core.b32 (Jvm.FP.Core.roundRatio Jvm.FP.Core.b32 s n q 0) = Zq n q := by
  cases s
  · rfl
  · have e := Jvm.FP.Core.negate_roundRatio Jvm.FP.Core.b32 false n q 0
    rw [Bool.not_false] at e
    rw [← e]
    unfold Zq
    cases Jvm.FP.Core.roundRatio Jvm.FP.Core.b32 false n q 0 <;> rfl
theorem Zq_0 (q : Nat) : Zq 0 q = 0 := by
  unfold Zq Jvm.FP.Core.roundRatio
  rw [if_pos rfl]
  exact Nat.zero_mul _
theorem Zq_eq {n q n' q' : Nat} (hq : 1 ≤ q) (hq' : 1 ≤ q') (h : n * q' = n' * q) : Zq n q = Zq n' q' := by
  unfold Zq
  rw [Jvm.FP.Core.roundRatio_congr (A' := n') (B' := q') (e' := 0) hq hq' (by simpa using h)]
theorem av_VT {T : Nat} (h1 : 1 ≤ T) (h2 : T < 2 ^ 18) : ∃ V, Jvm.FP.Core.fits Jvm.FP.Core.b32 V ∧ V ≠ .nan ∧ Jvm.FP.Core.zmag Jvm.FP.Core.b32 V = T * 2 ^ 141 := by
  have l1 := Nat.log2_self_le (show T ≠ 0 by omega)
  have l2 : T < 2 ^ (T.log2 + 1) := Nat.lt_log2_self
  have l3 : T.log2 < 18 := (Nat.pow_lt_pow_iff_right (by decide : 1 < 2)).mp (Nat.lt_of_le_of_lt l1 h2)
  generalize T.log2 = k at l1 l2 l3
  have qx : Jvm.FP.Core.b32.qmax = 104 := by decide
  refine ⟨.fin false (T * 2 ^ (23 - k)) ((k : Int) - 31), ⟨?_, ?_, ?_, Or.inr ?_⟩, (fun z => by cases z), ?_⟩
  · show T * 2 ^ (23 - k) < 2 ^ 24
    have e : 2 ^ 24 = 2 ^ (k + 1) * 2 ^ (23 - k) := by rw [← Nat.pow_add]; congr 1; omega
    rw [e]
    exact Nat.mul_lt_mul_of_pos_right l2 (Nat.two_pow_pos _)
  · rw [Jvm.FP.Core.qmin_b32]; omega
  · rw [qx]; omega
  · rw [Jvm.FP.Core.tails_b32]
    have e : 2 ^ 23 = 2 ^ k * 2 ^ (23 - k) := by rw [← Nat.pow_add]; congr 1; omega
    rw [e]
    exact Nat.mul_le_mul_right _ l1
  · show T * 2 ^ (23 - k) * 2 ^ ((k : Int) - 31 - Jvm.FP.Core.b32.qmin).toNat = _
    rw [Jvm.FP.Core.qmin_b32, Nat.mul_assoc, ← Nat.pow_add]
    congr 2
    omega
theorem Zq_lt {n q n' q' : Nat} (hq : 1 ≤ q ∧ q ≤ 10) (hq' : 1 ≤ q' ∧ q' ≤ 10) (hn : n' ≤ 999) (h : n * q' < n' * q) : Zq n q < Zq n' q' := by
  have d1 := Nat.div_add_mod (256 * n) q
  have d2 := Nat.mod_lt (256 * n) (show 0 < q by omega)
  generalize 256 * n / q = t at d1
  have a1 : n * 256 ≤ (t + 1) * q := by rw [Nat.add_mul, Nat.mul_comm t q]; omega
  have a2 : (t + 2) * q' ≤ 256 * n' := by
    refine Nat.le_of_mul_le_mul_right (c := q) ?_ (by omega)
    have b1 : q' * q ≤ 10 * 10 := Nat.mul_le_mul hq'.2 hq.2
    have b2 : (t + 2) * q' * q = q * t * q' + 2 * (q' * q) := by rw [Nat.add_mul, Nat.add_mul]; congr 1 <;> ac_rfl
    have b3 : q * t * q' ≤ 256 * n * q' := Nat.mul_le_mul_right _ (by omega)
    have b4 : 256 * n * q' = 256 * (n * q') := by ac_rfl
    have b5 : 256 * n' * q = 256 * (n' * q) := by ac_rfl
    omega
  have a3 : t + 2 < 2 ^ 18 := by
    have : (t + 2) * 1 ≤ (t + 2) * q' := Nat.mul_le_mul_left _ hq'.1
    omega
  obtain ⟨V, v1, v2, v3⟩ := av_VT (T := t + 1) (by omega) (by omega)
  obtain ⟨W, w1, w2, w3⟩ := av_VT (T := t + 2) (by omega) (by omega)
  have c1 : Zq n q ≤ (t + 1) * 2 ^ 141 := by
    rw [← v3]
    refine Jvm.FP.Core.zmag_roundRatio_le Jvm.FP.Core.good_b32 (e0 := Jvm.FP.Core.b32.qmin) (by omega) v1 v2 (Int.le_refl _) (by rw [Jvm.FP.Core.qmin_b32]; decide) ?_
    rw [v3, Jvm.FP.Core.qmin_b32]
    show n * 2 ^ 149 ≤ (t + 1) * 2 ^ 141 * 1 * q
    have e : n * 2 ^ 149 = n * 256 * 2 ^ 141 := by rw [Nat.mul_assoc]
    have e2 : (t + 1) * 2 ^ 141 * 1 * q = (t + 1) * q * 2 ^ 141 := by rw [Nat.mul_one]; ac_rfl
    rw [e, e2]
    exact Nat.mul_le_mul_right _ a1
  have c2 : (t + 2) * 2 ^ 141 ≤ Zq n' q' := by
    rw [← w3]
    refine Jvm.FP.Core.zmag_roundRatio_ge Jvm.FP.Core.good_b32 (e0 := Jvm.FP.Core.b32.qmin) (by omega) w1 (Int.le_refl _) (by rw [Jvm.FP.Core.qmin_b32]; decide) ?_
    rw [w3, Jvm.FP.Core.qmin_b32]
    show (t + 2) * 2 ^ 141 * 1 * q' ≤ n' * 2 ^ 149
    have e : n' * 2 ^ 149 = n' * 256 * 2 ^ 141 := by rw [Nat.mul_assoc]
    have e2 : (t + 2) * 2 ^ 141 * 1 * q' = (t + 2) * q' * 2 ^ 141 := by rw [Nat.mul_one]; ac_rfl
    rw [e, e2]
    exact Nat.mul_le_mul_right _ (by omega)
  omega
theorem avF_cmp {p p' : Int32} {q q' : Nat} (hp : -999 ≤ p.toInt ∧ p.toInt ≤ 40) (hq : 1 ≤ q ∧ q ≤ 10) (hp' : -999 ≤ p'.toInt ∧ p'.toInt ≤ 40) (hq' : 1 ≤ q' ∧ q' ≤ 10) : FP.fcmp (avF p (nI q)) (avF p' (nI q')) = some (compare (p.toInt * q') (p'.toInt * q)) := by
  have e : FP.fcmp (avF p (nI q)) (avF p' (nI q')) = some (compare (Jvm.FP.Core.zval Jvm.FP.Core.b32 (Jvm.FP.Core.val32 (avF p (nI q)))) (Jvm.FP.Core.zval Jvm.FP.Core.b32 (Jvm.FP.Core.val32 (avF p' (nI q'))))) := Jvm.FP.Core.fcmp_zval (av_nan hp hq) (av_nan hp' hq')
  rw [e, av_val hp hq, av_val hp' hq']
  unfold Jvm.FP.Core.zval
  rw [Jvm.FP.Core.sgn_roundRatio, Jvm.FP.Core.sgn_roundRatio, Zq_s, Zq_s]
  have n1 : p.toInt.natAbs ≤ 999 := by omega
  have n2 : p'.toInt.natAbs ≤ 999 := by omega
  have z1 : 0 < p.toInt.natAbs → 0 < Zq p.toInt.natAbs q ∧ 0 < p.toInt.natAbs * q' := fun g => ⟨by have := Zq_lt (n := 0) (q := 1) (n' := p.toInt.natAbs) (q' := q) (by omega) hq n1 (by omega); rwa [Zq_0] at this, Nat.mul_pos g (by omega)⟩
  have z2 : 0 < p'.toInt.natAbs → 0 < Zq p'.toInt.natAbs q' ∧ 0 < p'.toInt.natAbs * q := fun g => ⟨by have := Zq_lt (n := 0) (q := 1) (n' := p'.toInt.natAbs) (q' := q') (by omega) hq' n2 (by omega); rwa [Zq_0] at this, Nat.mul_pos g (by omega)⟩
  have tri : (p.toInt.natAbs * q' < p'.toInt.natAbs * q ∧ Zq p.toInt.natAbs q < Zq p'.toInt.natAbs q') ∨ (p.toInt.natAbs * q' = p'.toInt.natAbs * q ∧ Zq p.toInt.natAbs q = Zq p'.toInt.natAbs q') ∨ (p'.toInt.natAbs * q < p.toInt.natAbs * q' ∧ Zq p'.toInt.natAbs q' < Zq p.toInt.natAbs q) := by
    rcases Nat.lt_trichotomy (p.toInt.natAbs * q') (p'.toInt.natAbs * q) with g | g | g
    · exact Or.inl ⟨g, Zq_lt hq hq' n2 g⟩
    · exact Or.inr (Or.inl ⟨g, Zq_eq hq.1 hq'.1 g⟩)
    · exact Or.inr (Or.inr ⟨g, Zq_lt hq' hq n1 g⟩)
  have k1 : p.toInt * (q' : Int) = Jvm.FP.Core.signed (decide (p.toInt < 0)) (p.toInt.natAbs * q') := by
    unfold Jvm.FP.Core.signed
    by_cases g : p.toInt < 0
    · rw [if_pos (decide_eq_true g), Int.natCast_mul, ← Int.neg_mul, show -(p.toInt.natAbs : Int) = p.toInt by omega]
    · rw [decide_eq_false g, if_neg Bool.false_ne_true, Int.natCast_mul, show (p.toInt.natAbs : Int) = p.toInt by omega]
  have k2 : p'.toInt * (q : Int) = Jvm.FP.Core.signed (decide (p'.toInt < 0)) (p'.toInt.natAbs * q) := by
    unfold Jvm.FP.Core.signed
    by_cases g : p'.toInt < 0
    · rw [if_pos (decide_eq_true g), Int.natCast_mul, ← Int.neg_mul, show -(p'.toInt.natAbs : Int) = p'.toInt by omega]
    · rw [decide_eq_false g, if_neg Bool.false_ne_true, Int.natCast_mul, show (p'.toInt.natAbs : Int) = p'.toInt by omega]
  rw [k1, k2]
  have z3 : p.toInt < 0 → 0 < p.toInt.natAbs := by omega
  have z4 : p'.toInt < 0 → 0 < p'.toInt.natAbs := by omega
  generalize p.toInt.natAbs * q' = X at *
  generalize p'.toInt.natAbs * q = Y at *
  generalize Zq p.toInt.natAbs q = Z at *
  generalize Zq p'.toInt.natAbs q' = Z' at *
  congr 1
  unfold Jvm.FP.Core.signed
  by_cases g : p.toInt < 0 <;> by_cases g' : p'.toInt < 0
  · have y1 := z1 (z3 g); have y2 := z2 (z4 g')
    rw [decide_eq_true g, decide_eq_true g', if_pos rfl, if_pos rfl, if_pos rfl, if_pos rfl]
    exact Jvm.FP.Core.compare_congr (by omega) (by omega)
  · have y1 := z1 (z3 g)
    rw [decide_eq_true g, decide_eq_false g', if_pos rfl, if_neg Bool.false_ne_true, if_pos rfl, if_neg Bool.false_ne_true]
    exact Jvm.FP.Core.compare_congr (by omega) (by omega)
  · have y2 := z2 (z4 g')
    rw [decide_eq_false g, decide_eq_true g', if_pos rfl, if_neg Bool.false_ne_true, if_pos rfl, if_neg Bool.false_ne_true]
    exact Jvm.FP.Core.compare_congr (by omega) (by omega)
  · rw [decide_eq_false g, decide_eq_false g', if_neg Bool.false_ne_true, if_neg Bool.false_ne_true, if_neg Bool.false_ne_true, if_neg Bool.false_ne_true]
    exact Jvm.FP.Core.compare_congr (by omega) (by omega)
theorem avF_0 : avF 0 (nI 1) = FP.fconst0 := by decide +kernel
