/-! rest -/
def rvD (a b : Int32) : UInt64 := FP.ddiv (FP.i2d a) (FP.i2d b)
theorem rv_i2d {n : Nat} (hn : n < 2 ^ 31) : ∃ c r, Jvm.FP.Core.val64 (FP.i2d (nI n)) = .fin false c r ∧ c * 2 ^ r.toNat = n * 2 ^ (-r).toNat := by
  have h := nd_wh (k := n) (by omega)
  have e : Jvm.FP.Core.val64 (FP.i2d (nI n)) = Jvm.FP.Core.round Jvm.FP.Core.b64 (Jvm.FP.Core.ofInt (nI n).toInt) := Jvm.FP.Core.val64_i2d (nI n)
  rw [nI_toInt hn] at e
  have e2 : Jvm.FP.Core.round Jvm.FP.Core.b64 (Jvm.FP.Core.ofInt ((n : Nat) : Int)) = Jvm.FP.Core.roundRatio Jvm.FP.Core.b64 (decide (((n : Nat) : Int) < 0)) ((n : Nat) : Int).natAbs 1 0 := rfl
  have sg := Jvm.FP.Core.sgn_roundRatio Jvm.FP.Core.b64 (decide (((n : Nat) : Int) < 0)) ((n : Nat) : Int).natAbs 1 0
  rw [← e2] at sg
  rw [e]
  generalize Jvm.FP.Core.round Jvm.FP.Core.b64 (Jvm.FP.Core.ofInt ((n : Nat) : Int)) = D at h sg
  cases D with
  | nan => exact h.elim
  | inf s => exact h.elim
  | fin s c r =>
    have sg' : s = decide (((n : Nat) : Int) < 0) := sg
    rw [decide_eq_false (by omega)] at sg'
    have := Jvm.FP.Core.whole_natAbs h
    rw [Int.natAbs_natCast] at this
    exact ⟨c, r, by rw [sg'], this⟩
theorem rv_val {a b : Nat} (ha : a < 2 ^ 31) (h1 : 1 ≤ b) (hb : b < 2 ^ 31) : Jvm.FP.Core.val64 (rvD (nI a) (nI b)) = Jvm.FP.Core.roundRatio Jvm.FP.Core.b64 false a b 0 := by
  obtain ⟨c, r, g1, g2⟩ := rv_i2d ha
  obtain ⟨d, r', g3, g4⟩ := rv_i2d hb
  have hd : d ≠ 0 := by
    intro z
    rw [z, Nat.zero_mul] at g4
    have := Nat.mul_pos (show 0 < b by omega) (Nat.two_pow_pos (-r').toNat)
    omega
  have h5 : Jvm.FP.Core.val64 (rvD (nI a) (nI b)) = Jvm.FP.Core.quotient Jvm.FP.Core.b64 (Jvm.FP.Core.val64 (FP.i2d (nI a))) (Jvm.FP.Core.val64 (FP.i2d (nI b))) := Jvm.FP.Core.val64_ddiv _ _
  rw [h5, g1, g3]
  show (if d = 0 then _ else Jvm.FP.Core.roundRatio Jvm.FP.Core.b64 false c d (r - r')) = _
  rw [if_neg hd]
  exact Jvm.FP.Core.roundRatio_congr (by omega) (by omega) (av_pow g2 g4)
theorem rv_zi {n O : Nat} (hO : O = 2 ^ 1074) (hn : n < 2 ^ 31) : Jvm.FP.Core.zmag Jvm.FP.Core.b64 (Jvm.FP.Core.val64 (FP.i2d (nI n))) = n * O := by
  obtain ⟨c, r, g1, g2⟩ := rv_i2d hn
  have hf := Jvm.FP.Core.val64_fits (FP.i2d (nI n))
  rw [g1] at hf ⊢
  have hq : -1074 ≤ r := by have := hf.2.1; rwa [Jvm.FP.Core.qmin_b64] at this
  exact (iu64 c r).trans (wh_units hO hq g2)
theorem pw_big {x : Nat} (h : x < 52) : 2 ^ 53 * 2 ^ x ≤ 2 ^ 52 * 2 ^ ((-62 : Int) + 1074).toNat := by
  rw [← Nat.pow_add, ← Nat.pow_add]
  refine Nat.pow_le_pow_right (by decide) ?_
  rw [show ((-62 : Int) + 1074).toNat = 1012 from rfl]
  omega
theorem rv_ok (u : llMem) {a b : Nat} (ha : a < 2 ^ 31) (h1 : 1 ≤ b) (hb : b ≤ 1024) : Jvm.FP.Core.val64 (rvD (nI a) (nI b)) ≠ .nan ∧ fx_X0_ofDouble u (FP.dsub (rvD (nI a) (nI b)) (FP.l2d (FP.d2l (rvD (nI a) (nI b))))) = some (UInt64.toInt64 (FP.drem (rvD (nI a) (nI b)) FP.dconst1)) ∧ Jvm.FP.Core.val64 (FP.dsub (rvD (nI a) (nI b)) (FP.l2d (FP.d2l (rvD (nI a) (nI b))))) ≠ .nan ∧ Jvm.FP.Core.val64 (FP.drem (rvD (nI a) (nI b)) FP.dconst1) ≠ .nan := by
  obtain ⟨O, hO⟩ : ∃ O : Nat, O = 2 ^ 1074 := ⟨_, rfl⟩
  have hv := rv_val (a := a) (b := b) ha h1 (by omega)
  have z0 : Jvm.FP.Core.inUnits a 0 Jvm.FP.Core.b64.qmin = a * O := by
    rw [iu64, hO]; rfl
  have up : Jvm.FP.Core.zmag Jvm.FP.Core.b64 (Jvm.FP.Core.roundRatio Jvm.FP.Core.b64 false a b 0) ≤ a * O := by
    rw [← rv_zi hO ha]
    refine Jvm.FP.Core.zmag_roundRatio_le Jvm.FP.Core.good_b64 (e0 := Jvm.FP.Core.b64.qmin) (by omega) (Jvm.FP.Core.val64_fits _) ?_ (Int.le_refl _) (by rw [Jvm.FP.Core.qmin_b64]; decide) ?_
    · obtain ⟨c, r, g1, g2⟩ := rv_i2d ha
      rw [g1]; exact (fun z => by cases z)
    · rw [z0, rv_zi hO ha, Int.sub_self]
      show a * O ≤ a * O * 1 * b
      rw [Nat.mul_one]
      exact Nat.le_mul_of_pos_right _ h1
  have hOp : 0 < O := by rw [hO]; exact Nat.two_pow_pos _
  rcases Jvm.FP.Core.roundRatio_cases Jvm.FP.Core.b64 false a b 0 with ⟨c, q, e⟩ | e
  · rw [e] at hv up
    have zc : Jvm.FP.Core.zmag Jvm.FP.Core.b64 (.fin false c q) = c * 2 ^ (q + 1074).toNat := iu64 c q
    rw [zc] at up
    have hK : c * 2 ^ (q + 1074).toNat < O * 2147483648 := by
      refine Nat.lt_of_le_of_lt up ?_
      rw [Nat.mul_comm]
      exact Nat.mul_lt_mul_of_pos_left (by omega) hOp
    have hf := Jvm.FP.Core.val64_fits (rvD (nI a) (nI b))
    rw [hv] at hf
    have hc : c < 2 ^ 53 := hf.1
    have hD : 2 ^ 52 ∣ c * 2 ^ (q + 1074).toNat := by
      by_cases a0 : a = 0
      · have : c * 2 ^ (q + 1074).toNat = 0 := by
          rw [a0, Nat.zero_mul] at up; omega
        rw [this]; exact Nat.dvd_zero _
      · have lo : Jvm.FP.Core.zmag Jvm.FP.Core.b64 (.fin false (2 ^ 52) (-62)) ≤ Jvm.FP.Core.zmag Jvm.FP.Core.b64 (Jvm.FP.Core.roundRatio Jvm.FP.Core.b64 false a b 0) := by
          refine Jvm.FP.Core.zmag_roundRatio_ge Jvm.FP.Core.good_b64 (e0 := Jvm.FP.Core.b64.qmin) (by omega) (nd_fits (by decide) (by decide) (by decide) (by decide)) (Int.le_refl _) (by rw [Jvm.FP.Core.qmin_b64]; decide) ?_
          rw [z0, Int.sub_self]
          have zl : Jvm.FP.Core.zmag Jvm.FP.Core.b64 (.fin false (2 ^ 52) (-62)) = 2 ^ 52 * 2 ^ ((-62 : Int) + 1074).toNat := iu64 _ _
          rw [zl]
          rw [Int.toNat_zero, Nat.pow_zero, Nat.mul_one]
          have k1 : 2 ^ 52 * 2 ^ ((-62 : Int) + 1074).toNat * 1024 = O := by
            rw [hO, ← Nat.pow_add, show (1024 : Nat) = 2 ^ 10 from rfl, ← Nat.pow_add]; rfl
          refine Nat.le_trans (Nat.mul_le_mul_left _ hb) ?_
          rw [k1]
          exact Nat.le_mul_of_pos_left _ (by omega)
        have zl : Jvm.FP.Core.zmag Jvm.FP.Core.b64 (.fin false (2 ^ 52) (-62)) = 2 ^ 52 * 2 ^ ((-62 : Int) + 1074).toNat := iu64 _ _
        rw [e, zc, zl] at lo
        have hx : 52 ≤ (q + 1074).toNat := by
          refine Nat.le_of_not_lt (fun z => ?_)
          have k2 := pw_big z
          have k3 : c * 2 ^ (q + 1074).toNat < 2 ^ 53 * 2 ^ (q + 1074).toNat := Nat.mul_lt_mul_of_pos_right hc (Nat.two_pow_pos _)
          exact absurd (Nat.lt_of_lt_of_le k3 (Nat.le_trans k2 lo)) (Nat.lt_irrefl _)
        exact Nat.dvd_mul_left_of_dvd (Nat.pow_dvd_pow 2 hx) c
    exact ⟨by rw [hv]; exact (fun z => by cases z), rv_bits u hO hv hK hD⟩
  · exfalso
    rw [e] at up
    have z3 : Jvm.FP.Core.b64.tails * 2 ^ (Jvm.FP.Core.b64.exps - 2) ≤ a * O := up
    have z4 : a * O ≤ 2147483648 * O := Nat.mul_le_mul_right _ (by omega)
    have z5 := Nat.le_trans z3 z4
    rw [hO] at z5
    exact absurd z5 (by decide +kernel)
/-! how many matches a division has had, each twice -/
def plN (A : Ab) (x : llMem) (l d : Nat) : Nat := sumN (fun c => if A.st c = some (l, d) then Sn x 0 c else 0) A.nc
theorem playedIn_x {A : Ab} {x m : llMem} {mc : Nat} {ml : Nat → Nat × Nat} (hp : IPyr A x m) (hs : ISea A x m mc ml) {l d : Nat} (hl : l < 1000) (hd : d < 1000) : fx_X7_playedIn_14_3 x (nI l) (nI d) = some (nI (plN A x l d)) := by
  have hn := hp.ncB
  unfold fx_X7_playedIn_14_3
  have lp : loop (fx_X7_playedIn_14_3_l6 x (nI l) (nI d)) llFuel (0, 0) = some (nI (plN A x l d)) := by
    refine loop_sumN (fun c => if A.st c = some (l, d) then Sn x 0 c else 0) A.nc ?_ ?_ (llF (by omega))
    · intro i a hi
      unfold fx_X7_playedIn_14_3_l6 fx_X7_playedIn_14_3_j38_b6
      dsimp only
      rw [hp.x35, if_neg (nle2 (by omega) (by omega) hi), stands_x hp hi hl hd, Option.bind_some]
      by_cases e : A.st i = some (l, d)
      · rw [if_pos e, if_pos e, if_neg (show ¬ (1 : Int32) = 0 by decide), gI_nI (by omega) (by decide), rI_n (by omega), (SnB hp hs hi).1, lt_eq, lt_eq, nI_1, nI_add]
      · rw [if_neg e, if_neg e, if_pos rfl, lt_eq, nI_1] <;> rfl
    · intro a
      unfold fx_X7_playedIn_14_3_l6
      dsimp only
      rw [hp.x35, if_pos (le2 (by omega) (by omega) (Nat.le_refl _))]
  rw [lp]; rfl
theorem restSum_m {A : Ab} {x m : llMem} {mc : Nat} {ml : Nat → Nat × Nat} (hp : IPyr A x m) (hs : ISea A x m mc ml) {l d : Nat} (hl : l < 1000) (hd : d < 1000) : loop (fx_X12_rest_69_l18 m (nI l) (nI d)) llFuel (0, 0) = some (nI (plN A x l d)) := by
  have hn := hp.ncB
  refine loop_sumN (fun c => if A.st c = some (l, d) then Sn x 0 c else 0) A.nc ?_ ?_ (llF (by omega))
  · intro i a hi
    unfold fx_X12_rest_69_l18 fx_X12_rest_69_j60_b18 fx_X12_rest_69_j61_b18
    dsimp only
    have so := sumOf_m hp hs hi (w := 0) (by decide)
    rw [← hs.su (show i < 30 by omega) (show 0 < 5 by decide)] at so
    have so2 : fx_X12_sumOf_69 m (nI i) 0 = some (nI (Sn x 0 i)) := so.trans (congrArg some (SnB hp hs hi).1)
    have st := st_eq hp hi hl hd
    rw [hp.m9, if_neg (nle2 (by omega) (by omega) hi), gI_nI (by omega) (by decide), gI_nI (by omega) (by decide), rI_n (by omega), rI_n (by omega), (hp.cl hi).m74, (hp.cl hi).m75, so2]
    simp only [lt_eq, nI_1, Option.bind_some]
    by_cases e1 : lvI A i = nI l
    · rw [if_neg (fun z => z e1)]
      by_cases e2 : dvI A i = nI d
      · rw [if_neg (fun z => z e2), if_pos (st.mp ⟨e1, e2⟩), nI_add]
      · rw [if_pos e2, if_neg (fun z => e2 (st.mpr z).2)]
        rw [show (0 : Int32) = nI 0 from rfl, nI_add]
    · rw [if_pos e1, if_neg (fun z => e1 (st.mpr z).1)]
      rw [show (0 : Int32) = nI 0 from rfl, nI_add]
  · intro a
    unfold fx_X12_rest_69_l18
    dsimp only
    rw [hp.m9, if_pos (le2 (by omega) (by omega) (Nat.le_refl _))]
