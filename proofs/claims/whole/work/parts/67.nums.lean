/-! numbers of a season, and their bounds -/
theorem sumI_nI {f : Nat → Int32} {g : Nat → Nat} : ∀ (n : Nat), (∀ i, i < n → f i = nI (g i)) → sumI f n = nI (sumN g n)
  | 0, _ => rfl
  | n + 1, h => by
    simp only [sumI, sumN]
    rw [sumI_nI n (fun i hi => h i (by omega)), h n (by omega), nI_add]
theorem sub_I {a b : Int32} (ha : -536870912 ≤ a.toInt ∧ a.toInt ≤ 536870912) (hb : -536870912 ≤ b.toInt ∧ b.toInt ≤ 536870912) : (a - b).toInt = a.toInt - b.toInt := by
  rw [Int32.toInt_sub]
  exact Int.bmod_eq_of_le_mul_two (by omega) (by omega)
theorem mul_I {a b : Int32} (ha : -10000 ≤ a.toInt ∧ a.toInt ≤ 10000) (hb : 0 ≤ b.toInt ∧ b.toInt ≤ 10000) : (a * b).toInt = a.toInt * b.toInt ∧ -100000000 ≤ a.toInt * b.toInt ∧ a.toInt * b.toInt ≤ 100000000 := by
  have h1 : a.toInt * b.toInt ≤ 10000 * b.toInt := Int.mul_le_mul_of_nonneg_right ha.2 hb.1
  have h2 : -10000 * b.toInt ≤ a.toInt * b.toInt := Int.mul_le_mul_of_nonneg_right ha.1 hb.1
  refine ⟨?_, by omega, by omega⟩
  rw [Int32.toInt_mul]
  exact Int.bmod_eq_of_le_mul_two (by omega) (by omega)
theorem i32_eq0 {z : Int32} : z = 0 ↔ z.toInt = 0 := ⟨fun h => by rw [h]; rfl, fun h => Int32.toInt_inj.mp (by rw [h]; rfl)⟩
theorem i32_le0 {z : Int32} : z ≤ 0 ↔ z.toInt ≤ 0 := by rw [Int32.le_iff_toInt_le]; rfl
def Bw (w : Nat) : Nat := if w < 3 then 1 else 99
theorem part_nat {g t w : Nat} (hg : g ≤ 99) (ht : t ≤ 99) (hw : w < 5) : part (nI g) (nI t) w = nI (part (nI g) (nI t) w).toNatClampNeg ∧ (part (nI g) (nI t) w).toNatClampNeg ≤ Bw w := by
  have key : ∃ k, part (nI g) (nI t) w = nI k ∧ k ≤ Bw w := by
    unfold part Bw
    rcases (show w = 0 ∨ w = 1 ∨ w = 2 ∨ w = 3 ∨ w = 4 by omega) with rfl | rfl | rfl | rfl | rfl
    · exact ⟨1, rfl, by decide⟩
    · by_cases e : nI t < nI g
      · exact ⟨1, if_pos e, by decide⟩
      · exact ⟨0, if_neg e, by decide⟩
    · by_cases e : nI g = nI t
      · exact ⟨1, if_pos e, by decide⟩
      · exact ⟨0, if_neg e, by decide⟩
    · exact ⟨g, rfl, hg⟩
    · exact ⟨t, rfl, ht⟩
  obtain ⟨k, h1, h2⟩ := key
  have hk : k < 2 ^ 31 := by unfold Bw at h2; split at h2 <;> omega
  rw [h1, nI_clamp hk]
  exact ⟨rfl, h2⟩
theorem cP_nat {A : Ab} {x : llMem} {mc : Nat} {ml : Nat → Nat × Nat} (h : IMa A x mc ml) {a b w : Nat} (ha : a < 30) (hb : b < 30) (hw : w < 5) : (cP (x.1 17 (30 * a + b)) w = nI (cP (x.1 17 (30 * a + b)) w).toNatClampNeg ∧ (cP (x.1 17 (30 * a + b)) w).toNatClampNeg ≤ if x.1 17 (30 * a + b) = -1 then 0 else Bw w) ∧ (cA (x.1 17 (30 * a + b)) w = nI (cA (x.1 17 (30 * a + b)) w).toNatClampNeg ∧ (cA (x.1 17 (30 * a + b)) w).toNatClampNeg ≤ if x.1 17 (30 * a + b) = -1 then 0 else Bw w) := by
  rcases sc_ok h ha hb with ⟨e, -⟩ | ⟨i, g, t, -, -, g1, t1, e⟩
  · rw [e, cP_1 rfl, cA_1 rfl, if_pos rfl]
    exact ⟨⟨rfl, Nat.le_refl _⟩, rfl, Nat.le_refl _⟩
  · obtain ⟨n1, n2, n3⟩ := nI_100 g1 t1
    have p1 : cP (nI (100 * g + t)) w = part (nI g) (nI t) w := by unfold cP; rw [if_neg n3, n1, n2]
    have p2 : cA (nI (100 * g + t)) w = part (nI t) (nI g) w := by unfold cA; rw [if_neg n3, n1, n2]
    rw [e, p1, p2, if_neg n3]
    exact ⟨part_nat g1 t1 hw, part_nat t1 g1 hw⟩
theorem sumN_up {f : Nat → Nat} {a : Nat} : ∀ (b : Nat), a ≤ b → sumN f a ≤ sumN f b
  | 0, h => by rw [show a = 0 by omega]; exact Nat.le_refl _
  | b + 1, h => by
    by_cases e : a = b + 1
    · rw [e]; exact Nat.le_refl _
    · have := sumN_up (f := f) b (show a ≤ b by omega)
      simp only [sumN]; omega
theorem sumN_ite {q : Nat → Bool} {B : Nat} : ∀ n, sumN (fun a => if q a then B else 0) n = B * sumN (fun a => if q a then 1 else 0) n
  | 0 => rfl
  | n + 1 => by
    simp only [sumN]
    rw [sumN_ite n]
    cases q n
    · simp
    · simp [Nat.mul_add]
def Sn (x : llMem) (w c : Nat) : Nat := (x.1 (21 + w) c).toNatClampNeg
theorem Sn_ok {A : Ab} {x m : llMem} {mc : Nat} {ml : Nat → Nat × Nat} (hp : IPyr A x m) (hs : ISea A x m mc ml) {c w : Nat} (hc : c < A.nc) (hw : w < 5) : x.1 (21 + w) c = nI (Sn x w c) ∧ Sn x w c ≤ 10 * Bw w := by
  have hn := hp.ncB
  have hM := hs.2.2.1
  have key : ∃ N, x.1 (21 + w) c = nI N ∧ N ≤ 10 * Bw w := by
    refine ⟨sumN (fun o => (cP (x.1 17 (30 * c + o)) w).toNatClampNeg + (cA (x.1 17 (30 * o + c)) w).toNatClampNeg) A.nc, ?_, ?_⟩
    · rw [hs.su (by omega) hw, sumW_eq]
      refine sumI_nI A.nc (fun o ho => ?_)
      rw [(cP_nat hM (a := c) (b := o) (by omega) (by omega) hw).1.1, (cP_nat hM (a := o) (b := c) (by omega) (by omega) hw).2.1, nI_add]
      have hb : ∀ z : Nat, (nI z).toNatClampNeg = z ∨ 2 ^ 31 ≤ z := fun z => by
        by_cases e : z < 2 ^ 31
        · exact Or.inl (nI_clamp e)
        · exact Or.inr (by omega)
      have b1 := (cP_nat hM (a := c) (b := o) (by omega) (by omega) hw).1.2
      have b2 := (cP_nat hM (a := o) (b := c) (by omega) (by omega) hw).2.2
      have bb : Bw w ≤ 99 := by unfold Bw; split <;> omega
      rw [nI_clamp (by split at b1 <;> omega), nI_clamp (by split at b2 <;> omega)]
    · rw [sumN_add]
      have f1 := five hp (q := fun a => decide (¬ x.1 17 (30 * c + a) = -1)) (h := c) (by omega) (fun a ha g => by
        rcases sc_ok hM (a := c) (b := a) (by omega) ha with ⟨e, -⟩ | ⟨i, _, _, i1, i2, _⟩
        · exact absurd e (of_decide_eq_true g)
        · obtain ⟨k1, k2, k3, k4, k5⟩ := hM.prs.1 i i1
          rw [i2] at k1 k2 k3 k4 k5
          exact ⟨fun z => k3 z.symm, k2, k1, k4, k5⟩)
      have f2 := five hp (q := fun a => decide (¬ x.1 17 (30 * a + c) = -1)) (h := c) (by omega) (fun a ha g => by
        rcases sc_ok hM (a := a) (b := c) ha (by omega) with ⟨e, -⟩ | ⟨i, _, _, i1, i2, _⟩
        · exact absurd e (of_decide_eq_true g)
        · obtain ⟨k1, k2, k3, k4, k5⟩ := hM.prs.1 i i1
          rw [i2] at k1 k2 k3 k4 k5
          dsimp only at k1 k2 k3 k4 k5
          exact ⟨k3, k1, k2, by rw [← k5]; exact k4, k5.symm⟩)
      have g1 : sumN (fun o => (cP (x.1 17 (30 * c + o)) w).toNatClampNeg) A.nc ≤ Bw w * 5 := by
        refine Nat.le_trans (sumN_mono A.nc (g := fun a => if decide (¬ x.1 17 (30 * c + a) = -1) then Bw w else 0) (fun o ho => ?_)) (Nat.le_trans (sumN_up 30 hn) ?_)
        · have b1 := (cP_nat hM (a := c) (b := o) (by omega) (by omega) hw).1.2
          by_cases e : x.1 17 (30 * c + o) = -1
          · rw [if_pos e] at b1
            rw [decide_eq_false (fun z => z e)]; exact b1
          · rw [if_neg e] at b1
            rw [decide_eq_true e]; exact b1
        · rw [sumN_ite]; exact Nat.mul_le_mul_left _ f1
      have g2 : sumN (fun o => (cA (x.1 17 (30 * o + c)) w).toNatClampNeg) A.nc ≤ Bw w * 5 := by
        refine Nat.le_trans (sumN_mono A.nc (g := fun a => if decide (¬ x.1 17 (30 * a + c) = -1) then Bw w else 0) (fun o ho => ?_)) (Nat.le_trans (sumN_up 30 hn) ?_)
        · have b1 := (cP_nat hM (a := o) (b := c) (by omega) (by omega) hw).2.2
          by_cases e : x.1 17 (30 * o + c) = -1
          · rw [if_pos e] at b1
            rw [decide_eq_false (fun z => z e)]; exact b1
          · rw [if_neg e] at b1
            rw [decide_eq_true e]; exact b1
        · rw [sumN_ite]; exact Nat.mul_le_mul_left _ f2
      omega
  obtain ⟨N, h1, h2⟩ := key
  have hN : N < 2 ^ 31 := by unfold Bw at h2; split at h2 <;> omega
  unfold Sn
  rw [h1, nI_clamp hN]
  exact ⟨rfl, h2⟩
/-- points, goals less those against, goals, as whole numbers -/
def PI (x : llMem) (c : Nat) : Int := (ptI x c).toInt
def DI (x : llMem) (c : Nat) : Int := (x.1 24 c - x.1 25 c).toInt
def GI (x : llMem) (c : Nat) : Int := (x.1 24 c).toInt
theorem SnB {A : Ab} {x m : llMem} {mc : Nat} {ml : Nat → Nat × Nat} (hp : IPyr A x m) (hs : ISea A x m mc ml) {c : Nat} (hc : c < A.nc) : x.1 21 c = nI (Sn x 0 c) ∧ x.1 22 c = nI (Sn x 1 c) ∧ x.1 23 c = nI (Sn x 2 c) ∧ x.1 24 c = nI (Sn x 3 c) ∧ x.1 25 c = nI (Sn x 4 c) ∧ Sn x 0 c ≤ 10 ∧ Sn x 1 c ≤ 10 ∧ Sn x 2 c ≤ 10 ∧ Sn x 3 c ≤ 990 ∧ Sn x 4 c ≤ 990 := by
  obtain ⟨a0, b0⟩ := Sn_ok hp hs hc (w := 0) (by decide)
  obtain ⟨a1, b1⟩ := Sn_ok hp hs hc (w := 1) (by decide)
  obtain ⟨a2, b2⟩ := Sn_ok hp hs hc (w := 2) (by decide)
  obtain ⟨a3, b3⟩ := Sn_ok hp hs hc (w := 3) (by decide)
  obtain ⟨a4, b4⟩ := Sn_ok hp hs hc (w := 4) (by decide)
  exact ⟨a0, a1, a2, a3, a4, b0, b1, b2, b3, b4⟩
theorem PI_ok {A : Ab} {x m : llMem} {mc : Nat} {ml : Nat → Nat × Nat} (hp : IPyr A x m) (hs : ISea A x m mc ml) {c : Nat} (hc : c < A.nc) : -999 ≤ PI x c ∧ PI x c ≤ 40 ∧ -990 ≤ DI x c ∧ DI x c ≤ 990 ∧ 0 ≤ GI x c ∧ GI x c ≤ 990 := by
  obtain ⟨_, a1, a2, a3, a4, _, b1, b2, b3, b4⟩ := SnB hp hs hc
  obtain ⟨L, l1, l2⟩ := (hs.1 c hc).2.2.2.1
  unfold PI DI GI ptI
  have e : (3 : Int32) * nI (Sn x 1 c) + nI (Sn x 2 c) = nI (3 * Sn x 1 c + Sn x 2 c) := by rw [show (3 : Int32) = nI 3 from rfl, pk_mul, nI_add]
  rw [a1, a2, a3, a4, l2, e, pk_sub_toInt (by omega) (by omega), pk_sub_toInt (by omega) (by omega), nI_toInt (by omega)]
  omega
/-- who is ahead in a division -/
def ahd (x : llMem) (a b : Nat) : Bool := decide (PI x b < PI x a ∨ (PI x a = PI x b ∧ (DI x b < DI x a ∨ (DI x a = DI x b ∧ (GI x b < GI x a ∨ (GI x a = GI x b ∧ a < b))))))
theorem ahd_1 {x : llMem} {a b : Nat} (h : ¬ PI x a = PI x b) : ahd x a b = decide (PI x b < PI x a) := by
  unfold ahd; rw [decide_eq_decide]; omega
theorem ahd_2 {x : llMem} {a b : Nat} (h1 : PI x a = PI x b) (h : ¬ DI x a = DI x b) : ahd x a b = decide (DI x b < DI x a) := by
  unfold ahd; rw [decide_eq_decide]; omega
theorem ahd_3 {x : llMem} {a b : Nat} (h1 : PI x a = PI x b) (h2 : DI x a = DI x b) (h : ¬ GI x a = GI x b) : ahd x a b = decide (GI x b < GI x a) := by
  unfold ahd; rw [decide_eq_decide]; omega
theorem ahd_4 {x : llMem} {a b : Nat} (h1 : PI x a = PI x b) (h2 : DI x a = DI x b) (h : GI x a = GI x b) : ahd x a b = decide (a < b) := by
  unfold ahd; rw [decide_eq_decide]; omega
theorem i32_eqI {a b : Int32} : a = b ↔ a.toInt = b.toInt := Int32.toInt_inj.symm
def b01 (b : Bool) : Int32 := if b then 1 else 0
theorem b01_t : b01 true = 1 := rfl
theorem b01_f : b01 false = 0 := rfl
theorem outranks_x {A : Ab} {x m u : llMem} {mc : Nat} {ml : Nat → Nat × Nat} (hp : IPyr A x m) (hs : ISea A x m mc ml) {a b : Nat} (ha : a < A.nc) (hb : b < A.nc) (ua : u.1 46 a = ptI x a) (ub : u.1 46 b = ptI x b) (u24 : u.1 24 = x.1 24) (u25 : u.1 25 = x.1 25) : fx_X8_outranks_43 u (nI a) (nI b) = some (b01 (ahd x a b)) := by
  have hn := hp.ncB
  obtain ⟨a1, a2, a3, a4, a5, a6⟩ := PI_ok hp hs ha
  obtain ⟨b1, b2, b3, b4, b5, b6⟩ := PI_ok hp hs hb
  have p1 : (ptI x a - ptI x b).toInt = PI x a - PI x b := sub_I ⟨by unfold PI at a1; omega, by unfold PI at a2; omega⟩ ⟨by unfold PI at b1; omega, by unfold PI at b2; omega⟩
  have d1 : (x.1 24 a - x.1 25 a - (x.1 24 b - x.1 25 b)).toInt = DI x a - DI x b := sub_I ⟨by unfold DI at a3; omega, by unfold DI at a4; omega⟩ ⟨by unfold DI at b3; omega, by unfold DI at b4; omega⟩
  have g1 : (x.1 24 a - x.1 24 b).toInt = GI x a - GI x b := sub_I ⟨by unfold GI at a5; omega, by unfold GI at a6; omega⟩ ⟨by unfold GI at b5; omega, by unfold GI at b6; omega⟩
  unfold fx_X8_outranks_43 fx_X8_outranks_43_j36 fx_X8_outranks_43_j60 fx_X7_goalsLessAgainst_14
  simp only [gI_nI (show a < 30 by omega) (show 30 < 2 ^ 31 by decide), gI_nI (show b < 30 by omega) (show 30 < 2 ^ 31 by decide), rI_n (show a < 2 ^ 31 by omega), rI_n (show b < 2 ^ 31 by omega), ua, ub, u24, u25, lt_eq, Option.bind_some, gB_0, gB_1]
  by_cases e1 : PI x a = PI x b
  · have z1 : ptI x a - ptI x b = 0 := i32_eq0.mpr (by omega)
    rw [if_neg (fun q => q z1)]
    by_cases e2 : DI x a = DI x b
    · have z2 : x.1 24 a - x.1 25 a - (x.1 24 b - x.1 25 b) = 0 := i32_eq0.mpr (by omega)
      rw [if_neg (fun q => q z2)]
      by_cases e3 : GI x a = GI x b
      · have z3 : x.1 24 a - x.1 24 b = 0 := i32_eq0.mpr (by omega)
        rw [if_pos z3, ahd_4 e1 e2 e3]
        by_cases e4 : a < b
        · rw [if_neg (nle2 (by omega) (by omega) e4), decide_eq_true e4]; rfl
        · rw [if_pos (le2 (by omega) (by omega) (by omega)), decide_eq_false e4]; rfl
      · have z3 : ¬ x.1 24 a - x.1 24 b = 0 := fun q => e3 (by have := i32_eq0.mp q; omega)
        rw [if_neg z3, ahd_3 e1 e2 e3]
        by_cases e4 : GI x b < GI x a
        · rw [if_neg (fun q => by have := i32_le0.mp q; omega), decide_eq_true e4]; rfl
        · rw [if_pos (i32_le0.mpr (by omega)), decide_eq_false e4]; rfl
    · have z2 : ¬ x.1 24 a - x.1 25 a - (x.1 24 b - x.1 25 b) = 0 := fun q => e2 (by have := i32_eq0.mp q; omega)
      rw [if_pos z2, if_neg z2, ahd_2 e1 e2]
      by_cases e4 : DI x b < DI x a
      · rw [if_neg (fun q => by have := i32_le0.mp q; omega), decide_eq_true e4]; rfl
      · rw [if_pos (i32_le0.mpr (by omega)), decide_eq_false e4]; rfl
  · have z1 : ¬ ptI x a - ptI x b = 0 := fun q => e1 (by have := i32_eq0.mp q; omega)
    rw [if_pos z1, if_pos z1, if_neg z1, ahd_1 e1]
    by_cases e4 : PI x b < PI x a
    · rw [if_neg (fun q => by have := i32_le0.mp q; omega), decide_eq_true e4]; rfl
    · rw [if_pos (i32_le0.mpr (by omega)), decide_eq_false e4]; rfl
theorem isAhead_m {A : Ab} {x m u : llMem} {mc : Nat} {ml : Nat → Nat × Nat} (hp : IPyr A x m) (hs : ISea A x m mc ml) {a b : Nat} (ha : a < A.nc) (hb : b < A.nc) (u1 : ∀ c, c < A.nc → u.1 81 c = ptI x c ∧ u.1 82 c = x.1 24 c - x.1 25 c ∧ u.1 83 c = x.1 24 c) : fx_X12_isAhead_69 u (nI a) (nI b) = some (b01 (ahd x a b)) := by
  have hn := hp.ncB
  obtain ⟨p1, d1, g1⟩ := u1 a ha
  obtain ⟨p2, d2, g2⟩ := u1 b hb
  unfold fx_X12_isAhead_69
  simp only [gI_nI (show a < 30 by omega) (show 30 < 2 ^ 31 by decide), gI_nI (show b < 30 by omega) (show 30 < 2 ^ 31 by decide), rI_n (show a < 2 ^ 31 by omega), rI_n (show b < 2 ^ 31 by omega), p1, d1, g1, p2, d2, g2, gB_0, gB_1]
  by_cases e1 : PI x a = PI x b
  · rw [if_pos (i32_eqI.mpr e1)]
    by_cases e2 : DI x a = DI x b
    · rw [if_pos (i32_eqI.mpr e2)]
      by_cases e3 : GI x a = GI x b
      · rw [if_neg (fun q => q (i32_eqI.mpr e3)), ahd_4 e1 e2 e3]
        by_cases e4 : a < b
        · rw [if_neg (nle2 (by omega) (by omega) e4), decide_eq_true e4]; rfl
        · rw [if_pos (le2 (by omega) (by omega) (by omega)), decide_eq_false e4]; rfl
      · rw [if_pos (fun q => e3 (i32_eqI.mp q)), ahd_3 e1 e2 e3]
        by_cases e4 : GI x b < GI x a
        · rw [if_neg (fun q => by have := Int32.le_iff_toInt_le.mp q; unfold GI at e4; omega), decide_eq_true e4]; rfl
        · rw [if_pos (Int32.le_iff_toInt_le.mpr (by unfold GI at e4; omega)), decide_eq_false e4]; rfl
    · rw [if_neg (fun q => e2 (i32_eqI.mp q)), ahd_2 e1 e2]
      by_cases e4 : DI x b < DI x a
      · rw [if_neg (fun q => by have := Int32.le_iff_toInt_le.mp q; unfold DI at e4; omega), decide_eq_true e4]; rfl
      · rw [if_pos (Int32.le_iff_toInt_le.mpr (by unfold DI at e4; omega)), decide_eq_false e4]; rfl
  · rw [if_neg (fun q => e1 (i32_eqI.mp q)), ahd_1 e1]
    by_cases e4 : PI x b < PI x a
    · rw [if_neg (fun q => by have := Int32.le_iff_toInt_le.mp q; unfold PI at e4; omega), decide_eq_true e4]; rfl
    · rw [if_pos (Int32.le_iff_toInt_le.mpr (by unfold PI at e4; omega)), decide_eq_false e4]; rfl
