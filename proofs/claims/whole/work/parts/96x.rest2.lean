/-! rest: a division's matches are counted twice; the whole -/
theorem sm_pos {f : Nat → Nat} : ∀ n, sumN f n ≠ 0 → ∃ i, i < n ∧ f i ≠ 0
  | 0, h => absurd rfl h
  | n + 1, h => by
    by_cases e : f n = 0
    · have h' : sumN f n + f n ≠ 0 := h
      obtain ⟨i, h1, h2⟩ := sm_pos (f := f) n (by omega)
      exact ⟨i, by omega, h2⟩
    · exact ⟨n, by omega, e⟩
theorem sm_ge1 {f : Nat → Nat} {i : Nat} : ∀ n, i < n → f i ≤ sumN f n
  | 0, h => by omega
  | n + 1, h => by
    show f i ≤ sumN f n + f n
    by_cases e : i = n
    · rw [e]; omega
    · have := sm_ge1 (f := f) (i := i) n (by omega)
      omega
theorem sm_ge2 {f : Nat → Nat} {i j : Nat} (hij : i ≠ j) : ∀ n, i < n → j < n → f i + f j ≤ sumN f n
  | 0, h, _ => by omega
  | n + 1, h, g => by
    show f i + f j ≤ sumN f n + f n
    by_cases e : i = n
    · have := sm_ge1 (f := f) (i := j) n (by omega)
      rw [e]; omega
    · by_cases e2 : j = n
      · have := sm_ge1 (f := f) (i := i) n (by omega)
        rw [e2]; omega
      · have := sm_ge2 (f := f) hij n (by omega) (by omega)
        omega
def tyN (x : llMem) (nc c : Nat) : Nat := sumN (fun o => (if x.1 17 (30 * c + o) = -1 then 0 else 1) + (if x.1 17 (30 * o + c) = -1 then 0 else 1)) nc
theorem sumW_0 (x : llMem) (nc c : Nat) : sumW (x.1 17) nc c 0 = nI (tyN x nc c) := by
  unfold sumW tyN
  refine sumI_nI nc (fun o _ => ?_)
  by_cases e1 : x.1 17 (30 * c + o) = -1
  · by_cases e2 : x.1 17 (30 * o + c) = -1
    · simp only [if_pos e1, if_pos e2]; rfl
    · simp only [if_pos e1, if_neg e2]; rfl
  · by_cases e2 : x.1 17 (30 * o + c) = -1
    · simp only [if_neg e1, if_pos e2]; rfl
    · simp only [if_neg e1, if_neg e2]; rfl
theorem Sn_ty {A : Ab} {x m : llMem} {mc : Nat} {ml : Nat → Nat × Nat} (hp : IPyr A x m) (hs : ISea A x m mc ml) {c : Nat} (hc : c < A.nc) : Sn x 0 c = tyN x A.nc c := by
  have hn := hp.ncB
  have hb : tyN x A.nc c ≤ A.nc * 2 := by
    refine sumN_le' A.nc (fun o _ => ?_)
    by_cases e1 : x.1 17 (30 * c + o) = -1
    · by_cases e2 : x.1 17 (30 * o + c) = -1
      · rw [if_pos e1, if_pos e2]; omega
      · rw [if_pos e1, if_neg e2]; omega
    · by_cases e2 : x.1 17 (30 * o + c) = -1
      · rw [if_neg e1, if_pos e2]; omega
      · rw [if_neg e1, if_neg e2]; omega
  have h1 := hs.su (show c < 30 by omega) (show 0 < 5 by decide)
  rw [sumW_0] at h1
  unfold Sn
  rw [h1, nI_clamp (by omega)]
theorem plN_two {A : Ab} {x m : llMem} {mc : Nat} {ml : Nat → Nat × Nat} (hp : IPyr A x m) (hs : ISea A x m mc ml) (l d : Nat) : plN A x l d = 0 ∨ 2 ≤ plN A x l d := by
  have hn := hp.ncB
  have hM := hs.2.2.1
  by_cases z : plN A x l d = 0
  · exact Or.inl z
  · refine Or.inr ?_
    unfold plN at z ⊢
    obtain ⟨c, hc, h1⟩ := sm_pos _ z
    have hst : A.st c = some (l, d) := by
      by_cases e : A.st c = some (l, d)
      · exact e
      · rw [if_neg e] at h1; exact absurd rfl h1
    rw [if_pos hst] at h1
    have t1 := h1
    rw [Sn_ty hp hs hc] at t1
    unfold tyN at t1
    obtain ⟨o, ho, h2⟩ := sm_pos _ t1
    have key : c ≠ o ∧ A.st c = A.st o := by
      have fin : ∀ i, i < mc → (ml i = (c, o) ∨ ml i = (o, c)) → c ≠ o ∧ A.st c = A.st o := by
        intro i hi e
        obtain ⟨_, _, _, _, q1, _, q2, _⟩ := hM.2.2.1 i hi
        rcases e with e | e
        · rw [e] at q1 q2; exact ⟨q1, q2⟩
        · rw [e] at q1 q2; exact ⟨fun w => q1 w.symm, q2.symm⟩
      rcases sc_ok hM (a := c) (b := o) (by omega) (by omega) with ⟨e1, _⟩ | ⟨i, _, _, i1, i2, _⟩
      · rcases sc_ok hM (a := o) (b := c) (by omega) (by omega) with ⟨e2, _⟩ | ⟨i, _, _, i1, i2, _⟩
        · rw [if_pos e1, if_pos e2] at h2; exact absurd rfl h2
        · exact fin i i1 (Or.inr i2)
      · exact fin i i1 (Or.inl i2)
    have h3 : 1 ≤ Sn x 0 o := by
      rw [Sn_ty hp hs ho]
      unfold tyN
      refine Nat.le_trans ?_ (sm_ge1 (f := fun p => (if x.1 17 (30 * o + p) = -1 then 0 else 1) + (if x.1 17 (30 * p + o) = -1 then 0 else 1)) A.nc hc)
      omega
    have h4 := sm_ge2 (f := fun c => if A.st c = some (l, d) then Sn x 0 c else 0) key.1 A.nc hc ho
    rw [if_pos hst, if_pos (key.2.symm.trans hst)] at h4
    omega
theorem plN_le {A : Ab} {x m : llMem} {mc : Nat} {ml : Nat → Nat × Nat} (hp : IPyr A x m) (hs : ISea A x m mc ml) (l d : Nat) : plN A x l d ≤ 300 := by
  have hn := hp.ncB
  have : plN A x l d ≤ A.nc * 10 := by
    refine sumN_le' A.nc (fun c hc => ?_)
    have := (SnB hp hs hc).2.2.2.2.2.1
    by_cases e : A.st c = some (l, d)
    · rw [if_pos e]; exact this
    · rw [if_neg e]; omega
  omega
theorem d2b_ok (u : llMem) {a : UInt64} (h : Jvm.FP.Core.val64 a ≠ .nan) : fx_Jxe99ae_doubleToLongBits_ccdee u a = some (UInt64.toInt64 a) := by
  have e : FP.dcmp a a = some .eq := Jvm.FP.Core.dcmp_self h
  unfold fx_Jxe99ae_doubleToLongBits_ccdee fx_Jxe99ae_isNaN_b9ae7
  rw [e, cv_eq, if_pos rfl, gB_0, Option.bind_some, if_neg (fun q => q rfl)]
theorem rest_S (a b : Int32) : StepR (fun u => fx_X11_rest_0 u a b) (fun u => fx_X12_rest_69 u a b) := by
  rintro x m ⟨A, mc, ml, k, cj, h⟩
  have hp := h.1
  have hs := h.2.1
  have hn := hp.ncB
  have hn2 := hp.nlB
  dsimp only
  unfold fx_X11_rest_0 fx_X12_rest_69
  rcases hasDivision_B hp a b with ⟨l, d, hl, hd, rfl, rfl, p1, p2⟩ | ⟨p1, p2⟩
  · have hdv : A.dv l ≤ 3 := (hp.lv hl).2.2.2.2.2.2.2.2.2.1
    have hP := plN_le hp hs l d
    rw [p1, p2, Option.bind_some, Option.bind_some, if_pos (show ¬ (1 : Int32) = 0 by decide), if_pos (show ¬ (1 : Int32) = 0 by decide), playedIn_x hp hs (by omega) (by omega), Option.bind_some, restSum_m hp hs (by omega) (by omega), Option.bind_some, gZ_ok (show ¬ (2 : Int32) = 0 by decide), lt_eq, nI_half (by omega)]
    rcases plN_two hp hs l d with z | z
    · rw [z, if_neg (show ¬ (1 : Int32) ≤ nI (0 / 2) by decide), if_neg (show ¬ ¬ nI 0 = 0 from fun w => w rfl)]
      exact ⟨_, rfl, rfl⟩
    · obtain ⟨j, hj⟩ := miW_even hp l d
      have hw := miW_le hp l d
      have e2 : (2 : Int32) * nI (miW A l d / 2) = nI (miW A l d) := by
        rw [hj, show 2 * j / 2 = j by omega]
        exact pk_mul 2 j
      obtain ⟨o1, o2, o3, o4⟩ := rv_ok x (a := miW A l d) (b := plN A x l d / 2) (by omega) (by omega) (by omega)
      unfold rvD at o1 o2 o3 o4
      rw [if_pos (Lle 1 (by omega) (by decide) (by omega)), if_pos (neL 0 (by omega) (by decide) (by omega)), withinTwice_x hp (by omega) (by omega), Option.bind_some, milesOf_m hp (by omega) (by omega), Option.bind_some, gZ_ok (show ¬ (2 : Int32) = 0 by decide), e2, g64_ok o1, lt_eq, g64_ok o3, o2, Option.bind_some, g64_ok o1, g64_ok o4, d2b_ok m o4, Option.bind_some]
      exact ⟨_, rfl, rfl⟩
  · rw [p1, p2, Option.bind_some, Option.bind_some, if_neg (fun z => z rfl), if_neg (fun z => z rfl)]
    exact ⟨_, rfl, rfl⟩
