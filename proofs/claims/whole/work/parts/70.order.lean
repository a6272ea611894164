/-! the order of a level: a club is put in from behind -/
def insP (lt : Nat → Nat → Bool) (L : List Nat) (c : Nat) : Nat → Nat
  | 0 => 0
  | n + 1 => if lt c (L.getD n 0) then insP lt L c n else n + 1
def insR (lt : Nat → Nat → Bool) (L : List Nat) (c : Nat) : List Nat := L.take (insP lt L c L.length) ++ c :: L.drop (insP lt L c L.length)
theorem insP_le (lt : Nat → Nat → Bool) (L : List Nat) (c : Nat) : ∀ n, insP lt L c n ≤ n
  | 0 => Nat.le_refl _
  | n + 1 => by
    have := insP_le lt L c n
    unfold insP
    split <;> omega
theorem insR_len (lt : Nat → Nat → Bool) (L : List Nat) (c : Nat) : (insR lt L c).length = L.length + 1 := by
  have := insP_le lt L c L.length
  unfold insR
  rw [List.length_append, List.length_cons, List.length_take, List.length_drop]; omega
theorem ins_getD {L : List Nat} {p c : Nat} (hp : p ≤ L.length) (j : Nat) : (L.take p ++ c :: L.drop p).getD j 0 = if j < p then L.getD j 0 else if j = p then c else L.getD (j - 1) 0 := by
  rw [List.getD_eq_getElem?_getD]
  by_cases e : j < p
  · rw [if_pos e, List.getElem?_append_left (by rw [List.length_take]; omega), List.getElem?_take, if_pos e, ← List.getD_eq_getElem?_getD]
  · rw [if_neg e, List.getElem?_append_right (by rw [List.length_take]; omega), List.length_take, Nat.min_eq_left hp]
    by_cases e2 : j = p
    · rw [if_pos e2, e2, Nat.sub_self]; rfl
    · rw [if_neg e2, show j - p = (j - 1 - p) + 1 by omega, List.getElem?_cons_succ, List.getElem?_drop, show p + (j - 1 - p) = j - 1 by omega, ← List.getD_eq_getElem?_getD]
theorem insR_perm (lt : Nat → Nat → Bool) (L : List Nat) (c : Nat) : (insR lt L c).Perm (c :: L) := by
  unfold insR
  refine List.perm_middle.trans ?_
  rw [List.take_append_drop]
theorem foldI_perm (lt : Nat → Nat → Bool) : ∀ (R L : List Nat), (R.foldl (insR lt) L).Perm (L ++ R)
  | [], L => by rw [List.append_nil]; exact List.Perm.refl _
  | c :: R, L => by
    refine (foldI_perm lt R (insR lt L c)).trans ?_
    refine ((insR_perm lt L c).append_right R).trans ?_
    exact List.perm_middle.symm
theorem cmpI (a b : Int) : compare a b = if a < b then .lt else if a = b then .eq else .gt := rfl
/-- by how much an average is above another, times both numbers of matches -/
def Xc (x : llMem) (a b : Nat) : Int := (apI x a).toInt * mxN x b - (apI x b).toInt * mxN x a
def bef (A : Ab) (x : llMem) (a b : Nat) : Bool := decide (rkN A x a < rkN A x b ∨ (rkN A x a = rkN A x b ∧ (0 < Xc x a b ∨ (Xc x a b = 0 ∧ a < b))))
theorem bef_1 {A : Ab} {x : llMem} {a b : Nat} (h : ¬ rkN A x a = rkN A x b) : bef A x a b = decide (rkN A x a < rkN A x b) := by
  unfold bef; rw [decide_eq_decide]; omega
theorem bef_2 {A : Ab} {x : llMem} {a b : Nat} (h : rkN A x a = rkN A x b) (h2 : ¬ Xc x a b = 0) : bef A x a b = decide (0 < Xc x a b) := by
  unfold bef; rw [decide_eq_decide]; omega
theorem bef_3 {A : Ab} {x : llMem} {a b : Nat} (h : rkN A x a = rkN A x b) (h2 : Xc x a b = 0) : bef A x a b = decide (a < b) := by
  unfold bef; rw [decide_eq_decide]; omega
theorem averagePoints_x {A : Ab} {x m u : llMem} {mc : Nat} {ml : Nat → Nat × Nat} (hp : IPyr A x m) (hs : ISea A x m mc ml) {a : Nat} (ha : a < A.nc) (u46 : u.1 46 a = ptI x a) (u21 : u.1 21 = x.1 21) : fx_X8_averagePoints_43 u (nI a) = some (apI x a) ∧ (if x.1 21 a < 1 then (1 : Int32) else x.1 21 a) = nI (mxN x a) := by
  have hn := hp.ncB
  obtain ⟨a0, _, _, _, _, b, _⟩ := SnB hp hs ha
  unfold fx_X8_averagePoints_43 apI mxN
  simp only [gI_nI (show a < 30 by omega) (show 30 < 2 ^ 31 by decide), rI_n (show a < 2 ^ 31 by omega), u21, u46, a0]
  by_cases e : Sn x 0 a = 0
  · rw [if_pos e, if_pos e, e, if_pos (show nI 0 ≤ 0 by decide), if_pos (show nI 0 < 1 by decide)]
    exact ⟨rfl, rfl⟩
  · rw [if_neg e, if_neg e, if_neg (nI_nle (by omega) (by omega)), if_neg (nltL 1 (by omega) (by decide) (by omega))]
    exact ⟨rfl, rfl⟩
theorem isAheadO_x {A : Ab} {x m u : llMem} {mc : Nat} {ml : Nat → Nat × Nat} (hp : IPyr A x m) (hs : ISea A x m mc ml) {a b : Nat} (ha : a < A.nc) (hb : b < A.nc) (ua : u.1 46 a = ptI x a) (ub : u.1 46 b = ptI x b) (ra : u.1 45 a = nI (rkN A x a)) (rb : u.1 45 b = nI (rkN A x b)) (u21 : u.1 21 = x.1 21) : fx_X8_isAhead_43 u (nI a) (nI b) = some (b01 (bef A x a b)) := by
  have hn := hp.ncB
  obtain ⟨p1, q1⟩ := averagePoints_x hp hs ha ua u21
  obtain ⟨p2, q2⟩ := averagePoints_x hp hs hb ub u21
  obtain ⟨a1, a2, a3⟩ := apI_ok hp hs ha
  obtain ⟨b1, b2, b3⟩ := apI_ok hp hs hb
  have r1 := rkN_le A x a
  have r2 := rkN_le A x b
  unfold fx_X8_isAhead_43
  simp only [gI_nI (show a < 30 by omega) (show 30 < 2 ^ 31 by decide), gI_nI (show b < 30 by omega) (show 30 < 2 ^ 31 by decide), rI_n (show a < 2 ^ 31 by omega), rI_n (show b < 2 ^ 31 by omega), ra, rb, u21, p1, p2, Option.bind_some, lt_eq, gB_0, gB_1]
  rw [q1, q2]
  have ma : (nI (mxN x a)).toInt = mxN x a := nI_toInt (by omega)
  have mb : (nI (mxN x b)).toInt = mxN x b := nI_toInt (by omega)
  obtain ⟨m1, m2, m3⟩ := mul_I (a := apI x a) (b := nI (mxN x b)) (by omega) (by omega)
  obtain ⟨n1, n2, n3⟩ := mul_I (a := apI x b) (b := nI (mxN x a)) (by omega) (by omega)
  have d1 : (apI x a * nI (mxN x b) - apI x b * nI (mxN x a)).toInt = Xc x a b := by
    rw [sub_I (by omega) (by omega), m1, n1, ma, mb]; rfl
  by_cases e1 : rkN A x a = rkN A x b
  · rw [if_pos (by rw [e1])]
    by_cases e2 : Xc x a b = 0
    · rw [if_pos (i32_eq0.mpr (by omega)), bef_3 e1 e2]
      by_cases e4 : a < b
      · rw [if_neg (nle2 (by omega) (by omega) e4), decide_eq_true e4]; rfl
      · rw [if_pos (le2 (by omega) (by omega) (by omega)), decide_eq_false e4]; rfl
    · rw [if_neg (fun q => e2 (by have := i32_eq0.mp q; omega)), bef_2 e1 e2]
      by_cases e4 : 0 < Xc x a b
      · rw [if_neg (fun q => by have := i32_le0.mp q; omega), decide_eq_true e4]; rfl
      · rw [if_pos (i32_le0.mpr (by omega)), decide_eq_false e4]; rfl
  · rw [if_neg (fun q => e1 (nI_inj (by omega) (by omega) q)), bef_1 e1]
    by_cases e4 : rkN A x a < rkN A x b
    · rw [if_neg (nle2 (by omega) (by omega) e4), decide_eq_true e4]; rfl
    · rw [if_pos (le2 (by omega) (by omega) (by omega)), decide_eq_false e4]; rfl
theorem isBefore_m {A : Ab} {x m u : llMem} {mc : Nat} {ml : Nat → Nat × Nat} (hp : IPyr A x m) (hs : ISea A x m mc ml) {a b : Nat} (ha : a < A.nc) (hb : b < A.nc) (hR : ∀ c, c < A.nc → u.1 84 c = nI (rkN A x c) ∧ u.2.2 85 c = avF (apI x c) (nI (mxN x c))) : fx_X12_isBefore_69 u (nI a) (nI b) = some (b01 (bef A x a b)) := by
  have hn := hp.ncB
  obtain ⟨a1, a2⟩ := apI_ok hp hs ha
  obtain ⟨b1, b2⟩ := apI_ok hp hs hb
  have r1 := rkN_le A x a
  have r2 := rkN_le A x b
  have fr : ∀ k, k < 2 ^ 31 → rF u 85 (nI k) = u.2.2 85 k := fun k hk => by unfold rF; rw [nI_clamp hk]
  unfold fx_X12_isBefore_69
  simp only [gI_nI (show a < 30 by omega) (show 30 < 2 ^ 31 by decide), gI_nI (show b < 30 by omega) (show 30 < 2 ^ 31 by decide), rI_n (show a < 2 ^ 31 by omega), rI_n (show b < 2 ^ 31 by omega), (hR a ha).1, (hR b hb).1, fr a (by omega), fr b (by omega), (hR a ha).2, (hR b hb).2, gB_0, gB_1]
  rw [avF_cmp a1 a2 b1 b2, cmpI]
  have ex : Xc x a b = (apI x a).toInt * mxN x b - (apI x b).toInt * mxN x a := rfl
  by_cases e1 : rkN A x a = rkN A x b
  · rw [if_pos (show nI (rkN A x a) = nI (rkN A x b) by rw [e1])]
    by_cases e2 : Xc x a b = 0
    · rw [if_neg (show ¬ (apI x a).toInt * mxN x b < (apI x b).toInt * mxN x a by omega), if_pos (show (apI x a).toInt * mxN x b = (apI x b).toInt * mxN x a by omega), if_neg (show ¬ ¬ cmpValue (some Ordering.eq) CmpOp.l = 0 from fun q => q rfl), bef_3 e1 e2]
      by_cases e4 : a < b
      · rw [if_neg (nle2 (by omega) (by omega) e4), decide_eq_true e4]; rfl
      · rw [if_pos (le2 (by omega) (by omega) (by omega)), decide_eq_false e4]; rfl
    · rw [bef_2 e1 e2]
      by_cases e4 : 0 < Xc x a b
      · rw [if_neg (show ¬ (apI x a).toInt * mxN x b < (apI x b).toInt * mxN x a by omega), if_neg (show ¬ (apI x a).toInt * mxN x b = (apI x b).toInt * mxN x a by omega), decide_eq_true e4]; rfl
      · rw [if_pos (show (apI x a).toInt * mxN x b < (apI x b).toInt * mxN x a by omega), decide_eq_false e4]; rfl
  · rw [if_neg (fun q => e1 (nI_inj (by omega) (by omega) q)), bef_1 e1]
    by_cases e4 : rkN A x a < rkN A x b
    · rw [if_neg (nle2 (by omega) (by omega) e4), decide_eq_true e4]; rfl
    · rw [if_pos (le2 (by omega) (by omega) (by omega)), decide_eq_false e4]; rfl
def ordT (A : Ab) (x : llMem) (l i : Nat) : List Nat := (rowTo A l i).foldl (insR (bef A x)) []
def ordL (A : Ab) (x : llMem) (l : Nat) : List Nat := (rowOf A l).foldl (insR (bef A x)) []
theorem ordL_perm (A : Ab) (x : llMem) (l : Nat) : (ordL A x l).Perm (rowOf A l) := foldI_perm _ _ []
theorem ordL_len (A : Ab) (x : llMem) (l : Nat) : (ordL A x l).length = (rowOf A l).length := (ordL_perm A x l).length_eq
theorem ordL_mem {A : Ab} {x : llMem} {l c : Nat} : c ∈ ordL A x l ↔ c < A.nc ∧ (A.st c).map Prod.fst = some l := (ordL_perm A x l).mem_iff.trans row_mem
theorem foldI_len (lt : Nat → Nat → Bool) (R : List Nat) : (R.foldl (insR lt) []).length = R.length := (foldI_perm lt R []).length_eq
theorem pk_m1' {k : Nat} (h : 0 < k) : nI k - 1 = nI (k - 1) := by
  obtain ⟨j, rfl⟩ : ∃ j, k = j + 1 := ⟨k - 1, by omega⟩
  rw [nI_pred]; rfl
theorem pk_m1a {k : Nat} (h : 0 < k) : nI k + (-1) = nI (k - 1) := by
  obtain ⟨j, rfl⟩ : ∃ j, k = j + 1 := ⟨k - 1, by omega⟩
  rw [pk_m1]; rfl
theorem ix12 (a b : Nat) : (12 : Int32) * nI a + nI b = nI (12 * a + b) := by rw [show (12 : Int32) = nI 12 from rfl, pk_mul, nI_add]
/-- shifting: where a club is put in, the class -/
theorem sinkL_x {A : Ab} {x m u : llMem} {mc : Nat} {ml : Nat → Nat × Nat} (hp : IPyr A x m) (hs : ISea A x m mc ml) {L : List Nat} {c : Nat} (hc : c < A.nc) (hL : ∀ y, y ∈ L → y < A.nc) (h12 : L.length < 12) (uv : ∀ y, y ∈ c :: L → u.1 46 y = ptI x y ∧ u.1 45 y = nI (rkN A x y)) (u21 : u.1 21 = x.1 21) (u44 : ∀ j, j < L.length → u.1 44 j = nI (L.getD j 0)) :
    ∃ e, loop (fx_X8_sink_43_l9 (nI c)) llFuel (u, nI L.length) = some (e, nI (insP (bef A x) L c L.length)) ∧ Sm [44] u e ∧ ∀ j, e.1 44 j = if insP (bef A x) L c L.length < j ∧ j ≤ L.length then nI (L.getD (j - 1) 0) else u.1 44 j := by
  obtain ⟨⟨e1, e2⟩, h1, h2, h3, h4⟩ := loop_meas (body := fx_X8_sink_43_l9 (nI c)) (fun s => ∃ p, s.2 = nI p ∧ p ≤ L.length ∧ insP (bef A x) L c L.length = insP (bef A x) L c p ∧ Sm [44] u s.1 ∧ ∀ j, s.1.1 44 j = if p < j ∧ j ≤ L.length then nI (L.getD (j - 1) 0) else u.1 44 j) (fun s => s.2.toNatClampNeg) (fun e => e.2 = nI (insP (bef A x) L c L.length) ∧ Sm [44] u e.1 ∧ ∀ j, e.1.1 44 j = if insP (bef A x) L c L.length < j ∧ j ≤ L.length then nI (L.getD (j - 1) 0) else u.1 44 j) llFuel (u, nI L.length) ⟨L.length, rfl, Nat.le_refl _, rfl, Sm.refl _ _, fun j => by rw [if_neg (by omega)]⟩ (by
      rintro ⟨s, v⟩ ⟨p, hv, hpL, hI, f1, f2⟩
      dsimp only at hv f1 f2
      subst hv
      unfold fx_X8_sink_43_l9
      dsimp only
      by_cases e0 : p = 0
      · rw [if_pos (by rw [e0]; decide)]
        refine Or.inr ⟨_, rfl, ?_, f1, ?_⟩
        · rw [hI, e0]; rfl
        · intro j; rw [hI, f2 j, e0]; rfl
      · have hmem : L.getD (p - 1) 0 ∈ L := getD_in (by omega)
        have r1 : s.1 44 (p - 1) = nI (L.getD (p - 1) 0) := by rw [f2, if_neg (by omega), u44 _ (by omega)]
        have ah := isAheadO_x (u := s) hp hs hc (hL _ hmem) (by rw [(f1 46 (by decide)).1]; exact (uv c (by simp)).1) (by rw [(f1 46 (by decide)).1]; exact (uv _ (List.mem_cons_of_mem _ hmem)).1) (by rw [(f1 45 (by decide)).1]; exact (uv c (by simp)).2) (by rw [(f1 45 (by decide)).1]; exact (uv _ (List.mem_cons_of_mem _ hmem)).2) (by rw [(f1 21 (by decide)).1]; exact u21)
        have hi : insP (bef A x) L c p = if bef A x c (L.getD (p - 1) 0) then insP (bef A x) L c (p - 1) else p := by
          obtain ⟨q, rfl⟩ : ∃ q, p = q + 1 := ⟨p - 1, by omega⟩
          rfl
        rw [if_neg (nI_nle (by omega) (by omega)), pk_m1' (by omega), gI_nI (by omega) (by decide), rI_n (by omega), r1, ah, Option.bind_some]
        cases eb : bef A x c (L.getD (p - 1) 0)
        · rw [b01_f, if_pos rfl]
          rw [eb] at hi
          refine Or.inr ⟨_, rfl, ?_, f1, ?_⟩
          · rw [hI, hi]; rfl
          · intro j; rw [hI, hi, f2 j]; rfl
        · rw [eb] at hi
          rw [b01_t, if_neg one_ne, gI_nI (by omega) (by decide), gI_nI (by omega) (by decide), nI_clamp (by omega), pk_m1a (by omega)]
          simp only [lt_eq]
          refine Or.inl ⟨_, rfl, ⟨p - 1, rfl, by omega, by rw [hI, hi]; rfl, f1.trans (Sm.SI (by simp)), fun j => ?_⟩, ?_⟩
          · rw [SI_same]
            by_cases ej : j = p
            · subst ej
              rw [upd_same, if_pos (by omega)]
            · rw [upd_ne ej, f2 j]
              by_cases e5 : p < j ∧ j ≤ L.length
              · rw [if_pos e5, if_pos (by omega)]
              · rw [if_neg e5, if_neg (by omega)]
          · dsimp only
            rw [nI_clamp (by omega)]; omega) (by
      dsimp only
      rw [nI_clamp (by omega)]; exact llF (by omega))
  dsimp only at h2 h3 h4
  subst h2
  exact ⟨e1, h1, h3, h4⟩
/-- the reference -/
theorem sinkL_m {A : Ab} {x m u : llMem} {mc : Nat} {ml : Nat → Nat × Nat} (hp : IPyr A x m) (hs : ISea A x m mc ml) {L : List Nat} {c l : Nat} (hl : l < 4) (v2 : Int32) (hc : c < A.nc) (hL : ∀ y, y ∈ L → y < A.nc) (h12 : L.length < 12) (hR : ∀ c, c < A.nc → u.1 84 c = nI (rkN A x c) ∧ u.2.2 85 c = avF (apI x c) (nI (mxN x c))) (u86 : ∀ j, j < L.length → u.1 86 (12 * l + j) = nI (L.getD j 0)) :
    ∃ e, loop (fx_X12_laysOrders_69_l42_b18_b6 (nI l) v2 (nI c)) llFuel (u, nI L.length) = some (e, nI (insP (bef A x) L c L.length)) ∧ Sm [86] u e ∧ ∀ j, e.1 86 j = if 12 * l + insP (bef A x) L c L.length < j ∧ j ≤ 12 * l + L.length then nI (L.getD (j - 12 * l - 1) 0) else u.1 86 j := by
  obtain ⟨⟨e1, e2⟩, h1, h2, h3, h4⟩ := loop_meas (body := fx_X12_laysOrders_69_l42_b18_b6 (nI l) v2 (nI c)) (fun s => ∃ p, s.2 = nI p ∧ p ≤ L.length ∧ insP (bef A x) L c L.length = insP (bef A x) L c p ∧ Sm [86] u s.1 ∧ ∀ j, s.1.1 86 j = if 12 * l + p < j ∧ j ≤ 12 * l + L.length then nI (L.getD (j - 12 * l - 1) 0) else u.1 86 j) (fun s => s.2.toNatClampNeg) (fun e => e.2 = nI (insP (bef A x) L c L.length) ∧ Sm [86] u e.1 ∧ ∀ j, e.1.1 86 j = if 12 * l + insP (bef A x) L c L.length < j ∧ j ≤ 12 * l + L.length then nI (L.getD (j - 12 * l - 1) 0) else u.1 86 j) llFuel (u, nI L.length) ⟨L.length, rfl, Nat.le_refl _, rfl, Sm.refl _ _, fun j => by rw [if_neg (by omega)]⟩ (by
      rintro ⟨s, v⟩ ⟨p, hv, hpL, hI, f1, f2⟩
      dsimp only at hv f1 f2
      subst hv
      unfold fx_X12_laysOrders_69_l42_b18_b6
      dsimp only
      by_cases e0 : p = 0
      · rw [if_pos (by rw [e0]; decide)]
        refine Or.inr ⟨_, rfl, ?_, f1, ?_⟩
        · rw [hI, e0]; rfl
        · intro j; rw [hI, f2 j, e0]; rfl
      · have hmem : L.getD (p - 1) 0 ∈ L := getD_in (by omega)
        have r1 : s.1 86 (12 * l + p - 1) = nI (L.getD (p - 1) 0) := by rw [f2, if_neg (by omega), show 12 * l + p - 1 = 12 * l + (p - 1) by omega, u86 _ (by omega)]
        have ah := isBefore_m (u := s) hp hs hc (hL _ hmem) (fun k hk => by rw [(f1 84 (by decide)).1, (f1 85 (by decide)).2.2]; exact hR k hk)
        have hi : insP (bef A x) L c p = if bef A x c (L.getD (p - 1) 0) then insP (bef A x) L c (p - 1) else p := by
          obtain ⟨q, rfl⟩ : ∃ q, p = q + 1 := ⟨p - 1, by omega⟩
          rfl
        rw [if_neg (nI_nle (by omega) (by omega)), ix12, pk_m1' (by omega), gI_nI (by omega) (by decide), rI_n (by omega), r1, ah, Option.bind_some]
        cases eb : bef A x c (L.getD (p - 1) 0)
        · rw [b01_f, if_pos rfl]
          rw [eb] at hi
          refine Or.inr ⟨_, rfl, ?_, f1, ?_⟩
          · rw [hI, hi]; rfl
          · intro j; rw [hI, hi, f2 j]; rfl
        · rw [eb] at hi
          rw [b01_t, if_neg one_ne, gI_nI (by omega) (by decide), gI_nI (by omega) (by decide), nI_clamp (by omega), pk_m1a (by omega)]
          simp only [lt_eq]
          refine Or.inl ⟨_, rfl, ⟨p - 1, rfl, by omega, by rw [hI, hi]; rfl, f1.trans (Sm.SI (by simp)), fun j => ?_⟩, ?_⟩
          · rw [SI_same]
            by_cases ej : j = 12 * l + p
            · subst ej
              rw [upd_same, if_pos (by omega), show 12 * l + p - 12 * l - 1 = p - 1 by omega]
            · rw [upd_ne ej, f2 j]
              by_cases e5 : 12 * l + p < j ∧ j ≤ 12 * l + L.length
              · rw [if_pos e5, if_pos (by omega)]
              · rw [if_neg e5, if_neg (by omega)]
          · dsimp only
            rw [nI_clamp (by omega), nI_clamp (by omega)]; omega) (by
      dsimp only
      rw [nI_clamp (by omega)]; exact llF (by omega))
  dsimp only at h2 h3 h4
  subst h2
  exact ⟨e1, h1, h3, h4⟩
