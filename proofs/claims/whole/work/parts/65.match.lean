/-! a day's text, in step -/
def DyX (x0 x : llMem) : Prop := (∀ i, i ≠ 1 → i < 14 ∨ (17 < i ∧ i < 21) ∨ 25 < i → x.1 i = x0.1 i) ∧ x.1 14 0 = x0.1 14 0 ∧ ∀ i, i ≠ 1 → x.2.1 i = x0.2.1 i
def DyM (m0 m : llMem) : Prop := (∀ i, i ≠ 69 → i ≠ 80 → m.1 i = m0.1 i) ∧ (∀ i, i ≠ 69 → m.2.1 i = m0.2.1 i) ∧ ∀ k, k ∉ [19, 20, 21, 22, 23, 25, 26, 27, 29] → m.1 69 k = m0.1 69 k
def DyT (x m : llMem) (mc j : Nat) (ml : Nat → Nat × Nat) : Prop := m.1 69 29 = nI j ∧ ∀ i, i < j → m.1 80 (3 * i) = nI (ml (mc + i)).1 ∧ m.1 80 (3 * i + 1) = nI (ml (mc + i)).2 ∧ m.1 80 (3 * i + 2) = x.1 17 (30 * (ml (mc + i)).1 + (ml (mc + i)).2)
def DY (A : Ab) (x0 m0 x m : llMem) (mc j : Nat) (ml0 ml : Nat → Nat × Nat) : Prop := IMa A x (mc + j) ml ∧ ISu A x ∧ (∀ i, i < mc → ml i = ml0 i) ∧ (∀ i, i < mc → x.1 17 (30 * (ml0 i).1 + (ml0 i).2) = x0.1 17 (30 * (ml0 i).1 + (ml0 i).2)) ∧ DyT x m mc j ml ∧ DyX x0 x ∧ DyM m0 m
theorem DyX.of {x0 x x' : llMem} (h : DyX x0 x) (hx : SmF 1 kX x x') : DyX x0 x' := ⟨fun i h1 h2 => by rw [(hx.1 i h1).1]; exact h.1 i h1 h2, by rw [(hx.1 14 (by decide)).1]; exact h.2.1, fun i hi => by rw [(hx.1 i hi).2.1]; exact h.2.2 i hi⟩
theorem DyM.of {m0 m m' : llMem} (h : DyM m0 m) (hm : SmF 69 kM m m') : DyM m0 m' := ⟨fun i h1 h2 => by rw [(hm.1 i h1).1]; exact h.1 i h1 h2, fun i hi => by rw [(hm.1 i hi).2.1]; exact h.2.1 i hi, fun k hk => by
  rw [hm.2 k (by simp only [List.mem_cons, List.not_mem_nil, or_false] at hk ⊢; omega)]; exact h.2.2 k hk⟩
theorem DY.of {A : Ab} {x0 m0 x m x' m' : llMem} {mc j : Nat} {ml0 ml : Nat → Nat × Nat} (h : DY A x0 m0 x m mc j ml0 ml) (hx : SmF 1 kX x x') (hm : SmF 69 kM m m') : DY A x0 m0 x' m' mc j ml0 ml := by
  obtain ⟨h1, h2, h3, h4, ⟨h5, h6⟩, h7, h8⟩ := h
  have c : ∀ i, i ≠ 1 → x'.1 i = x.1 i := fun i hi => (hx.1 i hi).1
  refine ⟨h1.of (by rw [c 14 (by decide)]) (c 15 (by decide)) (c 16 (by decide)) (c 17 (by decide)), h2.of (fun i hi => c i (by omega)), h3, fun i hi => by rw [c 17 (by decide)]; exact h4 i hi, ⟨by rw [hm.2 29 (by decide)]; exact h5, fun i hi => ?_⟩, h7.of hx, h8.of hm⟩
  rw [(hm.1 80 (by decide)).1, c 17 (by decide)]
  exact h6 i hi
theorem DY.pyr {A : Ab} {x0 m0 x m : llMem} {mc j : Nat} {ml0 ml : Nat → Nat × Nat} (h : DY A x0 m0 x m mc j ml0 ml) (hp : IPyr A x0 m0) : IPyr A x m := by
  obtain ⟨_, _, _, _, _, h7, h8⟩ := h
  refine hp.of (fun c hc => ?_) (fun c hc => ?_) (h8.2.2 1 (by decide)) (h8.2.2 9 (by decide))
  · simp only [List.mem_cons, List.not_mem_nil, or_false] at hc
    exact ⟨h7.1 c (by omega) (by omega), h7.2.2 c (by omega)⟩
  · simp only [List.mem_cons, List.not_mem_nil, or_false] at hc
    exact ⟨h8.1 c (by omega) (by omega), h8.2.1 c (by omega)⟩
theorem clubHere_x {A : Ab} {x m : llMem} (hp : IPyr A x m) {t : Tk} (hC : CT x t) (ht : TkOk t) :
    (∀ w, t.2.2 = some (.inl w) → w.length ≤ 7 → w ∉ kws → fst1 (fun k => decide (A.ws k = w)) A.nc < A.nc → fx_X1_clubHere_42 x = some (x, nI (fst1 (fun k => decide (A.ws k = w)) A.nc))) ∧
    (∀ w, t.2.2 = some (.inl w) → w.length ≤ 7 → w ∉ kws → ¬ fst1 (fun k => decide (A.ws k = w)) A.nc < A.nc → ∃ x', fx_X1_clubHere_42 x = some (x', -1) ∧ SmF 1 kX x x' ∧ FX x' 2 t.1) ∧
    (¬ isNm t → ∃ x', fx_X1_clubHere_42 x = some (x', -1) ∧ SmF 1 kX x x' ∧ FX x' 1 t.1) := by
  have hn := hp.ncB
  obtain ⟨n1, n2⟩ := isName_x hC ht
  unfold fx_X1_clubHere_42
  refine ⟨fun w w1 w2 w3 hr => ?_, fun w w1 w2 w3 hr => ?_, fun hN => ?_⟩
  · rw [n1 ⟨w, w1, w2, w3⟩, Option.bind_some, if_pos one_ne, hC.word w1 w2, who_x hp rfl rfl (tok_okW ht w1 w2), Option.bind_some]
    unfold ixO
    rw [if_pos hr, if_pos (nI_nm1 (by omega))]
  · obtain ⟨x', e1, e2, e3⟩ := fail_x x 2 _ hC.1
    rw [n1 ⟨w, w1, w2, w3⟩, Option.bind_some, if_pos one_ne, hC.word w1 w2, who_x hp rfl rfl (tok_okW ht w1 w2), Option.bind_some]
    unfold ixO
    rw [if_neg hr, if_neg (fun q => q rfl), e1, bd_mk]
    exact ⟨x', rfl, e2.mono (by simp), e3⟩
  · obtain ⟨x', e1, e2, e3⟩ := fail_x x 1 _ hC.1
    rw [n2 hN, Option.bind_some, if_neg (fun q => q rfl), e1, bd_mk]
    exact ⟨x', rfl, e2.mono (by simp), e3⟩
/-- is a match one of this day's -/
theorem toldL_m {x m : llMem} {mc j : Nat} {ml : Nat → Nat × Nat} (hT : DyT x m mc j ml) (hj : j ≤ 119) (hb : ∀ i, i < j → (ml (mc + i)).1 < 30 ∧ (ml (mc + i)).2 < 30) {h a : Nat} (hh : h < 30) (ha : a < 30) (v2 v3 : Int32) : loop (fx_X12_readMatch_69_l170 m (nI h) v2 v3 (nI a)) llFuel (1, 0) = some (if memF (fun i => kf ml (mc + i)) (30 * h + a) j then 0 else 1) := by
  obtain ⟨t1, t2⟩ := hT
  have i3 : ∀ i, (3 : Int32) * nI i = nI (3 * i) := fun i => pk_mul 3 i
  refine loop_run0 (fun i => (if memF (fun i => kf ml (mc + i)) (30 * h + a) i then 0 else 1, nI i)) _ j llFuel rfl ?_ ?_ (llF (by omega))
  · intro i hi
    obtain ⟨q1, q2, q3⟩ := t2 i hi
    obtain ⟨b1, b2⟩ := hb i hi
    have st : memF (fun i => kf ml (mc + i)) (30 * h + a) (i + 1) = (memF (fun i => kf ml (mc + i)) (30 * h + a) i || decide (kf ml (mc + i) = 30 * h + a)) := rfl
    unfold fx_X12_readMatch_69_l170 fx_X12_readMatch_69_j217_b170 fx_X12_readMatch_69_j213_b170 fx_X12_readMatch_69_j218_b170
    dsimp only
    rw [t1, if_neg (nle2 (by omega) (by omega) hi), i3, nI_1 (3 * i), gI_nI (by omega) (by decide), gI_nI (by omega) (by decide), rI_n (by omega), rI_n (by omega), q1, q2, st]
    simp only [lt_eq, nI_1]
    cases memF (fun i => kf ml (mc + i)) (30 * h + a) i
    · simp only [Bool.false_eq_true, if_false, Bool.false_or]
      rw [if_neg one_ne]
      by_cases e1 : (ml (mc + i)).1 = h
      · rw [if_neg (fun q => q (by rw [e1]))]
        by_cases e2 : (ml (mc + i)).2 = a
        · rw [if_pos (by rw [e2]), decide_eq_true (by unfold kf; omega)]; rfl
        · rw [if_neg (fun q => e2 (nI_inj (by omega) (by omega) q)), decide_eq_false (by unfold kf; omega)]; rfl
      · rw [if_pos (fun q => e1 (nI_inj (by omega) (by omega) q)), decide_eq_false (by unfold kf; omega)]; rfl
    · simp only [if_true, Bool.true_or]
  · unfold fx_X12_readMatch_69_l170
    dsimp only
    rw [t1, if_pos (le2 (by omega) (by omega) (Nat.le_refl _))]
theorem toldL_0 (m : llMem) (v1 v2 v3 v4 : Int32) {j : Nat} (h : m.1 69 29 = nI j) (hj : j ≤ 119) : loop (fx_X12_readMatch_69_l170 m v1 v2 v3 v4) llFuel (0, 0) = some 0 := by
  refine loop_run0 (fun i => (0, nI i)) _ j llFuel rfl ?_ ?_ (llF (by omega))
  · intro i hi
    unfold fx_X12_readMatch_69_l170 fx_X12_readMatch_69_j217_b170 fx_X12_readMatch_69_j218_b170
    dsimp only
    rw [h, if_neg (nle2 (by omega) (by omega) hi), if_pos rfl]
    simp only [lt_eq, nI_1]
  · unfold fx_X12_readMatch_69_l170
    dsimp only
    rw [h, if_pos (le2 (by omega) (by omega) (Nat.le_refl _))]
set_option maxHeartbeats 2000000 in
theorem match_L {A : Ab} {x0 m0 x m : llMem} {bb : Nat → Nat} {n p0 mc j : Nat} {ml0 ml : Nat → Nat × Nat} (hp0 : IPyr A x0 m0) (hN0 : ∀ k, k < 900 → m0.1 77 (120 + k) = x0.1 17 k) (hM0 : IMa A x0 mc ml0) (hD : DY A x0 m0 x m mc j ml0 ml) (hj : 6 * j ≤ p0) (hT : TX x bb n) (hTM : TM m bb n) (hpn : p0 ≤ n) (hC0 : CT x (tok bb n p0)) (hMT : MT m (tok bb n p0)) (h0 : m.1 69 19 = 0) (h7 : x.1 1 7 = 0) (h8 : x.1 1 8 = -1) (h20 : m.1 69 20 = -1) (hne : (tok bb n p0).2.2 ≠ none) :
    (∃ x' m' p' ml', fx_X1_readMatch_42 x = some (x', 1) ∧ fx_X12_readMatch_69 m = some (m', 1) ∧ DY A x0 m0 x' m' mc (j + 1) ml0 ml' ∧ RR x' m' bb n p' ∧ p0 + 6 ≤ p') ∨
    (∃ x' m', fx_X1_readMatch_42 x = some (x', 0) ∧ fx_X12_readMatch_69 m = some (m', 0) ∧ DY A x0 m0 x' m' mc j ml0 ml ∧ BB x' m') := by
  have hp := hD.pyr hp0
  have hn := hp.ncB
  have hn700 := hT.1
  have hd := tokD hT hpn
  have hpos := hd.2.2.2 hne
  generalize hC : fx_X1_readMatch_42 x = C
  generalize hM : fx_X12_readMatch_69 m = M
  unfold fx_X1_readMatch_42 at hC
  unfold fx_X12_readMatch_69 at hM
  obtain ⟨c1, c2, c3⟩ := clubHere_x hp hC0 hd.1
  obtain ⟨o1, o2⟩ := isName_m hMT hd.1
  rcases isNm_dec (tok bb n p0) with hN | hN
  case inr =>
    obtain ⟨x1, e1, e2, e3⟩ := c3 hN
    obtain ⟨m1, f1, f2, f3⟩ := fails_m m 1 _ hMT.1 h0
    rw [e1, bd_mk, if_neg (fun q => q rfl), gB_0] at hC
    rw [o2 hN, Option.bind_some, if_neg (fun q => q rfl), f1, bd_mk, gB_0] at hM
    exact Or.inr ⟨x1, m1, hC.symm, hM.symm, hD.of e2 (f2.mono (by simp)), 1, _, by decide, e3, f3⟩
  obtain ⟨w, w1, w2, w3⟩ := id hN
  have ow := tok_okW hd.1 w1 w2
  have c1' := c1 w w1 w2 w3
  have c2' := c2 w w1 w2 w3
  rw [o1 hN, Option.bind_some, if_pos one_ne, hMT.word w1 w2, hp.m9, who_m hp rfl ow, Option.bind_some] at hM
  generalize hh0 : fst1 (fun k => decide (A.ws k = w)) A.nc = h at c1' c2' hM
  by_cases hh : h < A.nc
  case neg =>
    obtain ⟨x1, e1, e2, e3⟩ := c2' hh
    obtain ⟨m1, f1, f2, f3⟩ := fails_m m 2 _ hMT.1 h0
    rw [e1, bd_mk, if_neg (fun q => q rfl), gB_0] at hC
    unfold ixO at hM
    rw [if_neg hh, if_neg (fun q => q rfl), f1, bd_mk, gB_0] at hM
    exact Or.inr ⟨x1, m1, hC.symm, hM.symm, hD.of e2 (f2.mono (by simp)), 2, _, by decide, e3, f3⟩
  clear c1 c2 c3 c2'
  obtain ⟨m1, g1, g2, g3⟩ := next_m m bb n (tok bb n p0).2.1 hTM hd.2.2.1 hMT.2.1
  have S1 : SmF 69 kM m m1 := g2.mono (by simp)
  have R1 : RR x m1 bb n (tok bb n p0).2.1 := ⟨hT, hTM.of g2 (by decide), hd.2.2.1, hC0.at, g3, by rw [g2.2 19 (by decide)]; exact h0, h7, h8, by rw [g2.2 20 (by decide)]; exact h20⟩
  have D1 := hD.of (SmF.refl 1 kX x) S1
  rw [c1' hh, bd_mk, if_pos (nI_nm1 (by omega))] at hC
  unfold ixO at hM
  rw [if_pos hh, if_pos (nI_nm1 (by omega)), g1, bd_mk] at hM
  generalize hp1 : (tok bb n p0).2.1 = p1 at *
  -- goals
  rcases num_L R1 0 99 with ⟨g, x2, m2, v1, v2, v3, v4, e1, f1, f2, e2, f3, R2, _⟩ | ⟨x2, m2, e1, f1, e2, f2, B2⟩
  case inr =>
    rw [e1, bd_mk, if_pos rfl, gB_0] at hC
    rw [f1, bd_mk, if_neg (fun q => q rfl), gB_0] at hM
    exact Or.inr ⟨x2, m2, hC.symm, hM.symm, D1.of e2 f2, B2⟩
  have D2 := D1.of e2 f3
  have hg : g ≤ 99 := numU 99 v1 (by decide) v3
  have q1 : p1 < (tok bb n p1).2.1 := by
    have d := tokD R1.1 R1.2.2.1
    have := d.2.2.2 (by rw [v4.1]; simp)
    omega
  rw [e1, bd_mk, if_neg (nI_nm1 (by omega))] at hC
  rw [f1, bd_mk, if_pos one_ne, lt_eq, f2] at hM
  clear f2
  generalize hp2 : (tok bb n p1).2.1 = p2 at *
  rcases sign_L R2 (k := 45) (by decide) (z := 45) rfl with ⟨x3, m3, v5, e3, f4, e4, f5, R3⟩ | ⟨x3, m3, e3, f4, e4, f5, B3⟩
  case inr =>
    rw [e3, bd_mk, if_neg (fun q => q rfl), gB_0] at hC
    rw [f4, bd_mk, if_pos rfl, gB_0] at hM
    exact Or.inr ⟨x3, m3, hC.symm, hM.symm, D2.of e4 f5, B3⟩
  have D3 := D2.of e4 f5
  have q2 : p2 < (tok bb n p2).2.1 := by
    have d := tokD R2.1 R2.2.2.1
    have := d.2.2.2 (by rw [v5]; simp)
    omega
  rw [e3, bd_mk, if_pos one_ne] at hC
  rw [f4, bd_mk, if_neg one_ne] at hM
  generalize hp3 : (tok bb n p2).2.1 = p3 at *
  rcases num_L R3 0 99 with ⟨t, x4, m4, v6, v7, v8, v9, e5, f6, f7, e6, f8, R4, _⟩ | ⟨x4, m4, e5, f6, e6, f7, B4⟩
  case inr =>
    rw [e5, bd_mk, if_neg (fun q => q rfl), gB_0] at hC
    rw [f6, bd_mk, if_neg (fun q => q rfl), gB_0] at hM
    exact Or.inr ⟨x4, m4, hC.symm, hM.symm, D3.of e6 f7, B4⟩
  have D4 := D3.of e6 f8
  have ht : t ≤ 99 := numU 99 v6 (by decide) v8
  have q3 : p3 < (tok bb n p3).2.1 := by
    have d := tokD R3.1 R3.2.2.1
    have := d.2.2.2 (by rw [v9.1]; simp)
    omega
  rw [e5, bd_mk, if_pos (nI_nm1 (by omega))] at hC
  rw [f6, bd_mk, if_pos one_ne, lt_eq, f7] at hM
  clear f7
  generalize hp4 : (tok bb n p3).2.1 = p4 at *
  -- the second name
  obtain ⟨k1, k2, k3, k4, k5, k6, k7, k8, k9⟩ := R4
  have hd4 := tokD k1 k3
  obtain ⟨x5, a1, a2, a3⟩ := next_x x4 bb n p4 k1 k3 k4
  have a2' : SmF 1 kX x4 x5 := a2.mono (by simp)
  have D5 := D4.of a2' (SmF.refl 69 kM m4)
  have hp5 := D5.pyr hp0
  rw [a1, bd_mk] at hC
  obtain ⟨c1, c2, c3⟩ := clubHere_x hp5 a3 hd4.1
  obtain ⟨o1, o2⟩ := isName_m k5 hd4.1
  rcases isNm_dec (tok bb n p4) with hN2 | hN2
  case inr =>
    obtain ⟨x6, e1, e2, e3⟩ := c3 hN2
    obtain ⟨m5, f1, f2, f3⟩ := fails_m m4 1 _ k5.1 k6
    rw [e1, bd_mk, if_neg (fun q => q rfl), gB_0] at hC
    rw [o2 hN2, Option.bind_some, if_neg (fun q => q rfl), f1, bd_mk, gB_0] at hM
    exact Or.inr ⟨x6, m5, hC.symm, hM.symm, D5.of e2 (f2.mono (by simp)), 1, _, by decide, e3, f3⟩
  obtain ⟨z, z1, z2, z3⟩ := id hN2
  have oz := tok_okW hd4.1 z1 z2
  have q4 : p4 < (tok bb n p4).2.1 := by
    have := hd4.2.2.2 (by rw [z1]; simp)
    omega
  have c1' := c1 z z1 z2 z3
  have c2' := c2 z z1 z2 z3
  rw [o1 hN2, Option.bind_some, if_pos one_ne, k5.word z1 z2, hp5.m9, who_m hp5 rfl oz, Option.bind_some] at hM
  generalize ha0 : fst1 (fun k => decide (A.ws k = z)) A.nc = a at c1' c2' hM
  by_cases ha : a < A.nc
  case neg =>
    obtain ⟨x6, e1, e2, e3⟩ := c2' ha
    obtain ⟨m5, f1, f2, f3⟩ := fails_m m4 2 _ k5.1 k6
    rw [e1, bd_mk, if_neg (fun q => q rfl), gB_0] at hC
    unfold ixO at hM
    rw [if_neg ha, if_neg (fun q => q rfl), f1, bd_mk, gB_0] at hM
    exact Or.inr ⟨x6, m5, hC.symm, hM.symm, D5.of e2 (f2.mono (by simp)), 2, _, by decide, e3, f3⟩
  clear c1 c2 c3 c2'
  rw [c1' ha, bd_mk, if_pos (nI_nm1 (by omega)), together_x hp5 hh ha, isTold_x (by omega) (by omega)] at hC
  unfold ixO at hM
  rw [if_pos ha, if_pos (nI_nm1 (by omega)), together_m hp5 hh ha, ix120, gI_nI (by omega) (by decide), rI_n (by omega), D5.2.2.2.2.2.2.1 77 (by decide) (by decide), hN0 _ (by omega)] at hM
  simp only [Option.bind_some] at hC hM
  have hj119 : j ≤ 116 := by omega
  have hIM := D5.1
  have bnd : ∀ i, i < j → (ml (mc + i)).1 < 30 ∧ (ml (mc + i)).2 < 30 := fun i hi => by
    obtain ⟨_, _, b3, b4, _⟩ := hIM.2.2.1 (mc + i) (by omega)
    exact ⟨by omega, by omega⟩
  have bad : fx_X1_readMatch_42_j113 x5 = C → fx_X12_readMatch_69_j165 m4 (nI h) (nI g) (nI t) (nI a) 0 = M → (∃ x' m', C = some (x', 0) ∧ M = some (m', 0) ∧ DY A x0 m0 x' m' mc j ml0 ml ∧ BB x' m') := by
    intro q5 q6
    obtain ⟨x6, e1, e2, e3⟩ := fail_x x5 4 _ a3.1
    obtain ⟨m5, f1, f2, f3⟩ := fails_m m4 4 _ k5.1 k6
    unfold fx_X1_readMatch_42_j113 at q5
    unfold fx_X12_readMatch_69_j165 at q6
    rw [e1, bd_mk, gB_0] at q5
    rw [toldL_0 m4 _ _ _ _ D5.2.2.2.2.1.1 (by omega), Option.bind_some, if_neg (fun q => q rfl), f1, bd_mk, gB_0] at q6
    exact ⟨x6, m5, q5.symm, q6.symm, D5.of (e2.mono (by simp)) (f2.mono (by simp)), 4, _, by decide, e3, f3⟩
  by_cases b1 : h = a
  · rw [if_pos (by rw [b1])] at hC hM
    exact Or.inr (bad hC hM)
  rw [if_neg (fun q => b1 (nI_inj (by omega) (by omega) q))] at hC hM
  by_cases b2 : (A.st h).isSome ∧ A.st h = A.st a
  case neg =>
    rw [if_neg b2, if_pos rfl] at hC hM
    exact Or.inr (bad hC hM)
  rw [if_pos b2, if_neg one_ne] at hC hM
  -- told already?
  have kx := kf_mem (m := m4) hn hIM (a := h) (b := a) (by omega) (by omega)
  have k0 := kf_mem (m := m4) hn hM0 (a := h) (b := a) (by omega) (by omega)
  have mm : memF (kf ml) (30 * h + a) (mc + j) = true ↔ memF (kf ml0) (30 * h + a) mc = true ∨ memF (fun i => kf ml (mc + i)) (30 * h + a) j = true := by
    rw [memF_iff, memF_iff, memF_iff]
    constructor
    · rintro ⟨i, i1, i2⟩
      by_cases e : i < mc
      · refine Or.inl ⟨i, e, ?_⟩
        rw [← i2]; unfold kf; rw [D5.2.2.1 i e]
      · refine Or.inr ⟨i - mc, by omega, ?_⟩
        show kf ml (mc + (i - mc)) = _
        rw [show mc + (i - mc) = i by omega]; exact i2
    · rintro (⟨i, i1, i2⟩ | ⟨i, i1, i2⟩)
      · refine ⟨i, by omega, ?_⟩
        rw [← i2]; unfold kf; rw [D5.2.2.1 i i1]
      · exact ⟨mc + i, by omega, i2⟩
  by_cases b3 : x5.1 17 (30 * h + a) = -1
  case neg =>
    rw [if_neg b3, if_neg one_ne] at hC
    rcases mm.mp (kx.mpr b3) with q | q
    · rw [if_pos (k0.mp q)] at hM
      exact Or.inr (bad hC hM)
    · by_cases b4 : x0.1 17 (30 * h + a) = -1
      · rw [if_neg (fun r => r b4)] at hM
        refine Or.inr (bad hC ?_)
        rw [← hM]
        unfold fx_X12_readMatch_69_j165
        rw [toldL_m D5.2.2.2.2.1 (by omega) bnd (by omega) (by omega), toldL_0 m4 _ _ _ _ D5.2.2.2.2.1.1 (by omega), if_pos q]
      · rw [if_pos b4] at hM
        exact Or.inr (bad hC hM)
  have no1 : memF (fun i => kf ml (mc + i)) (30 * h + a) j = false := by
    cases e : memF (fun i => kf ml (mc + i)) (30 * h + a) j with
    | false => rfl
    | true => exact absurd b3 (kx.mp (mm.mpr (Or.inr e)))
  have no2 : x0.1 17 (30 * h + a) = -1 := Classical.byContradiction (fun q => (kx.mp (mm.mpr (Or.inl (k0.mpr q)))) b3)
  rw [if_pos b3, if_pos rfl] at hC
  rw [if_neg (fun r => r no2)] at hM
  unfold fx_X12_readMatch_69_j165 at hM
  rw [toldL_m D5.2.2.2.2.1 (by omega) bnd (by omega) (by omega), no1, Option.bind_some, if_neg (show ¬ false = true by decide), if_pos one_ne] at hM
  obtain ⟨m5, j1, j2, j3⟩ := next_m m4 bb n (tok bb n p4).2.1 k2 hd4.2.2.1 k5.2.1
  have S5 : SmF 69 kM m4 m5 := j2.mono (by simp)
  have D6 := D5.of (SmF.refl 1 kX x5) S5
  have R5 : RR x5 m5 bb n (tok bb n p4).2.1 := ⟨k1.of a2 (by decide), k2.of j2 (by decide), hd4.2.2.1, a3.at, j3, by rw [j2.2 19 (by decide)]; exact k6, by rw [a2.2 7 (by decide)]; exact k7, by rw [a2.2 8 (by decide)]; exact k8, by rw [j2.2 20 (by decide)]; exact k9⟩
  have i3 : (3 : Int32) * nI j = nI (3 * j) := pk_mul 3 j
  have i5 : (5 : Nat) = 5 := rfl
  have e29 : m5.1 69 29 = nI j := D6.2.2.2.2.1.1
  have es : (100 : Int32) * nI g + nI t = nI (100 * g + t) := by rw [show (100 : Int32) = nI 100 from rfl, pk_mul, nI_add]
  rw [j1, bd_mk] at hM
  simp only [lt_eq, SI_ne (show 69 ≠ 80 by decide), e29, i3, nI_1, show nI (3 * j) + 2 = nI (3 * j + 2) from nI_add (3 * j) 2, gI_nI (show 3 * j < 360 by omega) (show 360 < 2 ^ 31 by decide), gI_nI (show 3 * j + 1 < 360 by omega) (show 360 < 2 ^ 31 by decide), gI_nI (show 3 * j + 2 < 360 by omega) (show 360 < 2 ^ 31 by decide), nI_clamp (show 3 * j < 2 ^ 31 by omega), nI_clamp (show 3 * j + 1 < 2 ^ 31 by omega), nI_clamp (show 3 * j + 2 < 2 ^ 31 by omega), es] at hM
  generalize hp5' : (tok bb n p4).2.1 = p5 at *
  have R6 : RR x5 (llSI (llSI (llSI m5 80 (3 * j) (nI h)) 80 (3 * j + 1) (nI a)) 80 (3 * j + 2) (nI (100 * g + t))) bb n p5 := ((R5.wm (by decide) (by decide)).wm (by decide) (by decide)).wm (by decide) (by decide)
  have D7 : DY A x0 m0 x5 (llSI (llSI (llSI m5 80 (3 * j) (nI h)) 80 (3 * j + 1) (nI a)) 80 (3 * j + 2) (nI (100 * g + t))) mc j ml0 ml := by
    obtain ⟨r1, r2, r3, r4, ⟨r5, r6⟩, r7, r8⟩ := D6
    refine ⟨r1, r2, r3, r4, ⟨by rw [SI_ne (by decide), SI_ne (by decide), SI_ne (by decide)]; exact r5, fun i hi => ?_⟩, r7, fun i s1 s2 => ?_, fun i s1 => r8.2.1 i s1, fun k hk => ?_⟩
    · rw [SI_at (by omega), SI_at (by omega), SI_at (by omega), SI_at (by omega), SI_at (by omega), SI_at (by omega), SI_at (by omega), SI_at (by omega), SI_at (by omega)]
      exact r6 i hi
    · rw [SI_ne s2, SI_ne s2, SI_ne s2]; exact r8.1 i s1 s2
    · rw [SI_ne (by decide), SI_ne (by decide), SI_ne (by decide)]; exact r8.2.2 k hk
  have w80 : (llSI (llSI (llSI m5 80 (3 * j) (nI h)) 80 (3 * j + 1) (nI a)) 80 (3 * j + 2) (nI (100 * g + t))).1 80 (3 * j) = nI h ∧ (llSI (llSI (llSI m5 80 (3 * j) (nI h)) 80 (3 * j + 1) (nI a)) 80 (3 * j + 2) (nI (100 * g + t))).1 80 (3 * j + 1) = nI a ∧ (llSI (llSI (llSI m5 80 (3 * j) (nI h)) 80 (3 * j + 1) (nI a)) 80 (3 * j + 2) (nI (100 * g + t))).1 80 (3 * j + 2) = nI (100 * g + t) := by
    refine ⟨?_, ?_, ?_⟩
    · rw [SI_at (by omega), SI_at (by omega), SI_same, upd_same]
    · rw [SI_at (by omega), SI_same, upd_same]
    · rw [SI_same, upd_same]
  generalize llSI (llSI (llSI m5 80 (3 * j) (nI h)) 80 (3 * j + 1) (nI a)) 80 (3 * j + 2) (nI (100 * g + t)) = m6 at *
  rcases sign_L R6 (k := 59) (by decide) (z := 59) rfl with ⟨x7, m7, u1, e7, f9, e8, f10, R7⟩ | ⟨x7, m7, e7, f9, e8, f10, B7⟩
  case inr =>
    rw [e7, bd_mk, if_neg (fun q => q rfl), gB_0] at hC
    rw [f9, bd_mk, if_neg (fun q => q rfl), gB_0] at hM
    exact Or.inr ⟨x7, m7, hC.symm, hM.symm, D7.of e8 f10, B7⟩
  have D8 := D7.of e8 f10
  have q5 : p5 < (tok bb n p5).2.1 := by
    have d := tokD R6.1 R6.2.2.1
    have := d.2.2.2 (by rw [u1]; simp)
    omega
  have x17 : x7.1 17 = x5.1 17 := (e8.1 17 (by decide)).1
  have hp7 := D8.pyr hp0
  have pr : Prs A (upF ml (mc + j) (h, a)) (mc + j + 1) := by
    have pm := D8.1.prs
    have new : ∀ i, i < mc + j → ml i ≠ (h, a) := fun i hi e => (kx.mp ((memF_iff _).mpr ⟨i, hi, by unfold kf; rw [e]⟩)) b3
    refine ⟨fun i hi => ?_, fun i i' hi hi' e => ?_⟩
    · by_cases e : i = mc + j
      · subst e; rw [upF_same]; exact ⟨hh, ha, b1, b2.1, b2.2⟩
      · rw [upF_ne e]; exact pm.1 i (by omega)
    · by_cases e1 : i = mc + j
      · by_cases e2 : i' = mc + j
        · omega
        · rw [e1, upF_same, upF_ne e2] at e
          exact absurd e.symm (new i' (by omega))
      · by_cases e2 : i' = mc + j
        · rw [e2, upF_same, upF_ne e1] at e
          exact absurd e (new i (by omega))
        · rw [upF_ne e1, upF_ne e2] at e
          exact pm.2 i i' (by omega) (by omega) e
  have h150 := pr.le hp7
  obtain ⟨x8, y1, y2⟩ := tell_x hn (by omega) D8.1.2.1 D8.2.1 hh ha b1 hg ht (by rw [x17]; exact b3)
  obtain ⟨y3, y4, y5⟩ := D8.1.tell hp7 y2 hh ha b1 b2.1 b2.2 hg ht (by rw [x17]; exact b3)
  rw [e7, bd_mk, if_pos one_ne, y1, bd_mk, gB_1] at hC
  rw [f9, bd_mk, if_pos one_ne, gB_1, D8.2.2.2.2.1.1, nI_1] at hM
  refine Or.inl ⟨x8, llSI m7 69 29 (nI (j + 1)), (tok bb n p5).2.1, upF ml (mc + j) (h, a), hC.symm, hM.symm, ?_, ?_, by omega⟩
  · obtain ⟨r1, r2, r3, r4, ⟨r5, r6⟩, r7, r8⟩ := D8
    refine ⟨y3, y2.2.2.2.2.2.2.2, fun i hi => by rw [y4 i (by omega)]; exact r3 i hi, fun i hi => ?_, ⟨by rw [SI_same, upd_same], fun i hi => ?_⟩, ⟨fun i s1 s2 => by rw [y2.1 i s2]; exact r7.1 i s1 s2, by rw [y2.2.1]; exact r7.2.1, fun i hi => by rw [y2.2.2.1]; exact r7.2.2 i hi⟩, fun i s1 s2 => by rw [SI_ne s1]; exact r8.1 i s1 s2, fun i s1 => r8.2.1 i s1, fun k hk => ?_⟩
    · have := y5 i (by omega)
      rw [r3 i hi] at this
      rw [this]; exact r4 i hi
    · rw [SI_ne (by decide)]
      by_cases e : i = j
      · subst e
        rw [upF_same, (f10.1 80 (by decide)).1, w80.1, w80.2.1, w80.2.2, y2.2.2.2.2.2.2.1, upd_same]
        exact ⟨rfl, rfl, rfl⟩
      · have := y5 (mc + i) (by omega)
        rw [upF_ne (by omega), this]
        exact r6 i (by omega)
    · simp only [List.mem_cons, List.not_mem_nil, or_false] at hk
      rw [SI_at (by omega)]
      exact r8.2.2 k (by simp only [List.mem_cons, List.not_mem_nil, or_false]; omega)
  · exact (R7.xc (by rw [y2.1 1 (by decide)]) (by rw [y2.1 2 (by decide)])).m69 (by decide)
