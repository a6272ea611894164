set_option maxHeartbeats 1000000 in
/-- a new pyramid -/
theorem new_pyr {A : Ab} {x m x' m' : llMem} {mc : Nat} {ml : Nat → Nat × Nat} {k : Nat} {cj : Nat → Nat} (h : InvA A x m mc ml k cj) (hX : FrX x x') (hM : FrM m m') {nl nc : Nat} {dv sz dn nd cx cy gr : Nat → Nat} {ws : Nat → List Nat} {st : Nat → Option (Nat × Nat)} (hD : DR x' m' nl nc dv sz dn nd cx cy gr ws st) (hF : FullSt nl nc dv sz st) (h19 : m'.1 69 19 = 0) (h20 : m'.1 69 20 = -1) (h17 : x'.1 1 7 = 0) (h18 : x'.1 1 8 = -1) :
    ∃ xf mf, bd (fx_X5_copy_3_31 (llSI x' 1 1 0)) (fun u4 _ => bd (fx_X10_measure_48 u4 ) (fun u5 _ => bd (fx_X4_forgetAll_52 u5 ) (fun u6 _ => bd (fx_X7_begin_14 u6 ) (fun u7 _ => lt (llSI u7 14 0 0) (fun u8 => lt (llSI u8 26 2 0) (fun u9 => some (u9, u9.1 3 5))))))) = some (xf, nI nc) ∧
      lt (llSI (rdM m') 69 1 ((rdM m').1 69 2)) (fun u16 => lt (llSI u16 69 9 (u16.1 69 10)) (fun u17 => lt (llSI u17 69 11 0) (fun u18 => (loop (fx_X12_pyramid_69_l160) llFuel (u18, 0)).bind (fun e21 => (loop (fx_X12_pyramid_69_l189) llFuel (e21, 0)).bind (fun e29 => bd (fx_X12_starts_69 e29 ) (fun u30 _ => some (u30, u30.1 69 9))))))) = some (mf, nI nc) ∧ Inv xf mf ∧ OX x xf ∧ OM m mf := by
  obtain ⟨i1, i2, i3, i4, i5, i6, i7, i8⟩ := h
  obtain ⟨⟨d1, d2, d3, d4⟩, ⟨e1, e2, e3, e4⟩, -⟩ := hD
  have hnA := i1.2.2.2.2.1
  have xx : ∀ c, c ≠ 1 → c < 31 ∨ 41 < c → (llSI x' 1 1 0).1 c = x.1 c ∧ (llSI x' 1 1 0).2.1 c = x.2.1 c := fun c h1 hc => by
    have := hX.1 c (by simp only [List.mem_cons, List.not_mem_nil, or_false]; omega)
    exact ⟨by rw [SI_ne h1]; exact this.1, this.2.1⟩
  have xd : ∀ c, c ≠ 1 → (llSI x' 1 1 0).1 c = x'.1 c := fun c h1 => SI_ne h1
  obtain ⟨u4, a1, a2, a3, a4, a5, a6⟩ := copy_x (llSI x' 1 1 0)
  obtain ⟨u5, b1, b2, b3, b4⟩ := measure_x (x := u4) (nc := nc) (cx := cx) (cy := cy) e1 (by rw [a4, xd 31 (by decide)]; exact e2) (fun c hc => by
    have := a6 c (by omega)
    have q := e4 c hc
    rw [this.2.1, this.2.2.1, xd 37 (by decide), xd 38 (by decide)]
    exact ⟨q.2.2.2.1, q.2.2.2.2.1, q.2.2.2.2.2.2.2.2.2.1, q.2.2.2.2.2.2.2.2.2.2.1⟩)
  obtain ⟨u6, c1, c2, c3, c4, c5⟩ := fill_53 u5 0
  have x6 : ∀ c, 13 < c → c ≠ 49 → c ≠ 53 → c < 31 ∨ 41 < c → u6.1 c = x.1 c ∧ u6.2.1 c = x.2.1 c := fun c g1 g2 g3 g4 => by
    refine ⟨?_, ?_⟩
    · rw [c2 c g3, b2 c g2, (a2 c (by omega)).1]; exact (xx c (by omega) g4).1
    · rw [c3, b3, (a2 c (by omega)).2]; exact (xx c (by omega) g4).2
  have c6 : ∀ c, c ∈ [15, 16, 17, 21, 22, 23, 24, 25] → u6.1 c = x.1 c := fun c hc => by
    simp only [List.mem_cons, List.not_mem_nil, or_false] at hc
    exact (x6 c (by omega) (by omega) (by omega) (by omega)).1
  have hIM : IMa A u6 mc ml := by
    have := i2.2.2.1
    unfold IMa at this ⊢
    rw [c6 15 (by simp), c6 16 (by simp), c6 17 (by simp), (x6 14 (by decide) (by decide) (by decide) (by decide)).1]
    exact this
  have hIS : ISu A u6 := by
    have := i2.2.2.2
    unfold ISu at this ⊢
    rw [c6 17 (by simp), c6 21 (by simp), c6 22 (by simp), c6 23 (by simp), c6 24 (by simp), c6 25 (by simp)]
    exact this
  obtain ⟨u7, f1, f2, f3, f4, f5, f6, f7, f8⟩ := begin_x hnA hIM hIS
  -- the reference
  have n2 : (rdM m').1 69 2 = nI nl := by rw [rdM_k (by decide)]; exact d3
  have n10 : (llSI (rdM m') 69 1 (nI nl)).1 69 10 = nI nc := by rw [SI_at (by decide), rdM_k (by decide)]; exact e3
  have w1 : (llSI (llSI (llSI (rdM m') 69 1 (nI nl)) 69 9 (nI nc)) 69 11 0).1 69 1 = nI nl := by rw [SI_at (by decide), SI_at (by decide), SI_same, upd_same]
  have w9 : (llSI (llSI (llSI (rdM m') 69 1 (nI nl)) 69 9 (nI nc)) 69 11 0).1 69 9 = nI nc := by rw [SI_at (by decide), SI_same, upd_same]
  have w11 : (llSI (llSI (llSI (rdM m') 69 1 (nI nl)) 69 9 (nI nc)) 69 11 0).1 69 11 = 0 := by rw [SI_same, upd_same]
  have wk : ∀ k, k ∉ [1, 9, 11] → (llSI (llSI (llSI (rdM m') 69 1 (nI nl)) 69 9 (nI nc)) 69 11 0).1 69 k = (rdM m').1 69 k := fun k hk => by
    simp only [List.mem_cons, List.not_mem_nil, or_false] at hk
    rw [SI_at (by omega), SI_at (by omega), SI_at (by omega)]
  have wc : ∀ c, c ≠ 69 → (llSI (llSI (llSI (rdM m') 69 1 (nI nl)) 69 9 (nI nc)) 69 11 0).1 c = m'.1 c := fun c hc => by
    rw [SI_ne hc, SI_ne hc, SI_ne hc, rdM_ne hc]
  have wl : (llSI (llSI (llSI (rdM m') 69 1 (nI nl)) 69 9 (nI nc)) 69 11 0).2 = m'.2 := rfl
  have wo : OM m (llSI (llSI (llSI (rdM m') 69 1 (nI nl)) 69 9 (nI nc)) 69 11 0) := (((hM.om.rd).SI (by decide)).SI (by decide)).SI (by decide)
  have goalM : ∀ z, lt (llSI (rdM m') 69 1 ((rdM m').1 69 2)) (fun u16 => lt (llSI u16 69 9 (u16.1 69 10)) (fun u17 => lt (llSI u17 69 11 0) (fun u18 => (loop (fx_X12_pyramid_69_l160) llFuel (u18, 0)).bind (fun e21 => (loop (fx_X12_pyramid_69_l189) llFuel (e21, 0)).bind (fun e29 => bd (fx_X12_starts_69 e29 ) (fun u30 _ => some (u30, u30.1 69 9))))))) = z → (loop (fx_X12_pyramid_69_l160) llFuel (llSI (llSI (llSI (rdM m') 69 1 (nI nl)) 69 9 (nI nc)) 69 11 0, 0)).bind (fun e21 => (loop (fx_X12_pyramid_69_l189) llFuel (e21, 0)).bind (fun e29 => bd (fx_X12_starts_69 e29 ) (fun u30 _ => some (u30, u30.1 69 9)))) = z := by
    intro z hz
    rw [← hz]
    simp only [lt_eq]
    rw [n2, n10]
  generalize hz : lt (llSI (rdM m') 69 1 ((rdM m').1 69 2)) (fun u16 => lt (llSI u16 69 9 (u16.1 69 10)) (fun u17 => lt (llSI u17 69 11 0) (fun u18 => (loop (fx_X12_pyramid_69_l160) llFuel (u18, 0)).bind (fun e21 => (loop (fx_X12_pyramid_69_l189) llFuel (e21, 0)).bind (fun e29 => bd (fx_X12_starts_69 e29 ) (fun u30 _ => some (u30, u30.1 69 9))))))) = Z
  have hz2 := goalM Z hz
  generalize llSI (llSI (llSI (rdM m') 69 1 (nI nl)) 69 9 (nI nc)) 69 11 0 = mz at *
  obtain ⟨v1, g1, g2, g3, g4⟩ := copyL_m mz
  obtain ⟨v2, j1, j2, j3, j4⟩ := copyC_m v1
  obtain ⟨mf, k1, k2, k3, k4, k5, k6, k7, k8⟩ := starts_m v2
  rw [g1, Option.bind_some, j1, Option.bind_some, k1, bd_mk] at hz2
  have p9 : mf.1 69 9 = nI nc := by rw [k5 9 (by decide), (j2 69 (by decide)).1, g2 69 (by decide)]; exact w9
  rw [p9] at hz2
  have mfc : ∀ c, 77 < c → mf.1 c = m.1 c ∧ mf.2.1 c = m.2.1 c := fun c hc => by
    have := hM.1 c (by simp only [List.mem_cons, List.not_mem_nil, or_false]; omega)
    refine ⟨?_, ?_⟩
    · rw [k2 c (by omega) (by omega), (j2 c (by omega)).1, g2 c (by omega), wc c (by omega)]; exact this.1
    · rw [k3, (j2 c (by omega)).2, g3, wl]; exact this.2.1
  have mf69 : ∀ k, k ∉ [1, 9, 11, 14] → mf.1 69 k = (rdM m').1 69 k := fun k hk => by
    simp only [List.mem_cons, List.not_mem_nil, or_false] at hk
    rw [k5 k (by omega), (j2 69 (by decide)).1, g2 69 (by decide), wk k (by simp only [List.mem_cons, List.not_mem_nil, or_false]; omega)]
  refine ⟨llSI (llSI u7 14 0 0) 26 2 0, mf, ?_, hz2.symm, ?_, ?_, ?_⟩
  · have e35 : (llSI (llSI u7 14 0 0) 26 2 0).1 3 5 = nI nc := by rw [SI_ne (by decide), SI_ne (by decide), f2 3 (by decide), c2 3 (by decide), b2 3 (by decide), a4, xd 31 (by decide)]; exact e2
    rw [a1, bd_mk, b1, bd_mk]
    unfold fx_X4_forgetAll_52
    rw [c1, bd_mk, bd_mk, f1, bd_mk, lt_eq, lt_eq, e35]
  · have xf : ∀ c, c < 14 → (llSI (llSI u7 14 0 0) 26 2 0).1 c = u4.1 c ∧ (llSI (llSI u7 14 0 0) 26 2 0).2.1 c = u4.2.1 c := fun c hc => by
      refine ⟨?_, ?_⟩
      · rw [SI_ne (by omega), SI_ne (by omega), f2 c (by omega), c2 c (by omega), b2 c (by omega)]
      · rw [SI_2, SI_2, f4, c3, b3]
    refine ⟨(nl, nc, dv, sz, dn, nd, cx, cy, ws, st, (fun _ => false), dI cx cy), 0, fun _ => (0, 0), 0, fun _ => 0, ?_, ?_, ?_, ?_, ?_, ?_, ?_, ?_, ?_⟩
    · -- the pyramid
      refine ⟨d1, ?_, ?_, fun l hl => ?_, e1, ?_, p9, fun c hc => ?_, hF, ?_⟩
      · rw [(xf 3 (by decide)).1, a3, xd 31 (by decide)]; exact d2
      · rw [k5 1 (by decide), (j2 69 (by decide)).1, g2 69 (by decide)]; exact w1
      · have q := d4 l hl
        change l < nl at hl
        have qa := a5 l (by omega)
        have r70 : ∀ j, j < 16 → mf.1 70 j = m'.1 70 (16 + j) := fun j hj => by
          rw [k2 70 (by decide) (by decide), (j2 70 (by decide)).1, g4 j hj, wc 70 (by decide)]
        unfold ILv
        rw [(xf 4 (by decide)).1, (xf 5 (by decide)).1, (xf 6 (by decide)).1, (xf 7 (by decide)).1, qa.1, qa.2.1, qa.2.2.1, qa.2.2.2, xd 32 (by decide), xd 33 (by decide), xd 34 (by decide), xd 35 (by decide), r70 _ (by omega), r70 _ (by omega), r70 _ (by omega), r70 _ (by omega)]
        exact q
      · rw [(xf 3 (by decide)).1, a4, xd 31 (by decide)]; exact e2
      · change c < nc at hc
        obtain ⟨q1, q2, q3, q4, q5, q6, q7, q8, q9, r1, r2, r3, r4, r5, r6⟩ := e4 c hc
        obtain ⟨t1, t2, t3, t4, t5, t6⟩ := a6 c (by omega)
        obtain ⟨s1, s2, s3, s4, s5, s6⟩ := j3 c (by omega)
        have mfg : ∀ i, i ≠ 69 → i ≠ 77 → mf.1 i = v2.1 i := k2
        have v1c : ∀ i, i ≠ 70 → i ≠ 69 → v1.1 i = m'.1 i := fun i h1 h2 => by rw [g2 i h1, wc i h2]
        have lvE : x'.1 40 c = lvI (nl, nc, dv, sz, dn, nd, cx, cy, ws, st, (fun _ => false), dI cx cy) c := by
          show x'.1 40 c = (match st c with | some (l, _) => nI l | none => if false = true then -2 else -1)
          revert r6
          cases st c with
          | none => intro r6; exact r6.1
          | some q => obtain ⟨l, d⟩ := q; intro r6; exact r6.2.2.1
        have dvE : x'.1 41 c = dvI (nl, nc, dv, sz, dn, nd, cx, cy, ws, st, (fun _ => false), dI cx cy) c := by
          show x'.1 41 c = (match st c with | some (_, d) => nI d | none => -1)
          revert r6
          cases st c with
          | none => intro r6; exact r6.2
          | some q => obtain ⟨l, d⟩ := q; intro r6; exact r6.2.2.2
        refine ⟨?_, ?_, ?_, ?_, r1, r2, q1, ?_, ?_, ?_, ?_, ?_, ?_, fun l d hs => ?_⟩
        · rw [(xf 9 (by decide)).1, t2, xd 37 (by decide)]; exact q4
        · rw [(xf 10 (by decide)).1, t3, xd 38 (by decide)]; exact q5
        · rw [mfg 72 (by decide) (by decide), s2, v1c 72 (by decide) (by decide)]; exact q7
        · rw [mfg 73 (by decide) (by decide), s3, v1c 73 (by decide) (by decide)]; exact q8
        · rw [(xf 8 (by decide)).2, t1]; exact q2
        · rw [k3, s1, g3, wl]; exact q3
        · rw [(xf 12 (by decide)).1, t5, xd 40 (by decide)]; exact lvE
        · rw [mfg 74 (by decide) (by decide), s4, v1c 74 (by decide) (by decide), r4]; exact lvE
        · rw [(xf 13 (by decide)).1, t6, xd 41 (by decide)]; exact dvE
        · rw [mfg 75 (by decide) (by decide), s5, v1c 75 (by decide) (by decide), r5]; exact dvE
        · change st c = some (l, d) at hs
          rw [hs] at r6
          exact ⟨r6.1, r6.2.1⟩
      · intro a b ha hb
        refine ⟨rt_ok _, ?_⟩
        rw [SI_ne (by decide), SI_ne (by decide), f2 49 (by decide), c2 49 (by decide)]
        exact b4 a b ha hb
    · -- the season
      have xs : ∀ c, 14 < c → c < 26 → (llSI (llSI u7 14 0 0) 26 2 0).1 c = u7.1 c := fun c h1 h2 => by rw [SI_ne (by omega), SI_ne (by omega)]
      have s17 : ∀ k, k < 900 → (llSI (llSI u7 14 0 0) 26 2 0).1 17 k = -1 := fun k hk => by rw [xs 17 (by decide) (by decide)]; exact f7 k hk
      refine ⟨fun c hc => ?_, fun k hk => ?_, ⟨by omega, ?_, fun i hi => by omega, fun i j hi => by omega, fun h a hh ha _ => s17 _ (by omega)⟩, ?_⟩
      · change c < nc at hc
        obtain ⟨q1, q2, q3, q4, q5, q6, q7, q8, q9, r1, r2, r3, r4, r5, r6⟩ := e4 c hc
        obtain ⟨t1, t2, t3, t4, t5, t6⟩ := a6 c (by omega)
        obtain ⟨s1, s2, s3, s4, s5, s6⟩ := j3 c (by omega)
        have g11 : (llSI (llSI u7 14 0 0) 26 2 0).1 11 c = nI (gr c) := by rw [(xf 11 (by decide)).1, t4, xd 39 (by decide)]; exact q6
        have m77 : mf.1 77 c = nI (gr c) := by rw [k6 c (by omega), s6, g2 76 (by decide), wc 76 (by decide)]; exact q9
        obtain ⟨z1, z2, z3⟩ := f6 c (by omega)
        have y18 : (llSI (llSI u7 14 0 0) 26 2 0).1 18 c = 0 := by rw [xs 18 (by decide) (by decide)]; exact z1
        have y19 : (llSI (llSI u7 14 0 0) 26 2 0).1 19 c = 0 := by rw [xs 19 (by decide) (by decide)]; exact z2
        have y20 : (llSI (llSI u7 14 0 0) 26 2 0).1 20 c = 0 := by rw [xs 20 (by decide) (by decide)]; exact z3
        refine ⟨⟨gr c, r3, g11⟩, Or.inl y18, Or.inl y19, ⟨0, by omega, y20⟩, m77.trans g11.symm, ?_, ?_, ?_⟩
        · rw [k7 _ (by omega) (by omega), y18]
        · rw [k7 _ (by omega) (by omega), y19]
        · rw [k7 _ (by omega) (by omega), y20]
      · rw [k8 _ (by omega) (by omega), s17 k hk]
      · rw [SI_ne (by decide), SI_at (by decide), f5]; rfl
      · rw [ISu_iff]
        intro c w hc hw
        rw [xs _ (by omega) (by omega), f8 c w hc hw, sumW_none s17 e1 hc]
    · refine ⟨by omega, ?_, ?_, rfl, fun j hj => by omega⟩
      · rw [SI_same, upd_same]; rfl
      · exact k4
    · refine ⟨?_, fun l hl => ?_⟩
      · rw [SI_ne (by decide), SI_ne (by decide), f2 60 (by decide), (x6 60 (by decide) (by decide) (by decide) (by decide)).1]; exact i4.1
      · refine Or.inl ?_
        change l < nl at hl
        rw [SI_ne (by decide), SI_ne (by decide), f2 53 (by decide), c4 l (by omega)]
    · have y43 : (llSI (llSI u7 14 0 0) 26 2 0).1 43 = x.1 43 := by rw [SI_ne (by decide), SI_ne (by decide), f2 43 (by decide), (x6 43 (by decide) (by decide) (by decide) (by decide)).1]
      have y47 : (llSI (llSI u7 14 0 0) 26 2 0).1 47 = x.1 47 := by rw [SI_ne (by decide), SI_ne (by decide), f2 47 (by decide), (x6 47 (by decide) (by decide) (by decide) (by decide)).1]
      unfold ISh at i5 ⊢
      rw [y43, y47, mf69 53 (by decide), rdM_k (by decide), hM.2.1 53 (by decide), (mfc 100 (by decide)).1]
      exact i5
    · refine ⟨fun _ => 0, 0, TXz ?_, TMz ?_⟩
      · rw [(xf 1 (by decide)).1, (a2 1 (by decide)).1, SI_same, upd_same]
      · rw [mf69 16 (by decide), rdM_16]
    · unfold IFa
      rw [(xf 1 (by decide)).1, (a2 1 (by decide)).1, SI_at (by decide), SI_at (by decide), mf69 17 (by decide), mf69 18 (by decide), rdM_17, rdM_18, h17, h18, h19, h20]
      exact ⟨rfl, rfl⟩
    · rw [k5 11 (by decide), (j2 69 (by decide)).1, g2 69 (by decide), w11, SI_ne (by decide), SI_same, upd_same]
    · intro c hc hq
      change c < nc at hc
      have y18 : (llSI (llSI u7 14 0 0) 26 2 0).1 18 c = 0 := by rw [SI_ne (by decide), SI_ne (by decide)]; exact (f6 c (by omega)).1
      rw [y18] at hq
      exact absurd hq (by decide)
  · intro c hc
    refine ⟨?_, ?_⟩
    · rw [SI_ne (by omega), SI_ne (by omega), f2 c (by omega), (x6 c (by omega) (by omega) (by omega) (by omega)).1]
    · rw [SI_2, SI_2, f4, (x6 c (by omega) (by omega) (by omega) (by omega)).2]
  · intro c hc
    refine ⟨?_, ?_⟩
    · rw [k2 c (by omega) (by omega), (j2 c (by omega)).1, g2 c (by omega)]; exact (wo c hc).1
    · rw [k3, (j2 c (by omega)).2, g3]; exact (wo c hc).2
theorem pyr_l56_bad {m : llMem} (h : ¬ m.1 69 19 = 0) : loop fx_X12_pyramid_69_l56 llFuel (m, 0) = some m := by
  refine loop_inr (f := 9999) ?_
  unfold fx_X12_pyramid_69_l56
  dsimp only
  rw [if_pos h]
  split <;> rfl
set_option maxHeartbeats 1000000 in
theorem pyramid_L : Step fx_X11_pyramid_0 fx_X12_pyramid_69 := by
  rintro x m ⟨A, mc, ml, k, cj, h⟩
  obtain ⟨bb, n, hT, hTM⟩ := h.2.2.2.2.2.1
  have hT' := hT
  obtain ⟨t1, t2, t3⟩ := hT'
  -- the class begins
  have X1 : TX (llSI (llSI (llSI (llSI (llSI x 31 0 0) 31 5 0) 1 9 0) 1 7 0) 1 8 (-1)) bb n := ⟨t1, by rw [SI_at (by decide), SI_at (by decide), SI_at (by decide), SI_ne (by decide), SI_ne (by decide)]; exact t2, fun k hk => by rw [SI_ne (by decide), SI_ne (by decide), SI_ne (by decide), SI_ne (by decide), SI_ne (by decide)]; exact t3 k hk⟩
  have X9 : (llSI (llSI (llSI (llSI (llSI x 31 0 0) 31 5 0) 1 9 0) 1 7 0) 1 8 (-1)).1 1 9 = nI 0 := by rw [SI_at (by decide), SI_at (by decide), SI_same, upd_same]; rfl
  have X7 : (llSI (llSI (llSI (llSI (llSI x 31 0 0) 31 5 0) 1 9 0) 1 7 0) 1 8 (-1)).1 1 7 = 0 := by rw [SI_at (by decide), SI_same, upd_same]
  have X8 : (llSI (llSI (llSI (llSI (llSI x 31 0 0) 31 5 0) 1 9 0) 1 7 0) 1 8 (-1)).1 1 8 = -1 := by rw [SI_same, upd_same]
  have X310 : (llSI (llSI (llSI (llSI (llSI x 31 0 0) 31 5 0) 1 9 0) 1 7 0) 1 8 (-1)).1 31 0 = nI 0 := by rw [SI_ne (by decide), SI_ne (by decide), SI_ne (by decide), SI_at (by decide), SI_same, upd_same]; rfl
  have X315 : (llSI (llSI (llSI (llSI (llSI x 31 0 0) 31 5 0) 1 9 0) 1 7 0) 1 8 (-1)).1 31 5 = nI 0 := by rw [SI_ne (by decide), SI_ne (by decide), SI_ne (by decide), SI_same, upd_same]; rfl
  have XF : FrX x (llSI (llSI (llSI (llSI (llSI x 31 0 0) 31 5 0) 1 9 0) 1 7 0) 1 8 (-1)) := (((FrX.refl x).SI (by decide)).SI (by decide)).trans (FrX.of (((SmF.SI (by simp)).trans (SmF.SI (by simp))).trans (SmF.SI (by simp))))
  have hC : fx_X11_pyramid_0 x = bd ((loop (fx_X6_read_30_l25) llFuel (llSI (llSI (llSI (llSI (llSI x 31 0 0) 31 5 0) 1 9 0) 1 7 0) 1 8 (-1), nI 0)).bind (Sum.elim (fun e17 => bd (fx_X9_fail_1 e17 1) (fun u18 r19 => gB r19 (some (u18, r19)))) (fun v => some ((fun v => v) v)))) (fun u1 r2 => lt (llSI u1 1 1 0) (fun u3 => (if ¬ r2 = 0 then bd (fx_X5_copy_3_31 u3 ) (fun u4 _ => bd (fx_X10_measure_48 u4 ) (fun u5 _ => bd (fx_X4_forgetAll_52 u5 ) (fun u6 _ => bd (fx_X7_begin_14 u6 ) (fun u7 _ => lt (llSI u7 14 0 0) (fun u8 => lt (llSI u8 26 2 0) (fun u9 => some (u9, u9.1 3 5))))))) else some (u3, (-1))))) := rfl
  generalize llSI (llSI (llSI (llSI (llSI x 31 0 0) 31 5 0) 1 9 0) 1 7 0) 1 8 (-1) = x1 at *
  -- the reference begins
  have M1 : TM (llSI (llSI (llSI (llSI (llSI m 69 2 0) 69 10 0) 69 23 0) 69 19 0) 69 20 (-1)) bb n := hTM.of (((((SmF.SI (ks := [2, 10, 23, 19, 20]) (by simp)).trans (SmF.SI (by simp))).trans (SmF.SI (by simp))).trans (SmF.SI (by simp))).trans (SmF.SI (by simp))) (by decide)
  have MF : FrM m (llSI (llSI (llSI (llSI (llSI m 69 2 0) 69 10 0) 69 23 0) 69 19 0) 69 20 (-1)) := (((((FrM.refl m).m69 (by decide)).m69 (by decide)).m69 (by decide)).m69 (by decide)).m69 (by decide)
  have M23 : (llSI (llSI (llSI (llSI (llSI m 69 2 0) 69 10 0) 69 23 0) 69 19 0) 69 20 (-1)).1 69 23 = nI 0 := by rw [SI_at (by decide), SI_at (by decide), SI_same, upd_same]; rfl
  have M19 : (llSI (llSI (llSI (llSI (llSI m 69 2 0) 69 10 0) 69 23 0) 69 19 0) 69 20 (-1)).1 69 19 = 0 := by rw [SI_at (by decide), SI_same, upd_same]
  have M20 : (llSI (llSI (llSI (llSI (llSI m 69 2 0) 69 10 0) 69 23 0) 69 19 0) 69 20 (-1)).1 69 20 = -1 := by rw [SI_same, upd_same]
  have M2 : (llSI (llSI (llSI (llSI (llSI m 69 2 0) 69 10 0) 69 23 0) 69 19 0) 69 20 (-1)).1 69 2 = nI 0 := by rw [SI_at (by decide), SI_at (by decide), SI_at (by decide), SI_at (by decide), SI_same, upd_same]; rfl
  have M10 : (llSI (llSI (llSI (llSI (llSI m 69 2 0) 69 10 0) 69 23 0) 69 19 0) 69 20 (-1)).1 69 10 = nI 0 := by rw [SI_at (by decide), SI_at (by decide), SI_at (by decide), SI_same, upd_same]; rfl
  obtain ⟨m1, g1, g2, g3⟩ := next_m (llSI (llSI (llSI (llSI (llSI m 69 2 0) 69 10 0) 69 23 0) 69 19 0) 69 20 (-1)) bb n 0 M1 (by omega) M23
  have hM : fx_X12_pyramid_69 m = fx_X12_pyramid_69_j26 m1 (more (tok bb n 0)) := by
    unfold fx_X12_pyramid_69 fx_X12_begins_69
    simp only [lt_eq]
    rw [g1, bd_mk, bd_mk]
    by_cases e : (tok bb n 0).2.2 = none
    · rw [if_pos (g3.sort.2.2.mpr e), more_0 e]
    · rw [if_neg (fun q => e (g3.sort.2.2.mp q)), more_1 e]
  have R1 : RR x1 m1 bb n 0 := ⟨X1, M1.of g2 (by decide), by omega, X9, g3, by rw [g2.2 19 (by decide)]; exact M19, X7, X8, by rw [g2.2 20 (by decide)]; exact M20⟩
  have D1 : DR x1 m1 0 0 (fun _ => 0) (fun _ => 0) (fun _ => 0) (fun _ => 0) (fun _ => 0) (fun _ => 0) (fun _ => 0) (fun _ => []) (fun _ => none) := ⟨⟨by omega, X310, by rw [g2.2 2 (by decide)]; exact M2, fun l hl => by omega⟩, ⟨by omega, X315, by rw [g2.2 10 (by decide)]; exact M10, fun l hl => by omega⟩, fun l d hl => by omega⟩
  have FM1 : FrM m m1 := MF.trans (FrM.of (g2.mono (by simp)))
  have hE := read_L x m bb n n x1 m1 0 0 llFuel llFuel 0 0 _ _ _ _ _ _ _ _ _ (by omega) R1 D1 (by omega) XF FM1 (by unfold llFuel; omega) (by unfold llFuel; omega)
  unfold fx_X12_pyramid_69_j26 at hM
  have badEnd : ∀ x' m' e, loop (fx_X6_read_30_l25) llFuel (x1, nI 0) = some (.inr (x', 0)) → loop fx_X12_pyramid_69_l27 llFuel (m1, more (tok bb n 0)) = some m' → loop fx_X12_pyramid_69_l56 llFuel (m', 0) = some e → BB x' e → FrX x x' → FrM m e → ∃ x' m' r, fx_X11_pyramid_0 x = some (x', r) ∧ fx_X12_pyramid_69 m = some (m', r) ∧ Inv x' m' ∧ OX x x' ∧ OM m m' := by
    intro x' m' e q1 q2 q3 q4 q5 q6
    have hb : ¬ e.1 69 19 = 0 := by
      obtain ⟨kk, pl, b1, b2, b3⟩ := q4
      rw [b3.1]; exact b1
    rw [q2, Option.bind_some, q3, Option.bind_some, isRead_m, bd_mk, if_neg hb, if_neg (by simp)] at hM
    rw [q1] at hC
    refine ⟨llSI x' 1 1 0, rdM e, -1, hC, hM, ⟨A, mc, ml, k, cj, bad_text h q5 q6 q4⟩, q5.ox.SI (by decide), q6.om.rd⟩
  rcases hE with ⟨x', m', q1, q2, q3, q4, q5⟩ | ⟨x', m', nl, nc, dv, sz, dn, nd, cx, cy, gr, ws, st, q1, q2, q3, q4, ⟨pl, q5⟩, q6, q7, q8, q9, q10, q11⟩ | ⟨x', m', nl, nc, dv, sz, dn, nd, cx, cy, gr, ws, st, pl, q1, q2, q3, ⟨x2, q4⟩, q5, q6, q7, q8, q9, q10⟩
  · refine badEnd x' m' m' q1 q2 (pyr_l56_bad ?_) q3 q4 q5
    obtain ⟨kk, pl, b1, b2, b3⟩ := q3
    rw [b3.1]; exact b1
  · obtain ⟨e, r1, r2⟩ := full_out q4 q5 q6
    rcases r2 with ⟨rfl, -⟩ | ⟨-, -, r3⟩
    · obtain ⟨xf, mf, s1, s2, s3, s4, s5⟩ := new_pyr h q10 q11 q4 q3 q6 q7 q8 q9
      rw [q2, Option.bind_some, r1, Option.bind_some, isRead_m, bd_mk, if_pos q6, if_pos (by decide)] at hM
      rw [q1] at hC
      exact ⟨xf, mf, _, hC.trans s1, hM.trans s2, s3, s4, s5⟩
    · exact absurd q3 r3
  · obtain ⟨e, r1, r2⟩ := full_out q4 q5 q7
    rcases r2 with ⟨-, r3⟩ | ⟨r3, r4, -⟩
    · exact absurd r3 q3
    · exact badEnd x' m' e q1 q2 r1 ⟨5, pl, by decide, q6, r4⟩ q9 (q10.trans (FrM.of (r3.mono (by simp))))
