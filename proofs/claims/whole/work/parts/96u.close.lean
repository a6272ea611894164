/-! close -/
theorem close_go {A : Ab} {x m u1 m1 : llMem} {mc : Nat} {ml : Nat → Nat × Nat} {k : Nat} {cj : Nat → Nat} (h : InvA A x m mc ml k cj) (hc : canE A x = true) (a2 : Sm [43, 44, 45, 46, 64, 65, 66, 67, 68] x u1) (a3 : u1.1 43 6 = x.1 43 6) (a4 : (∀ l, l < A.nl → WL u1 (4 * l) (upL A x l)) ∧ ∀ c, c < A.nc → u1.1 68 c = goalI A x c) (b3 : EndM A x m m1) :
    ∃ x' m' r, (fx_X3_risenInAll_63 u1).bind (fun r3 => bd (fx_X4_forgetChanged_52_68 u1) (fun u4 _ => bd (fx_X3_moveClubs_63 u4) (fun u5 _ => bd (fx_X4_settle_52 u5) (fun u6 _ => bd (fx_X7_begin_14 u6) (fun u7 _ => lt (llSI u7 14 0 ((u7.1 14 0) + 1)) (fun u8 => lt (llSI u8 26 2 0) (fun u9 => some (u9, r3)))))))) = some (x', r) ∧ (loop (fx_X12_close_69_l13) llFuel (m1, 0, 0)).bind (fun e9 => (loop (fx_X12_close_69_l61 e9.2) llFuel (e9.1, 0)).bind (fun e15 => bd (fx_X12_starts_69 e15) (fun u16 _ => lt (llSI u16 69 11 ((u16.1 69 11) + 1)) (fun u17 => some (u17, e9.2))))) = some (m', r) ∧ Inv x' m' ∧ OX x x' ∧ OM m m' := by
  obtain ⟨hp, hs, hde, hca, hsh, htp, hfa, h11, hr⟩ := h
  have hn := hp.ncB
  have hn2 := hp.nlB
  have h0 := canE_nl hc
  -- the reference: levels
  obtain ⟨e9, c1, c2, c3, c4⟩ := levels_m b3 hp hs hr h0
  -- the class: risen, forgotten, moved
  have p1 : IPyr A u1 m := hp.sm a2 (fun c hc => by simp only [List.mem_cons, List.not_mem_nil, or_false] at hc; omega)
  have d1 := risen_x hn2 p1.x30 a4.1
  obtain ⟨u4, f1, f2, f3, f4⟩ := forgetChanged_x p1 (goalI A x) a4.2
  have p4 : IPyr A u4 m := p1.sm f2 (fun c hc => by simp only [List.mem_cons, List.not_mem_nil, or_false] at hc; omega)
  obtain ⟨u5, g1, g2, g3⟩ := moveClubs_x (u := u4) hn p4.x35
  have k5 : ∀ c, c ∉ [12, 43, 44, 45, 46, 53, 64, 65, 66, 67, 68] → u5.1 c = x.1 c ∧ u5.2.1 c = x.2.1 c := fun c hcn => by
    simp only [List.mem_cons, List.not_mem_nil, or_false] at hcn
    have q1 := a2 c (fun q => by simp only [List.mem_cons, List.not_mem_nil, or_false] at q; omega)
    have q2 := f2 c (fun q => by simp only [List.mem_cons, List.not_mem_nil, or_false] at q; omega)
    have q3 := g2 c (fun q => by simp only [List.mem_cons, List.not_mem_nil, or_false] at q; omega)
    exact ⟨q3.1.trans (q2.1.trans q1.1), q3.2.1.trans (q2.2.1.trans q1.2.1)⟩
  have x12 : ∀ c, c < A.nc → u5.1 12 c = goalI A x c := fun c hcn => by
    rw [g3 c hcn, (f2 68 (by decide)).1]; exact a4.2 c hcn
  have m1k : ∀ c, c ∉ [81, 82, 83, 84, 85, 86, 87, 92, 93, 94, 95, 96, 97, 98, 99] → m1.1 c = m.1 c ∧ m1.2.1 c = m.2.1 c := fun c hcn => ⟨(b3.1 c hcn).1, (b3.1 c hcn).2.1⟩
  have e9k : ∀ c, c ∉ [74, 75, 81, 82, 83, 84, 85, 86, 87, 92, 93, 94, 95, 96, 97, 98, 99] → e9.1 c = m.1 c ∧ e9.2.1 c = m.2.1 c := fun c hcn => by
    simp only [List.mem_cons, List.not_mem_nil, or_false] at hcn
    have q := m1k c (fun q => by simp only [List.mem_cons, List.not_mem_nil, or_false] at q; omega)
    exact ⟨(c2 c (by omega) (by omega)).trans q.1, by rw [c3]; exact q.2⟩
  have e69 := (e9k 69 (by decide)).1
  have B0 : IPy0 (nxB A x) u5 e9 := nx_py0 hp hc (fun c hcn => k5 c (fun q => by simp only [List.mem_cons, List.not_mem_nil, or_false] at hcn q; omega)) x12 (fun c hcn => e9k c (fun q => by simp only [List.mem_cons, List.not_mem_nil, or_false] at hcn q; omega)) (fun c hcn => (c4 c hcn).1) (by rw [e69]) (by rw [e69])
  have u53 : u5.1 53 = u4.1 53 := (g2 53 (by decide)).1
  have BC : ICa (nxB A x) u5 := nx_ICa hp hc hca (k5 60 (by decide)).1 (k5 54 (by decide)).1 (k5 55 (by decide)).1 (fun l => by
      rw [u53]
      have := f3 l
      rw [(a2 53 (by decide)).1] at this
      exact this) (fun c hcn hg l hl hgl => by rw [u53]; exact f4 c hcn hg l hl hgl)
  have hd := nx_hd hp hc
  obtain ⟨u6, i1, i2, i3, i4, i5⟩ := settle_x B0 BC hd
  obtain ⟨e15, j1, j2, j3⟩ := lays_all B0 hd (fun c hcn => (c4 c hcn).2) (nI (sumN (fun l => (upL A x l).length) A.nl))
  -- the season begins
  have k6 : ∀ c, c ∉ [12, 13, 43, 44, 45, 46, 52, 53, 54, 55, 56, 57, 58, 59, 60, 61, 62, 64, 65, 66, 67, 68] → u6.1 c = x.1 c ∧ u6.2.1 c = x.2.1 c := fun c hcn => by
    simp only [List.mem_cons, List.not_mem_nil, or_false] at hcn
    have q1 := k5 c (fun q => by simp only [List.mem_cons, List.not_mem_nil, or_false] at q; omega)
    have q2 := i2 c (fun q => by simp only [List.mem_cons, List.not_mem_nil, or_false] at q; omega)
    exact ⟨q2.1.trans q1.1, q2.2.1.trans q1.2⟩
  have k6' : ∀ c, 14 ≤ c → c ≤ 25 → u6.1 c = x.1 c := fun c h1 h2 => (k6 c (fun q => by simp only [List.mem_cons, List.not_mem_nil, or_false] at q; omega)).1
  have hIM : IMa A u6 mc ml := hs.2.2.1.of (by rw [k6' 14 (by decide) (by decide)]) (k6' 15 (by decide) (by decide)) (k6' 16 (by decide) (by decide)) (k6' 17 (by decide) (by decide))
  have hIS : ISu A u6 := hs.2.2.2.of (fun i hi => k6' i (by omega) (by omega))
  obtain ⟨u7, l1, l2, l3, l4, l5, l6, l7, l8⟩ := begin_x hn hIM hIS
  obtain ⟨e16, n1, n2, n3, n4, n5, n6, n7, n8⟩ := starts_m e15
  refine ⟨llSI (llSI u7 14 0 ((u7.1 14 0) + 1)) 26 2 0, llSI e16 69 11 ((e16.1 69 11) + 1), nI (sumN (fun l => (upL A x l).length) A.nl), ?_, ?_, ?_, ?_, ?_⟩
  · rw [d1, Option.bind_some, f1, bd_mk, g1, bd_mk, i1, bd_mk, l1, bd_mk]; rfl
  · rw [c1, Option.bind_some]
    dsimp only
    rw [j1, Option.bind_some, n1, bd_mk]; rfl
  · -- the invariant
    have xf : ∀ c, c ≠ 14 → c ≠ 26 → (llSI (llSI u7 14 0 ((u7.1 14 0) + 1)) 26 2 0).1 c = u7.1 c ∧ (llSI (llSI u7 14 0 ((u7.1 14 0) + 1)) 26 2 0).2.1 c = u6.2.1 c := fun c h1 h2 => ⟨by rw [SI_ne h2, SI_ne h1], by rw [SI_2, SI_2, l4]⟩
    have xg : ∀ c, c < 14 ∨ 26 < c → (llSI (llSI u7 14 0 ((u7.1 14 0) + 1)) 26 2 0).1 c = u6.1 c ∧ (llSI (llSI u7 14 0 ((u7.1 14 0) + 1)) 26 2 0).2.1 c = u6.2.1 c := fun c hcn => ⟨(xf c (by omega) (by omega)).1.trans (l2 c (by omega)), (xf c (by omega) (by omega)).2⟩
    have xh : ∀ c, c < 12 ∨ c = 47 ∨ c = 49 → (llSI (llSI u7 14 0 ((u7.1 14 0) + 1)) 26 2 0).1 c = x.1 c := fun c hcn => ((xg c (by omega)).1).trans (k6 c (fun q => by simp only [List.mem_cons, List.not_mem_nil, or_false] at q; omega)).1
    have mg : ∀ c, c ≠ 69 → c ≠ 77 → (llSI e16 69 11 ((e16.1 69 11) + 1)).1 c = e15.1 c ∧ (llSI e16 69 11 ((e16.1 69 11) + 1)).2.1 c = e15.2.1 c := fun c h1 h2 => ⟨by rw [SI_ne h1, n2 c h1 h2], by rw [SI_2, n3]⟩
    have m69 : ∀ j, j ∈ [1, 9, 16, 17, 18, 53] → (llSI e16 69 11 ((e16.1 69 11) + 1)).1 69 j = m.1 69 j := fun j hj => by
      simp only [List.mem_cons, List.not_mem_nil, or_false] at hj
      rw [SI_same, upd_ne (by omega), n5 j (by omega), j2.2.1 j (by omega), e69]
    have mh : ∀ c, c = 79 ∨ c = 100 ∨ c = 78 → (llSI e16 69 11 ((e16.1 69 11) + 1)).1 c = m.1 c := fun c hcn => by
      rw [(mg c (by omega) (by omega)).1, (j2.1 c (fun q => by simp only [List.mem_cons, List.not_mem_nil, or_false] at q; omega)).1]
      exact (e9k c (fun q => by simp only [List.mem_cons, List.not_mem_nil, or_false] at q; omega)).1
    have e77 : e15.1 77 = m.1 77 := ((j2.1 77 (by decide)).1).trans (e9k 77 (by decide)).1
    have m77 : (llSI e16 69 11 ((e16.1 69 11) + 1)).1 77 = e16.1 77 := SI_ne (by decide)
    have s18 : ∀ c, 14 < c → c < 26 → (llSI (llSI u7 14 0 ((u7.1 14 0) + 1)) 26 2 0).1 c = u7.1 c := fun c h1 h2 => (xf c (by omega) (by omega)).1
    have s17 : ∀ j, j < 900 → (llSI (llSI u7 14 0 ((u7.1 14 0) + 1)) 26 2 0).1 17 j = -1 := fun j hj => by rw [s18 17 (by decide) (by decide)]; exact l7 j hj
    have PB : IPy0 (nxB A x) u6 e15 := by
      have q1 : IPy0 (nxB A x) u5 e15 := j2.py0 B0
      refine q1.ofc (fun c hcn => ?_) ?_ rfl (fun _ _ => ⟨rfl, rfl⟩) rfl rfl
      · have := i2 c (fun q => by simp only [List.mem_cons, List.not_mem_nil, or_false] at hcn q; omega)
        exact ⟨this.1, this.2.1⟩
      · exact i5
    have PF : IPyr (nxB A x) (llSI (llSI u7 14 0 ((u7.1 14 0) + 1)) 26 2 0) (llSI e16 69 11 ((e16.1 69 11) + 1)) := by
      refine IPy0.full (PB.ofc (fun c hcn => xg c (by simp only [List.mem_cons, List.not_mem_nil, or_false] at hcn; omega)) (xg 13 (by decide)).2 (mg 75 (by decide) (by decide)).2 (fun c hcn => mg c (by simp only [List.mem_cons, List.not_mem_nil, or_false] at hcn; omega) (by simp only [List.mem_cons, List.not_mem_nil, or_false] at hcn; omega)) ?_ ?_) (fun c hcn => ?_) (fun c hcn => ?_)
      · rw [SI_same, upd_ne (by decide), n5 1 (by decide)]
      · rw [SI_same, upd_ne (by decide), n5 9 (by decide)]
      · rw [(xg 13 (by decide)).1]; exact i4 c hcn
      · rw [(mg 75 (by decide) (by decide)).1]; exact j3 c hcn
    refine ⟨nxB A x, 0, fun _ => (0, 0), 0, fun _ => 0, PF, ?_, ?_, ?_, ?_, ?_, ?_, ?_, ?_⟩
    · refine ⟨fun c hcn => ?_, fun j hj => ?_, ⟨by omega, ?_, fun i hi => by omega, fun i j hi => by omega, fun h a hh ha _ => s17 _ (by omega)⟩, ?_⟩
      · have hcA : c < A.nc := hcn
        obtain ⟨q1, q2, q3, q4, q5, q6, q7, q8⟩ := hs.1 c hcA
        obtain ⟨z1, z2, z3⟩ := l6 c (by omega)
        have y11 : (llSI (llSI u7 14 0 ((u7.1 14 0) + 1)) 26 2 0).1 11 = x.1 11 := xh 11 (by decide)
        have y18 : (llSI (llSI u7 14 0 ((u7.1 14 0) + 1)) 26 2 0).1 18 c = 0 := by rw [s18 18 (by decide) (by decide)]; exact z1
        have y19 : (llSI (llSI u7 14 0 ((u7.1 14 0) + 1)) 26 2 0).1 19 c = 0 := by rw [s18 19 (by decide) (by decide)]; exact z2
        have y20 : (llSI (llSI u7 14 0 ((u7.1 14 0) + 1)) 26 2 0).1 20 c = 0 := by rw [s18 20 (by decide) (by decide)]; exact z3
        refine ⟨by rw [y11]; exact q1, Or.inl y18, Or.inl y19, ⟨0, by omega, y20⟩, ?_, ?_, ?_, ?_⟩
        · rw [m77, n6 c (by omega), e77, y11]; exact q5
        · rw [m77, n7 _ (by omega) (by omega), y18]
        · rw [m77, n7 _ (by omega) (by omega), y19]
        · rw [m77, n7 _ (by omega) (by omega), y20]
      · rw [m77, n8 _ (by omega) (by omega), s17 j hj]
      · rw [SI_ne (by decide), SI_at (by decide), l5]; rfl
      · rw [ISu_iff]
        intro c w hcn hw
        rw [s18 _ (by omega) (by omega), l8 c w hcn hw, sumW_none (nc := (nxB A x).nc) s17 hn hcn]
    · refine ⟨by omega, ?_, ?_, rfl, fun j hj => by omega⟩
      · rw [SI_same, upd_same]; rfl
      · rw [SI_same, upd_ne (by decide)]; exact n4
    · unfold ICa at i3 ⊢
      rw [(xg 53 (by decide)).1, (xg 54 (by decide)).1, (xg 55 (by decide)).1, (xg 60 (by decide)).1]
      exact i3
    · have y43 : (llSI (llSI u7 14 0 ((u7.1 14 0) + 1)) 26 2 0).1 43 6 = x.1 43 6 := by
        rw [(xg 43 (by decide)).1, (i2 43 (by decide)).1, (g2 43 (by decide)).1, (f2 43 (by decide)).1, a3]
      unfold ISh at hsh ⊢
      rw [y43, xh 47 (by decide), m69 53 (by decide), mh 100 (by decide)]
      exact hsh
    · unfold ITp TX TM at htp ⊢
      rw [xh 1 (by decide), xh 2 (by decide), m69 16 (by decide), mh 79 (by decide)]
      exact htp
    · unfold IFa at hfa ⊢
      rw [xh 1 (by decide), m69 17 (by decide), m69 18 (by decide)]
      exact hfa
    · rw [SI_same, upd_same, n5 11 (by decide), j2.2.1 11 (by omega), e69, h11, SI_ne (by decide), SI_same, upd_same, l3 0 (by decide), k6' 14 (by decide) (by decide)]
    · intro c hcn hq
      have hcA : c < A.nc := hcn
      rw [s18 18 (by decide) (by decide), (l6 c (by omega)).1] at hq
      exact absurd hq (by decide)
  · intro c hcn
    refine ⟨?_, ?_⟩
    · rw [SI_ne (by omega), SI_ne (by omega), l2 c (by omega)]
      exact (k6 c (fun q => by simp only [List.mem_cons, List.not_mem_nil, or_false] at q; omega)).1
    · rw [SI_2, SI_2, l4]
      exact (k6 c (fun q => by simp only [List.mem_cons, List.not_mem_nil, or_false] at q; omega)).2
  · intro c hcn
    have q1 := j2.1 c (fun q => by simp only [List.mem_cons, List.not_mem_nil, or_false] at q; omega)
    have q2 := e9k c (fun q => by simp only [List.mem_cons, List.not_mem_nil, or_false] at q; omega)
    refine ⟨?_, ?_⟩
    · rw [SI_ne (by omega), n2 c (by omega) (by omega)]
      exact q1.1.trans q2.1
    · rw [SI_2, n3]
      exact q1.2.1.trans q2.2
theorem close_S : Step fx_X11_close_0 fx_X12_close_69 := by
  rintro x m ⟨A, mc, ml, k, cj, h⟩
  have hp := h.1
  have hs := h.2.1
  have hr := h.2.2.2.2.2.2.2.2
  obtain ⟨u1, a1, a2, a3, a4⟩ := weigh_x hp hs hr
  obtain ⟨m1, b1, b2, b3⟩ := ends_m hp hs
  unfold fx_X11_close_0 fx_X12_close_69
  rw [a1, bd_mk, b1, bd_mk]
  cases q : canE A x
  · rw [if_neg (show ¬ ¬ b01 false = 0 from fun z => z rfl), if_neg (show ¬ ¬ b01 false = 0 from fun z => z rfl)]
    exact ⟨u1, m1, _, rfl, rfl, ⟨A, mc, ml, k, cj, h.of (wei_q a2 a3) (end_q b2)⟩, (wei_q a2 a3).ox, (end_q b2).om⟩
  · rw [if_pos (show ¬ b01 true = 0 by decide), if_pos (show ¬ b01 true = 0 by decide)]
    exact close_go h q a2 a3 ⟨fun l hl => ((a4 q).1 l hl).1, (a4 q).2⟩ (b3 (canE_nl q))
