theorem FX.wx {x : llMem} {k : Int32} {pl c j : Nat} {v : Int32} (h : FX x k pl) (hc : 1 ≠ c) : FX (llSI x c j v) k pl := by
  unfold FX at h ⊢; rw [SI_ne hc]; exact h
theorem BB.wx {x m : llMem} {c j : Nat} {v : Int32} (h : BB x m) (hc : 1 ≠ c) : BB (llSI x c j v) m := by
  obtain ⟨k, pl, h1, h2, h3⟩ := h
  exact ⟨k, pl, h1, h2.wx hc, h3⟩
theorem CT.word {x : llMem} {t : Tk} (h : CT x t) {w : List Nat} (hw : t.2.2 = some (.inl w)) (h7 : w.length ≤ 7) : x.2.1 1 6 = lN (p8 w) := by
  obtain ⟨_, _, h3⟩ := h
  rw [hw] at h3
  simp only [if_pos h7] at h3
  exact h3.2
theorem MT.word {x : llMem} {t : Tk} (h : MT x t) {w : List Nat} (hw : t.2.2 = some (.inl w)) (h7 : w.length ≤ 7) : x.2.1 69 24 = lN (p5 w) := by
  obtain ⟨_, _, h3⟩ := h
  rw [hw] at h3
  exact h3.2 h7
theorem lN8 {v w : List Nat} (hv : okW v) (hw : okW w) : lN (p8 v) = lN (p8 w) ↔ v = w := by
  rw [pk_lEQ (by have := p8_lt hv.2.2 hv.2.1; omega) (by have := p8_lt hw.2.2 hw.2.1; omega)]
  exact ⟨fun e => p8_inj hv.2.2 hw.2.2 e, fun e => by rw [e]⟩
theorem lN5 {v w : List Nat} (hv : okW v) (hw : okW w) : lN (p5 v) = lN (p5 w) ↔ v = w := by
  rw [pk_lEQ (by have := p5_lt hv.2.2 hv.2.1; omega) (by have := p5_lt hw.2.2 hw.2.1; omega)]
  exact ⟨fun e => p5_inj hv.2.2 hw.2.2 e, fun e => by rw [e]⟩
theorem tok_okW {t : Tk} (ht : TkOk t) {w : List Nat} (hw : t.2.2 = some (.inl w)) (h7 : w.length ≤ 7) : okW w := by
  obtain ⟨_, _, h3⟩ := ht
  rw [hw] at h3
  exact ⟨h3.2.1, h7, h3.2.2⟩
theorem ixO_m1 {r n : Nat} (hn : n < 2 ^ 31) : ixO r n = -1 ↔ ¬ r < n := by
  unfold ixO
  by_cases h : r < n
  · rw [if_pos h]; exact ⟨fun q => absurd q (nI_nm1 (by omega)), fun q => absurd h q⟩
  · rw [if_neg h]; exact ⟨fun _ => h, fun _ => rfl⟩
set_option maxHeartbeats 2000000 in
/-- a line of a club, in step -/
theorem club_L {x m : llMem} {bb : Nat → Nat} {n p0 : Nat} {nl nc : Nat} {dv sz dn nd cx cy gr : Nat → Nat} {ws : Nat → List Nat} {st : Nat → Option (Nat × Nat)} (hD : DR x m nl nc dv sz dn nd cx cy gr ws st) (hT : TX x bb n) (hTM : TM m bb n) (hp : p0 ≤ n) (hC0 : CT x (tok bb n p0)) (hM0 : MT m (tok bb n p0)) (h0 : m.1 69 19 = 0) (h7 : x.1 1 7 = 0) (h8 : x.1 1 8 = -1) (h20 : m.1 69 20 = -1) (hne : (tok bb n p0).2.2 ≠ none) :
    (∃ x' m' cx' cy' gr' ws' st' p', fx_X6_readClub_30 x (nI nc) = some (x', 1) ∧ bd (fx_X12_readClub_69 m) (fun u r => fx_X12_readLine_69_j37 u r) = some (m', 1) ∧ DR x' m' nl (nc + 1) dv sz dn nd cx' cy' gr' ws' st' ∧ RR x' m' bb n p' ∧ p0 < p' ∧ FrX x x' ∧ FrM m m') ∨
    (∃ x' m', fx_X6_readClub_30 x (nI nc) = some (x', 0) ∧ bd (fx_X12_readClub_69 m) (fun u r => fx_X12_readLine_69_j37 u r) = some (m', 0) ∧ BB x' m' ∧ FrX x x' ∧ FrM m m') := by
  have hd := tokD hT hp
  have hpos := hd.2.2.2 hne
  have hn := hD.2.1.1
  generalize hC : fx_X6_readClub_30 x (nI nc) = C
  generalize hM : bd (fx_X12_readClub_69 m) (fun u r => fx_X12_readLine_69_j37 u r) = M
  unfold fx_X6_readClub_30 at hC
  unfold fx_X12_readClub_69 at hM
  rw [hD.2.1.2.2.1] at hM
  by_cases hl4 : nc = 30
  · subst hl4
    obtain ⟨x', e1, e2, e3⟩ := fail_x x 4 _ hC0.1
    obtain ⟨m', f1, f2, f3⟩ := fails_m m 4 _ hM0.1 h0
    rw [if_neg (show ¬ nI 30 < 30 by decide), e1, bd_mk, gB_0] at hC
    rw [if_neg (show ¬ ¬ nI 30 = 30 by decide), f1, bd_mk, gB_0, bd_mk] at hM
    unfold fx_X12_readLine_69_j37 at hM
    rw [if_pos rfl, gB_0] at hM
    exact Or.inr ⟨x', m', hC.symm, hM.symm, ⟨4, _, by decide, e3, f3⟩, FrX.of (e2.mono (by simp)), FrM.of (f2.mono (by simp))⟩
  have hn : nc < 30 := by omega
  rw [if_pos (ltL 30 (by omega) (by decide) hn)] at hC
  obtain ⟨m1, g1, g2, g3⟩ := next_m m bb n (tok bb n p0).2.1 hTM hd.2.2.1 hM0.2.1
  have g2' : SmF 69 kM m m1 := g2.mono (by simp)
  have F1 : FrM m m1 := FrM.of g2'
  have D1 : DR x m1 nl nc dv sz dn nd cx cy gr ws st := hD.of (SmF.refl _ _ _) g2'
  have R1 : RR x m1 bb n (tok bb n p0).2.1 := ⟨hT, hTM.of g2 (by decide), hd.2.2.1, hC0.at, g3, by rw [g2.2 19 (by decide)]; exact h0, h7, h8, by rw [g2.2 20 (by decide)]; exact h20⟩
  have e30 : (30 : Int32) + nI nc = nI (30 + nc) := nI_add 30 nc
  rw [if_pos (neL 30 (by omega) (by decide) hl4), g1, bd_mk] at hM
  simp only [lt_eq] at hM
  rw [D1.2.1.2.2.1, e30] at hM
  generalize hp1 : (tok bb n p0).2.1 = p1 at *
  have hd1 := tokD R1.1 R1.2.2.1
  obtain ⟨n1, n2⟩ := takeName_x R1.1 R1.2.2.1 R1.2.2.2.1
  obtain ⟨o1, o2⟩ := isName_m R1.2.2.2.2.1 hd1.1
  by_cases hname : isNm (tok bb n p1)
  case neg =>
    obtain ⟨x1, e1, e2, e3⟩ := n2 hname
    obtain ⟨m2, f1, f2, f3⟩ := fails_m m1 1 _ g3.1 R1.2.2.2.2.2.1
    rw [e1, bd_mk, if_neg (by simp), gB_0] at hC
    rw [o2 hname, Option.bind_some, if_neg (by simp), f1, bd_mk, gB_0, bd_mk] at hM
    unfold fx_X12_readLine_69_j37 at hM
    rw [if_pos rfl, gB_0] at hM
    exact Or.inr ⟨x1, m2, hC.symm, hM.symm, ⟨1, _, by decide, e3, f3⟩, FrX.of e2, F1.trans (FrM.of (f2.mono (by simp)))⟩
  obtain ⟨x1, e1, e2, e3, e4, e5⟩ := n1 hname
  have hname' := hname
  obtain ⟨w, hw, hw7, hwk⟩ := hname'
  have hwo := tok_okW hd1.1 hw hw7
  have D2 : DR x1 m1 nl nc dv sz dn nd cx cy gr ws st := D1.of e2 (SmF.refl _ _ _)
  have hq : fst1 (fun k => decide (x1.2.1 36 k = lN (p8 w))) nc = fst1 (fun k => decide (m1.2.1 71 (30 + k) = lN (p5 w))) nc := fst1_congr (fun k hk => by
    have q := D2.2.1.2.2.2 k hk
    rw [q.2.1, q.2.2.1, decide_eq_decide, lN8 q.1.1 hwo, lN5 q.1.1 hwo])
  rw [e1, bd_mk, if_pos (by decide), e5.word hw hw7, find_31 D2.2.1.2.1 D2.2.1.1, Option.bind_some, hq] at hC
  rw [o1 hname, Option.bind_some, if_pos (by decide), g3.word hw hw7, show (30 : Int32) = nI 30 from rfl, placeOf_m D2.2.1.1 (by decide), Option.bind_some] at hM
  have FX1 := FrX.of e2
  by_cases hfound : fst1 (fun k => decide (m1.2.1 71 (30 + k) = lN (p5 w))) nc < nc
  · have hne1 : ¬ ixO (fst1 (fun k => decide (m1.2.1 71 (30 + k) = lN (p5 w))) nc) nc = -1 := fun q => (ixO_m1 (by omega)).mp q hfound
    obtain ⟨x2, f1, f2, f3⟩ := fail_x x1 2 _ e5.1
    obtain ⟨m2, f4, f5, f6⟩ := fails_m m1 2 _ g3.1 R1.2.2.2.2.2.1
    rw [if_neg hne1, f1, bd_mk, gB_0] at hC
    rw [if_neg hne1, f4, bd_mk, gB_0, bd_mk] at hM
    unfold fx_X12_readLine_69_j37 at hM
    rw [if_pos rfl, gB_0] at hM
    exact Or.inr ⟨x2, m2, hC.symm, hM.symm, ⟨2, _, by decide, f3, f6⟩, FX1.trans (FrX.of (f2.mono (by simp))), F1.trans (FrM.of (f5.mono (by simp)))⟩
  have he1 := (ixO_m1 (r := fst1 (fun k => decide (m1.2.1 71 (30 + k) = lN (p5 w))) nc) (n := nc) (by omega)).mpr hfound
  rw [if_pos he1] at hC hM
  simp only [gI_nI hn (show 30 < 2 ^ 31 by decide), lt_eq, nI_clamp (show nc < 2 ^ 31 by omega)] at hC
  simp only [gI_nI (show 30 + nc < 60 by omega) (show 60 < 2 ^ 31 by decide), lt_eq, nI_clamp (show 30 + nc < 2 ^ 31 by omega)] at hM
  have TX1 := R1.1.of e2 (by decide)
  have D3 : DR (llSL x1 36 nc (lN (p8 w))) (llSL m1 71 (30 + nc) (lN (p5 w))) nl nc dv sz dn nd cx cy gr ws st := (D2.wxL (Nat.le_refl _)).wmL (Nat.le_refl _)
  have FX2 : FrX x (llSL x1 36 nc (lN (p8 w))) := FX1.SL
  have F2 : FrM m (llSL m1 71 (30 + nc) (lN (p5 w))) := F1.wmL (by omega)
  have TM2 : TM (llSL m1 71 (30 + nc) (lN (p5 w))) bb n := R1.2.1
  have MT2 : MT (llSL m1 71 (30 + nc) (lN (p5 w))) (tok bb n p1) := g3.congr rfl (SL_ne (by decide))
  obtain ⟨m3, i1, i2, i3⟩ := next_m (llSL m1 71 (30 + nc) (lN (p5 w))) bb n (tok bb n p1).2.1 TM2 hd1.2.2.1 MT2.2.1
  have i2' := i2.mono (ks' := kM) (by simp)
  have R3 : RR (llSL x1 36 nc (lN (p8 w))) m3 bb n (tok bb n p1).2.1 := ⟨TX1, TM2.of i2 (by decide), hd1.2.2.1, e5.at, i3, by rw [i2.2 19 (by decide)]; exact R1.2.2.2.2.2.1, e3.trans h7, e4.trans h8, by rw [i2.2 20 (by decide)]; exact R1.2.2.2.2.2.2.2.2⟩
  have D4 : DR (llSL x1 36 nc (lN (p8 w))) m3 nl nc dv sz dn nd cx cy gr ws st := D3.of (SmF.refl _ _ _) i2'
  have F3 := F2.trans (FrM.of i2')
  have s36 : (llSL x1 36 nc (lN (p8 w))).2.1 36 nc = lN (p8 w) := SL_same _ _ _ _
  have s71 : m3.2.1 71 (30 + nc) = lN (p5 w) := by rw [(i2.1 71 (by decide)).2.1]; exact SL_same _ _ _ _
  rw [i1, bd_mk] at hM
  generalize llSL x1 36 nc (lN (p8 w)) = x2 at *
  have q1 : p1 ≤ (tok bb n p1).2.1 := by have := hd1.2.1; have := hd1.1.1; omega
  generalize hp2 : (tok bb n p1).2.1 = p2 at *
  rcases num_L R3 0 99 with ⟨vx, x3, m4, a1, a2, a3, -, a4, a5, a6, a7, a8, R4, -⟩ | ⟨x3, m4, a4, a5, a7, a8, aB⟩
  case inr =>
    rw [a4, bd_mk, if_neg (by unfold rI; rw [nI_clamp (by omega), SI_same, upd_same]; simp), gB_0] at hC
    rw [a5, bd_mk, if_neg (by simp), gB_0, bd_mk] at hM
    unfold fx_X12_readLine_69_j37 at hM
    rw [if_pos rfl, gB_0] at hM
    exact Or.inr ⟨_, m4, hC.symm, hM.symm, aB.wx (by decide), (FX2.trans (FrX.of a7)).SI (by decide), F3.trans (FrM.of a8)⟩
  have bx := numU 99 a1 (by decide) a3
  have rx : rI (llSI x3 37 nc (nI vx)) 37 (nI nc) = nI vx := by unfold rI; rw [nI_clamp (by omega), SI_same, upd_same]
  rw [a4, bd_mk, rx, if_pos (nI_nm1 (by omega))] at hC
  rw [a5, bd_mk, if_pos (by decide), a6] at hM
  have D5 : DR (llSI x3 37 nc (nI vx)) (llSI m4 72 (30 + nc) (nI vx)) nl nc dv sz dn nd cx cy gr ws st := ((D4.of a7 a8).wx (by decide) (Nat.le_refl _)).wm (by decide) (Nat.le_refl _)
  have R5 : RR (llSI x3 37 nc (nI vx)) (llSI m4 72 (30 + nc) (nI vx)) bb n (tok bb n p2).2.1 := (R4.wx (by decide) (by decide)).wm (by decide) (by decide)
  have FX3 : FrX x (llSI x3 37 nc (nI vx)) := (FX2.trans (FrX.of a7)).SI (by decide)
  have F4 : FrM m (llSI m4 72 (30 + nc) (nI vx)) := (F3.trans (FrM.of a8)).wm (by decide) (by omega)
  have t36 : (llSI x3 37 nc (nI vx)).2.1 36 nc = lN (p8 w) := by show x3.2.1 36 nc = _; rw [(a7.1 36 (by decide)).2.1]; exact s36
  have t71 : (llSI m4 72 (30 + nc) (nI vx)).2.1 71 (30 + nc) = lN (p5 w) := by show m4.2.1 71 (30 + nc) = _; rw [(a8.1 71 (by decide)).2.1]; exact s71
  have t37 : (llSI x3 37 nc (nI vx)).1 37 nc = nI vx := by rw [SI_same, upd_same]
  have t72 : (llSI m4 72 (30 + nc) (nI vx)).1 72 (30 + nc) = nI vx := by rw [SI_same, upd_same]
  generalize llSI x3 37 nc (nI vx) = x4 at *
  generalize llSI m4 72 (30 + nc) (nI vx) = m5 at *
  have q2 : p2 ≤ (tok bb n p2).2.1 := by have := (tokD R3.1 R3.2.2.1).2.1; have := (tokD R3.1 R3.2.2.1).1.1; omega
  generalize hp3 : (tok bb n p2).2.1 = p3 at *
  rcases num_L R5 0 99 with ⟨vy, x5, m6, b1, b2, b3, -, b4, b5, b6, b7, b8, R6, -⟩ | ⟨x5, m6, b4, b5, b7, b8, bB⟩
  case inr =>
    rw [b4, bd_mk, if_pos (by unfold rI; rw [nI_clamp (by omega), SI_same, upd_same]), gB_0] at hC
    rw [b5, bd_mk, if_neg (by simp), gB_0, bd_mk] at hM
    unfold fx_X12_readLine_69_j37 at hM
    rw [if_pos rfl, gB_0] at hM
    exact Or.inr ⟨_, m6, hC.symm, hM.symm, bB.wx (by decide), (FX3.trans (FrX.of b7)).SI (by decide), F4.trans (FrM.of b8)⟩
  have bY := numU 99 b1 (by decide) b3
  have ry : rI (llSI x5 38 nc (nI vy)) 38 (nI nc) = nI vy := by unfold rI; rw [nI_clamp (by omega), SI_same, upd_same]
  rw [b4, bd_mk, ry, if_neg (nI_nm1 (by omega))] at hC
  rw [b5, bd_mk, if_pos (by decide), b6] at hM
  have D6 : DR (llSI x5 38 nc (nI vy)) (llSI m6 73 (30 + nc) (nI vy)) nl nc dv sz dn nd cx cy gr ws st := ((D5.of b7 b8).wx (by decide) (Nat.le_refl _)).wm (by decide) (Nat.le_refl _)
  have R7 : RR (llSI x5 38 nc (nI vy)) (llSI m6 73 (30 + nc) (nI vy)) bb n (tok bb n p3).2.1 := (R6.wx (by decide) (by decide)).wm (by decide) (by decide)
  have FX4 : FrX x (llSI x5 38 nc (nI vy)) := (FX3.trans (FrX.of b7)).SI (by decide)
  have F5 : FrM m (llSI m6 73 (30 + nc) (nI vy)) := (F4.trans (FrM.of b8)).wm (by decide) (by omega)
  have u36 : (llSI x5 38 nc (nI vy)).2.1 36 nc = lN (p8 w) := by show x5.2.1 36 nc = _; rw [(b7.1 36 (by decide)).2.1]; exact t36
  have u71 : (llSI m6 73 (30 + nc) (nI vy)).2.1 71 (30 + nc) = lN (p5 w) := by show m6.2.1 71 (30 + nc) = _; rw [(b8.1 71 (by decide)).2.1]; exact t71
  have u37 : (llSI x5 38 nc (nI vy)).1 37 nc = nI vx := by rw [SI_ne (by decide), (b7.1 37 (by decide)).1]; exact t37
  have u72 : (llSI m6 73 (30 + nc) (nI vy)).1 72 (30 + nc) = nI vx := by rw [SI_ne (by decide), (b8.1 72 (by decide)).1]; exact t72
  have u38 : (llSI x5 38 nc (nI vy)).1 38 nc = nI vy := by rw [SI_same, upd_same]
  have u73 : (llSI m6 73 (30 + nc) (nI vy)).1 73 (30 + nc) = nI vy := by rw [SI_same, upd_same]
  generalize llSI x5 38 nc (nI vy) = x6 at *
  generalize llSI m6 73 (30 + nc) (nI vy) = m7 at *
  have q3 : p3 ≤ (tok bb n p3).2.1 := by have := (tokD R5.1 R5.2.2.1).2.1; have := (tokD R5.1 R5.2.2.1).1.1; omega
  generalize hp4 : (tok bb n p3).2.1 = p4 at *
  rcases word_L5 R7 with ⟨x7, m8, -, c4, c5, c6, c7, R8⟩ | ⟨x7, m8, c4, c5, c6, c7, cB⟩
  case inr =>
    rw [c4, bd_mk, if_neg (by simp), gB_0] at hC
    rw [c5, bd_mk, if_pos rfl, gB_0, bd_mk] at hM
    unfold fx_X12_readLine_69_j37 at hM
    rw [if_pos rfl, gB_0] at hM
    exact Or.inr ⟨x7, m8, hC.symm, hM.symm, cB, FX4.trans (FrX.of c6), F5.trans (FrM.of c7)⟩
  rw [c4, bd_mk, if_pos (by decide)] at hC
  rw [c5, bd_mk, if_neg (by decide)] at hM
  have q4 : p4 ≤ (tok bb n p4).2.1 := by have := (tokD R7.1 R7.2.2.1).2.1; have := (tokD R7.1 R7.2.2.1).1.1; omega
  have D7 := D6.of c6 c7
  have FX5 := FX4.trans (FrX.of c6)
  have F6 := F5.trans (FrM.of c7)
  generalize hp5 : (tok bb n p4).2.1 = p5 at *
  rcases num_L R8 0 9 with ⟨vg, x8, m9, d1, d2, d3, -, d4, d5, d6, d7, d8, R9, -⟩ | ⟨x8, m9, d4, d5, d7, d8, dB⟩
  case inr =>
    rw [d4, bd_mk, if_pos (by unfold rI; rw [nI_clamp (by omega), SI_same, upd_same]), gB_0] at hC
    rw [d5, bd_mk, if_neg (by simp), gB_0, bd_mk] at hM
    unfold fx_X12_readLine_69_j37 at hM
    rw [if_pos rfl, gB_0] at hM
    exact Or.inr ⟨_, m9, hC.symm, hM.symm, dB.wx (by decide), (FX5.trans (FrX.of d7)).SI (by decide), F6.trans (FrM.of d8)⟩
  have bg := numU 9 d1 (by decide) d3
  have rg : rI (llSI x8 39 nc (nI vg)) 39 (nI nc) = nI vg := by unfold rI; rw [nI_clamp (by omega), SI_same, upd_same]
  rw [d4, bd_mk, rg, if_neg (nI_nm1 (by omega))] at hC
  rw [d5, bd_mk, if_pos (by decide), d6] at hM
  have D8 : DR (llSI x8 39 nc (nI vg)) (llSI (llSI (llSI m9 76 (30 + nc) (nI vg)) 74 (30 + nc) (-1)) 75 (30 + nc) (-1)) nl nc dv sz dn nd cx cy gr ws st := (((((D7.of d7 d8).wx (by decide) (Nat.le_refl _)).wm (by decide) (Nat.le_refl _)).wm (by decide) (Nat.le_refl _)).wm (by decide) (Nat.le_refl _))
  have R10 : RR (llSI x8 39 nc (nI vg)) (llSI (llSI (llSI m9 76 (30 + nc) (nI vg)) 74 (30 + nc) (-1)) 75 (30 + nc) (-1)) bb n (tok bb n p5).2.1 := (((R9.wx (by decide) (by decide)).wm (by decide) (by decide)).wm (by decide) (by decide)).wm (by decide) (by decide)
  have FX6 : FrX x (llSI x8 39 nc (nI vg)) := (FX5.trans (FrX.of d7)).SI (by decide)
  have F7 : FrM m (llSI (llSI (llSI m9 76 (30 + nc) (nI vg)) 74 (30 + nc) (-1)) 75 (30 + nc) (-1)) := (((F6.trans (FrM.of d8)).wm (by decide) (by omega)).wm (by decide) (by omega)).wm (by decide) (by omega)
  have q5 : p5 ≤ (tok bb n p5).2.1 := by have := (tokD R8.1 R8.2.2.1).2.1; have := (tokD R8.1 R8.2.2.1).1.1; omega
  have CX := c6.trans d7
  have CM := c7.trans d8
  have hplace := place_L D8 R10 hn (w := w) (vx := vx) (vy := vy) (vg := vg) ⟨hwo, hwk⟩ bx bY bg
    (by show x8.2.1 36 nc = _; rw [(CX.1 36 (by decide)).2.1]; exact u36)
    (by show m9.2.1 71 (30 + nc) = _; rw [(CM.1 71 (by decide)).2.1]; exact u71)
    (by rw [SI_ne (by decide), (CX.1 37 (by decide)).1]; exact u37)
    (by rw [SI_ne (by decide), (CX.1 38 (by decide)).1]; exact u38)
    (by rw [SI_same, upd_same])
    (by rw [SI_ne (by decide), SI_ne (by decide), SI_ne (by decide), (CM.1 72 (by decide)).1]; exact u72)
    (by rw [SI_ne (by decide), SI_ne (by decide), SI_ne (by decide), (CM.1 73 (by decide)).1]; exact u73)
    (by rw [SI_ne (by decide), SI_ne (by decide), SI_same, upd_same])
    (by rw [SI_ne (by decide), SI_same, upd_same])
    (by rw [SI_same, upd_same])
  rcases hplace with ⟨x9, ma, o, p6, j1, j2, j3, j4, j5, j6, j7⟩ | ⟨x9, ma, j1, j2, j3, j4, j5⟩
  · have hM' : some (ma, 1) = M := by rw [← j2]; exact hM
    rw [j1, bd_mk, if_pos (by decide), nI_1, gB_1] at hC
    exact Or.inl ⟨_, ma, _, _, _, _, _, p6, hC.symm, hM'.symm, j3, j4.wx (by decide) (by decide), by omega, (FX6.trans j6).SI (by decide), F7.trans j7⟩
  · have hM' : some (ma, 0) = M := by rw [← j2]; exact hM
    rw [j1, bd_mk, if_neg (by simp), gB_0] at hC
    exact Or.inr ⟨x9, ma, hC.symm, hM'.symm, j3, FX6.trans j4, F7.trans j5⟩
