set_option maxHeartbeats 2000000 in
/-- where a club stands, and the line's end -/
theorem place_L {x m : llMem} {bb : Nat → Nat} {n p : Nat} {nl nc : Nat} {dv sz dn nd cx cy gr : Nat → Nat} {ws : Nat → List Nat} {st : Nat → Option (Nat × Nat)} (hD : DR x m nl nc dv sz dn nd cx cy gr ws st) (hR : RR x m bb n p) (hn : nc < 30) {w : List Nat} {vx vy vg : Nat} (kw1 : okN w) (kx : vx ≤ 99) (ky : vy ≤ 99) (kg : vg ≤ 9)
    (x36 : x.2.1 36 nc = lN (p8 w)) (m71 : m.2.1 71 (30 + nc) = lN (p5 w)) (x37 : x.1 37 nc = nI vx) (x38 : x.1 38 nc = nI vy) (x39 : x.1 39 nc = nI vg) (m72 : m.1 72 (30 + nc) = nI vx) (m73 : m.1 73 (30 + nc) = nI vy) (m76 : m.1 76 (30 + nc) = nI vg) (m74 : m.1 74 (30 + nc) = -1) (m75 : m.1 75 (30 + nc) = -1) :
    (∃ x' m' o p', fx_X6_readPlace_30 x (nI nc) = some (x', 1) ∧ bd (clubTail m (nI (30 + nc))) (fun u r => fx_X12_readLine_69_j37 u r) = some (m', 1) ∧ DR (llSI x' 31 5 (nI (nc + 1))) m' nl (nc + 1) dv sz dn nd (upF cx nc vx) (upF cy nc vy) (upF gr nc vg) (upF ws nc w) (upF st nc o) ∧ RR x' m' bb n p' ∧ p ≤ p' ∧ FrX x x' ∧ FrM m m') ∨
    (∃ x' m', fx_X6_readPlace_30 x (nI nc) = some (x', 0) ∧ bd (clubTail m (nI (30 + nc))) (fun u r => fx_X12_readLine_69_j37 u r) = some (m', 0) ∧ BB x' m' ∧ FrX x x' ∧ FrM m m') := by
  have hl4 := hD.1.1
  generalize hC : fx_X6_readPlace_30 x (nI nc) = C
  generalize hM : bd (clubTail m (nI (30 + nc))) (fun u r => fx_X12_readLine_69_j37 u r) = M
  unfold fx_X6_readPlace_30 fx_X6_readPlace_30_j63 at hC
  unfold clubTail fx_X12_readClub_69_j306 fx_X12_readLine_69_j37 at hM
  simp only [gI_nI hn (show 30 < 2 ^ 31 by decide), lt_eq, nI_clamp (show nc < 2 ^ 31 by omega)] at hC
  have D2 : DR (llSI (llSI x 40 nc (-1)) 41 nc (-1)) m nl nc dv sz dn nd cx cy gr ws st := (hD.wx (by decide) (Nat.le_refl _)).wx (by decide) (Nat.le_refl _)
  have R2 : RR (llSI (llSI x 40 nc (-1)) 41 nc (-1)) m bb n p := (hR.wx (by decide) (by decide)).wx (by decide) (by decide)
  have F2 : FrX x (llSI (llSI x 40 nc (-1)) 41 nc (-1)) := ((FrX.refl x).SI (by decide)).SI (by decide)
  have y36 : (llSI (llSI x 40 nc (-1)) 41 nc (-1)).2.1 36 nc = lN (p8 w) := x36
  have y37 : (llSI (llSI x 40 nc (-1)) 41 nc (-1)).1 37 nc = nI vx := by rw [SI_ne (by decide), SI_ne (by decide)]; exact x37
  have y38 : (llSI (llSI x 40 nc (-1)) 41 nc (-1)).1 38 nc = nI vy := by rw [SI_ne (by decide), SI_ne (by decide)]; exact x38
  have y39 : (llSI (llSI x 40 nc (-1)) 41 nc (-1)).1 39 nc = nI vg := by rw [SI_ne (by decide), SI_ne (by decide)]; exact x39
  have y40 : (llSI (llSI x 40 nc (-1)) 41 nc (-1)).1 40 nc = -1 := by rw [SI_ne (by decide), SI_same, upd_same]
  have y41 : (llSI (llSI x 40 nc (-1)) 41 nc (-1)).1 41 nc = -1 := by rw [SI_same, upd_same]
  generalize llSI (llSI x 40 nc (-1)) 41 nc (-1) = x2 at *
  obtain ⟨hT, hTM, hp, hat, hMT, h0, h7, h8, h20⟩ := R2
  have hd := tokD hT hp
  obtain ⟨x3, e1, e2, e3⟩ := next_x x2 bb n p hT hp hat
  have e2' : SmF 1 kX x2 x3 := e2.mono (by simp)
  rw [e1, bd_mk] at hC
  obtain ⟨k1, k2, k3, k4⟩ := kw_ok 6 (by decide)
  rw [isWord_x e3 hd.1 k3 k1 (z := 26990) (by rw [kw8.2.2.2.2.2.2]; rfl), Option.bind_some] at hC
  rw [isWord_m6 hMT hd.1, Option.bind_some] at hM
  have D3 : DR x3 m nl nc dv sz dn nd cx cy gr ws st := D2.of e2' (SmF.refl _ _ _)
  have F3 : FrX x x3 := F2.trans (FrX.of e2')
  have z36 : x3.2.1 36 nc = lN (p8 w) := by rw [(e2.1 36 (by decide)).2.1]; exact y36
  have z37 : x3.1 37 nc = nI vx := by rw [(e2.1 37 (by decide)).1]; exact y37
  have z38 : x3.1 38 nc = nI vy := by rw [(e2.1 38 (by decide)).1]; exact y38
  have z39 : x3.1 39 nc = nI vg := by rw [(e2.1 39 (by decide)).1]; exact y39
  have z40 : x3.1 40 nc = -1 := by rw [(e2.1 40 (by decide)).1]; exact y40
  have z41 : x3.1 41 nc = -1 := by rw [(e2.1 41 (by decide)).1]; exact y41
  have z7 : x3.1 1 7 = 0 := by rw [e2.2 7 (by decide)]; exact h7
  have z8 : x3.1 1 8 = -1 := by rw [e2.2 8 (by decide)]; exact h8
  have hTX3 := hT.of e2 (by decide)
  by_cases hin : (tok bb n p).2.2 = some (.inl (kw 6))
  · -- in
    have hpos := hd.2.2.2 (by rw [hin]; simp)
    rw [if_pos hin, if_pos (show ¬ (1 : Int32) = 0 by decide)] at hC
    rw [if_pos hin, if_neg (show ¬ (1 : Int32) = 0 by decide)] at hM
    obtain ⟨m1, g1, g2, g3⟩ := next_m m bb n (tok bb n p).2.1 hTM hd.2.2.1 hMT.2.1
    have g2' : SmF 69 kM m m1 := g2.mono (by simp)
    have R3 : RR x3 m1 bb n (tok bb n p).2.1 := ⟨hTX3, hTM.of g2 (by decide), hd.2.2.1, e3.at, g3, by rw [g2.2 19 (by decide)]; exact h0, z7, z8, by rw [g2.2 20 (by decide)]; exact h20⟩
    have D4 : DR x3 m1 nl nc dv sz dn nd cx cy gr ws st := D3.of (SmF.refl _ _ _) g2'
    rw [g1, bd_mk, D4.1.2.2.1] at hM
    rw [D4.1.2.1] at hC
    generalize hp1 : (tok bb n p).2.1 = p1 at *
    rcases num_L R3 0 (nI nl - 1) with ⟨l, x4, m2, a1, a2, a3, -, a4, a5, a6, a7, a8, R4, -⟩ | ⟨x4, m2, a4, a5, a7, a8, aB⟩
    case inr =>
      rw [a4, bd_mk, hasLevel_31n, Option.bind_some, if_neg (by simp), gB_0] at hC
      rw [a5, bd_mk, if_neg (by simp), gB_0, bd_mk, if_pos rfl, gB_0] at hM
      exact Or.inr ⟨x4, m2, hC.symm, hM.symm, aB, F3.trans (FrX.of a7), (FrM.of g2').trans (FrM.of a8)⟩
    have hl := nI_le_m1 (by omega) (by omega) a3
    have q1 : p1 ≤ (tok bb n p1).2.1 := by have := (tokD R3.1 R3.2.2.1).2.1; have := (tokD R3.1 R3.2.2.1).1.1; omega
    have D5 : DR x4 m2 nl nc dv sz dn nd cx cy gr ws st := D4.of a7 a8
    obtain ⟨b1, b2, b3, b4, b5, b6, b7, b8, b9, b10, b11, b12, b13, b14, b15⟩ := D5.1.2.2.2 l hl
    rw [a4, bd_mk, hasLevel_31 D5.1.2.1 D5.1.1 l (by omega), Option.bind_some, if_pos hl, if_pos (by decide), gI_nI (by omega) (by decide)] at hC
    rw [a5, bd_mk, if_pos (by decide)] at hM
    simp only [lt_eq] at hM
    have e16 : (4 : Int32) * (4 + nI l) = nI (16 + 4 * l) := by
      rw [show (4 : Int32) = nI 4 from rfl, nI_add, pk_mul]; congr 1; omega
    have z0 : nI (16 + 4 * l) + 0 = nI (16 + 4 * l) := nI_add _ 0
    have z1 : nI (16 + 4 * l) + 1 = nI (16 + 4 * l + 1) := nI_add _ 1
    have r32 : rI x4 32 (nI l) = nI (dv l) := by unfold rI; rw [nI_clamp (by omega)]; exact b1
    have r33 : ∀ x5, SmF 1 kX x4 x5 → rI x5 33 (nI l) = nI (sz l) := fun x5 h => by unfold rI; rw [nI_clamp (by omega), (h.1 33 (by decide)).1]; exact b2
    have r70 : rI m2 70 (nI (16 + 4 * l)) = nI (dv l) := by unfold rI; rw [nI_clamp (by omega)]; exact b5
    have r71 : rI m2 70 (nI (16 + 4 * l + 1)) = nI (sz l) := by unfold rI; rw [nI_clamp (by omega)]; exact b6
    rw [a6, e16] at hM
    rw [r32] at hC
    have F4 := F3.trans (FrX.of a7)
    have G4 := (FrM.of g2').trans (FrM.of a8)
    generalize hp2 : (tok bb n p1).2.1 = p2 at *
    have hd2 := tokD R4.1 R4.2.2.1
    rcases num_L R4 0 (nI (dv l) - 1) with ⟨d, x5, m3, c1, c2, c3, c0, c4, c5, c6, c7, c8, R5, ct⟩ | ⟨x5, m3, c4, c5, c7, c8, cB⟩
    case inr =>
      have hno : ∀ d, isNum (tok bb n p2) d → ¬ d < dv l := fun d h1 h2 => by
        obtain ⟨u', f1, -⟩ := (takeNumber_x R4.1 R4.2.2.1 R4.2.2.2.1 0 (nI (dv l) - 1)).1 d h1 (nI_nneg (by omega)) (nI_le_m1' h2 (by omega))
        rw [f1] at c4
        injection c4 with c4
        injection c4 with c4 c9
        exact nI_nm1 (by omega) c9
      rw [preM2 R4.2.2.2.2.1 hd2.1 z0 (show 16 + 4 * l < 32 by omega) (by rw [z0]; exact r70) (show dv l ≤ 99 by omega) _ (fun k => (fx_X12_manyIn_69 m2 (nI l) k).bind (fun r31 => gI (nI (16 + 4 * l) + 1) 32 (if ¬ r31 = (rI m2 70 (nI (16 + 4 * l) + 1)) then fx_X12_readClub_69_j269 m2 (nI (30 + nc)) (nI l) (nI (16 + 4 * l)) else bd (fx_X12_fails_69 m2 3) (fun u32 r33 => gB r33 (some (u32, r33)))))) hno] at hM
      unfold fx_X12_readClub_69_j269 at hM
      rw [z0, gI_nI (by omega) (by decide), r70, c5, bd_mk, if_neg (by simp), gB_0, bd_mk, if_pos rfl, gB_0] at hM
      rw [c4, bd_mk, if_neg (by simp), gB_0] at hC
      exact Or.inr ⟨x5, m3, hC.symm, hM.symm, cB, F4.trans (FrX.of c7), G4.trans (FrM.of c8)⟩
    have hdd := nI_le_m1 (by omega) (by omega) c3
    have D6 : DR x5 m2 nl nc dv sz dn nd cx cy gr ws st := D5.of c7 (SmF.refl _ _ _)
    have D7 : DR x5 m3 nl nc dv sz dn nd cx cy gr ws st := D5.of c7 c8
    have F5 := F4.trans (FrX.of c7)
    have hle := D5.2.2 l d hl hdd
    rw [preM1 R4.2.2.2.2.1 hd2.1 z0 (show 16 + 4 * l < 32 by omega) (by rw [z0]; exact r70) (show dv l ≤ 99 by omega) _ (fun k => (fx_X12_manyIn_69 m2 (nI l) k).bind (fun r31 => gI (nI (16 + 4 * l) + 1) 32 (if ¬ r31 = (rI m2 70 (nI (16 + 4 * l) + 1)) then fx_X12_readClub_69_j269 m2 (nI (30 + nc)) (nI l) (nI (16 + 4 * l)) else bd (fx_X12_fails_69 m2 3) (fun u32 r33 => gB r33 (some (u32, r33)))))) c0 hdd] at hM
    simp only [manyIn_m D6.2.1.2.2.1 D6.2.1.1, inDiv_m D6 (show l < 99 by omega) (show d < 99 by omega), Option.bind_some] at hM
    rw [z1, gI_nI (by omega) (by decide), r71] at hM
    rw [c4, bd_mk, if_pos (nI_nm1 (by omega)), howManyIn_31 D6.2.1.2.1 D6.2.1.1, inDiv_x D6 (show l < 99 by omega) (show d < 99 by omega), Option.bind_some, gI_nI (by omega) (by decide), r33 x5 c7] at hC
    by_cases hf : inDiv st l d nc = sz l
    · rw [if_neg (nlt2 (by omega) (by omega) (by omega))] at hC
      rw [if_neg (fun q => q (by rw [hf]))] at hM
      obtain ⟨x6, f1, f2, f3⟩ := fail_x x5 3 _ ct.1
      obtain ⟨m4, f4, f5, f6⟩ := fails_m m2 3 _ R4.2.2.2.2.1.1 R4.2.2.2.2.2.1
      rw [f1, bd_mk, gB_0] at hC
      rw [f4, bd_mk, gB_0, bd_mk, if_pos rfl, gB_0] at hM
      exact Or.inr ⟨x6, m4, hC.symm, hM.symm, ⟨3, _, by decide, f3, f6⟩, F5.trans (FrX.of (f2.mono (by simp))), G4.trans (FrM.of (f5.mono (by simp)))⟩
    · rw [if_pos (lt2 (by omega) (by omega) (by omega))] at hC
      rw [if_pos (fun q => hf ((nI_eq (by omega) (by omega)).mp q))] at hM
      unfold fx_X12_readClub_69_j269 fx_X12_readClub_69_j306 at hM
      rw [z0, gI_nI (by omega) (by decide), r70, c5, bd_mk, if_pos (by decide)] at hM
      simp only [gI_nI (show 30 + nc < 60 by omega) (show 60 < 2 ^ 31 by decide), lt_eq, nI_clamp (show 30 + nc < 2 ^ 31 by omega), gB_1, bd_mk, SI_ne (show (69 : Nat) ≠ 74 by decide), SI_ne (show (69 : Nat) ≠ 75 by decide), c6] at hM
      rw [D7.2.1.2.2.1, nI_1, if_neg (by decide)] at hM
      have R6 : RR (llSI (llSI x5 40 nc (nI l)) 41 nc (nI d)) (llSI (llSI (llSI m3 74 (30 + nc) (nI l)) 75 (30 + nc) (nI d)) 69 10 (nI (nc + 1))) bb n (tok bb n p2).2.1 := ((((R5.wx (by decide) (by decide)).wx (by decide) (by decide)).wm (by decide) (by decide)).wm (by decide) (by decide)).m69 (by decide)
      have F6 : FrX x (llSI (llSI x5 40 nc (nI l)) 41 nc (nI d)) := (F5.SI (by decide)).SI (by decide)
      have G6 : FrM m (llSI (llSI (llSI m3 74 (30 + nc) (nI l)) 75 (30 + nc) (nI d)) 69 10 (nI (nc + 1))) := (((G4.trans (FrM.of c8)).wm (by decide) (by omega)).wm (by decide) (by omega)).m69 (by decide)
      have q2 : p2 ≤ (tok bb n p2).2.1 := by have := hd2.2.1; have := hd2.1.1; omega
      rcases sign_L R6 (k := 59) (by decide) (z := 59) rfl with ⟨x8, md, -, i4, i5, i6, i7, R10⟩ | ⟨x8, md, i4, i5, i6, i7, iB⟩
      case inr =>
        rw [i4, bd_mk, gB_0] at hC
        rw [i5, bd_mk, if_pos rfl, gB_0] at hM
        exact Or.inr ⟨x8, md, hC.symm, hM.symm, iB, F6.trans (FrX.of i6), G6.trans (FrM.of i7)⟩
      rw [i4, bd_mk, gB_1] at hC
      rw [i5, bd_mk, if_neg (by decide)] at hM
      have q3 : (tok bb n p2).2.1 ≤ (tok bb n (tok bb n p2).2.1).2.1 := by have := (tokD R6.1 R6.2.2.1).2.1; have := (tokD R6.1 R6.2.2.1).1.1; omega
      refine Or.inl ⟨x8, md, some (l, d), _, hC.symm, hM.symm, ?_, R10, by omega, F6.trans (FrX.of i6), G6.trans (FrM.of i7)⟩
      refine D7.addClub hn ?_ ?_ ?_ ?_ ?_ ?_ ?_ ?_ ?_ ?_
      · rw [SI_same, upd_ne (by decide), (i6.1 31 (by decide)).1, SI_ne (by decide), SI_ne (by decide)]
      · rw [SI_same, upd_same]
      · intro c hc
        have n1 : c ≠ 1 := fun e => by rw [e] at hc; revert hc; decide
        have n2 : c ≠ 31 := fun e => by rw [e] at hc; revert hc; decide
        have n3 : c ≠ 40 := fun e => by rw [e] at hc; revert hc; decide
        have n4 : c ≠ 41 := fun e => by rw [e] at hc; revert hc; decide
        rw [SI_ne n2, (i6.1 c n1).1, SI_ne n4, SI_ne n3]
      · rw [i7.2 2 (by decide), SI_same, upd_ne (by decide), SI_ne (by decide), SI_ne (by decide)]
      · rw [i7.2 10 (by decide), SI_same, upd_same]
      · rw [(i7.1 70 (by decide)).1, SI_ne (by decide), SI_ne (by decide), SI_ne (by decide)]
      · intro k hk
        refine ⟨by rw [show (llSI x8 31 5 (nI (nc + 1))).2.1 = x8.2.1 from rfl, (i6.1 36 (by decide)).2.1]; rfl, fun c hc => ?_⟩
        have n1 : c ≠ 1 := fun e => by rw [e] at hc; revert hc; decide
        have n2 : c ≠ 31 := fun e => by rw [e] at hc; revert hc; decide
        rw [SI_ne n2, (i6.1 c n1).1]
        rw [SI_at (by omega), SI_at (by omega)]
      · intro k hk
        refine ⟨by rw [(i7.1 71 (by decide)).2.1]; rfl, fun c hc => ?_⟩
        have n1 : c ≠ 69 := fun e => by rw [e] at hc; revert hc; decide
        rw [(i7.1 c n1).1, SI_ne n1]
        rw [SI_at (by omega), SI_at (by omega)]
      · have SX : SmF 1 kX x2 x5 := (e2'.trans a7).trans c7
        have SM : SmF 69 kM m m3 := (g2'.trans a8).trans c8
        have t1 : ∀ c, c ∈ [37, 38, 39] → (llSI x8 31 5 (nI (nc + 1))).1 c nc = x2.1 c nc := fun c hc => by
          simp only [List.mem_cons, List.not_mem_nil, or_false] at hc
          rw [SI_ne (by omega), (i6.1 c (by omega)).1, SI_ne (by omega), SI_ne (by omega), (SX.1 c (by omega)).1]
        have t2 : ∀ c, c ∈ [72, 73, 76] → md.1 c (30 + nc) = m.1 c (30 + nc) := fun c hc => by
          simp only [List.mem_cons, List.not_mem_nil, or_false] at hc
          rw [(i7.1 c (by omega)).1, SI_ne (by omega), SI_ne (by omega), SI_ne (by omega), (SM.1 c (by omega)).1]
        have t40 : (llSI x8 31 5 (nI (nc + 1))).1 40 nc = nI l := by rw [SI_ne (by decide), (i6.1 40 (by decide)).1, SI_ne (by decide), SI_same, upd_same]
        have t41 : (llSI x8 31 5 (nI (nc + 1))).1 41 nc = nI d := by rw [SI_ne (by decide), (i6.1 41 (by decide)).1, SI_same, upd_same]
        have t74 : md.1 74 (30 + nc) = nI l := by rw [(i7.1 74 (by decide)).1, SI_ne (by decide), SI_ne (by decide), SI_same, upd_same]
        have t75 : md.1 75 (30 + nc) = nI d := by rw [(i7.1 75 (by decide)).1, SI_ne (by decide), SI_same, upd_same]
        refine ⟨kw1, ?_, ?_, by rw [t1 37 (by simp)]; exact y37, by rw [t1 38 (by simp)]; exact y38, by rw [t1 39 (by simp)]; exact y39, by rw [t2 72 (by simp)]; exact m72, by rw [t2 73 (by simp)]; exact m73, by rw [t2 76 (by simp)]; exact m76, kx, ky, kg, t74.trans t40.symm, t75.trans t41.symm, hl, hdd, t40, t41⟩
        · show x8.2.1 36 nc = _
          rw [(i6.1 36 (by decide)).2.1]
          show x5.2.1 36 nc = _
          rw [(SX.1 36 (by decide)).2.1]; exact y36
        · rw [(i7.1 71 (by decide)).2.1]
          show m3.2.1 71 (30 + nc) = _
          rw [(SM.1 71 (by decide)).2.1]; exact m71
      · intro l' d' e
        injection e with e
        injection e with e1 e2
        subst e1; subst e2
        omega
  · -- waits
    rw [if_neg hin, if_neg (by simp), isSign_x e3 hd.1 (k := 59) (by decide) (z := 59) rfl, Option.bind_some] at hC
    simp only [if_neg hin, if_pos, lt_eq, gB_1, bd_mk] at hM
    rw [D3.2.1.2.2.1, nI_1, if_neg (show ¬ (1 : Int32) = 0 by decide)] at hM
    have TM1 : TM (llSI m 69 10 (nI (nc + 1))) bb n := hTM.of (SmF.SI (ks := [10]) (by simp)) (by decide)
    have MT1 : MT (llSI m 69 10 (nI (nc + 1))) (tok bb n p) := by
      have e : ∀ j, j ≠ 10 → (llSI m 69 10 (nI (nc + 1))).1 69 j = m.1 69 j := fun j hj => SI_at hj
      exact hMT.f (e 22 (by decide)) (e 23 (by decide)) (e 21 (by decide)) rfl (e 25 (by decide)) (e 26 (by decide))
    have h01 : (llSI m 69 10 (nI (nc + 1))).1 69 19 = 0 := by rw [SI_at (by decide)]; exact h0
    have h201 : (llSI m 69 10 (nI (nc + 1))).1 69 20 = -1 := by rw [SI_at (by decide)]; exact h20
    have G1 : FrM m (llSI m 69 10 (nI (nc + 1))) := (FrM.refl m).m69 (by decide)
    obtain ⟨d1, d2⟩ := takesSign_m TM1 hp MT1 h01 (k := 59) (by decide) (z := 59) rfl
    by_cases hs : (tok bb n p).2.2 = some (.inr (.inr 59))
    · obtain ⟨m2, f1, f2, f3, f4, f6⟩ := d1 hs
      rw [if_pos hs, if_pos (by decide), gB_1] at hC
      rw [f1, bd_mk, if_neg (by decide)] at hM
      have q1 : p ≤ (tok bb n p).2.1 := by have := hd.2.1; have := hd.1.1; omega
      refine Or.inl ⟨x3, m2, none, (tok bb n p).2.1, hC.symm, hM.symm, ?_, ⟨hTX3, TM1.of f2 (by decide), hd.2.2.1, e3.at, f6, f3, z7, z8, f4.trans h201⟩, q1, F3, G1.trans (FrM.of f2)⟩
      refine D3.addClub hn ?_ ?_ ?_ ?_ ?_ ?_ ?_ ?_ ?_ (fun l d e => by cases e)
      · rw [SI_at (by decide)]
      · rw [SI_same, upd_same]
      · intro c hc
        simp only [List.mem_cons, List.not_mem_nil, or_false] at hc
        rw [SI_ne (by omega)]
      · rw [f2.2 2 (by decide), SI_at (by decide)]
      · rw [f2.2 10 (by decide), SI_same, upd_same]
      · rw [(f2.1 70 (by decide)).1, SI_ne (by decide)]
      · intro k hk
        refine ⟨rfl, fun c hc => ?_⟩
        simp only [List.mem_cons, List.not_mem_nil, or_false] at hc
        rw [SI_ne (by omega)]
      · intro k hk
        refine ⟨by rw [(f2.1 71 (by decide)).2.1]; rfl, fun c hc => ?_⟩
        simp only [List.mem_cons, List.not_mem_nil, or_false] at hc
        rw [(f2.1 c (by omega)).1, SI_ne (by omega)]
      · have t1 : ∀ c, c ∈ [37, 38, 39, 40, 41] → (llSI x3 31 5 (nI (nc + 1))).1 c nc = x3.1 c nc := fun c hc => by
          simp only [List.mem_cons, List.not_mem_nil, or_false] at hc
          rw [SI_ne (by omega)]
        have t2 : ∀ c, c ∈ [72, 73, 74, 75, 76] → m2.1 c (30 + nc) = m.1 c (30 + nc) := fun c hc => by
          simp only [List.mem_cons, List.not_mem_nil, or_false] at hc
          rw [(f2.1 c (by omega)).1, SI_ne (by omega)]
        unfold DC
        rw [t1 37 (by simp), t1 38 (by simp), t1 39 (by simp), t1 40 (by simp), t1 41 (by simp), t2 72 (by simp), t2 73 (by simp), t2 74 (by simp), t2 75 (by simp), t2 76 (by simp)]
        exact ⟨kw1, z36, by rw [(f2.1 71 (by decide)).2.1]; exact m71, z37, z38, z39, m72, m73, m76, kx, ky, kg, m74.trans z40.symm, m75.trans z41.symm, z40, z41⟩
    · obtain ⟨m2, f1, f2, f3⟩ := d2 hs
      obtain ⟨x4, f4, f5, f6⟩ := fail_x x3 1 _ e3.1
      rw [if_neg hs, if_neg (by simp), f4, bd_mk, if_pos rfl, gB_0] at hC
      rw [f1, bd_mk, if_pos rfl, gB_0] at hM
      exact Or.inr ⟨x4, m2, hC.symm, hM.symm, ⟨1, _, by decide, f6, f3⟩, F3.trans (FrX.of (f5.mono (by simp))), G1.trans (FrM.of f2)⟩
