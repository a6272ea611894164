/-! the lines of a pyramid's text, one by one -/
theorem CT.kind {x : llMem} {t : Tk} (h : CT x t) : x.1 1 2 = 0 ↔ t.2.2 = none := by
  obtain ⟨_, _, h3⟩ := h
  cases hs : t.2.2 with
  | none => rw [hs] at h3; exact ⟨fun _ => rfl, fun _ => h3⟩
  | some y =>
    rw [hs] at h3
    refine ⟨fun q => ?_, fun q => by cases q⟩
    exfalso
    cases y with
    | inl w =>
      by_cases h7 : w.length ≤ 7
      · simp only [if_pos h7] at h3; rw [h3.1] at q; revert q; decide
      · simp only [if_neg h7] at h3; rw [h3] at q; revert q; decide
    | inr y =>
      cases y with
      | inl v =>
        by_cases h7 : t.2.1 - t.1 ≤ 3
        · simp only [if_pos h7] at h3; rw [h3.1] at q; revert q; decide
        · simp only [if_neg h7] at h3; rw [h3] at q; revert q; decide
      | inr v => rw [h3.1] at q; revert q; decide
def more (t : Tk) : Int32 := match t.2.2 with
  | none => 0
  | some _ => 1
theorem more_0 {t : Tk} (h : t.2.2 = none) : more t = 0 := by unfold more; rw [h]
theorem more_1 {t : Tk} (h : t.2.2 ≠ none) : more t = 1 := by
  unfold more
  cases hs : t.2.2 with
  | none => exact absurd hs h
  | some y => rfl
/-- how the reading of a pyramid's text ends -/
def REnd (x m : llMem) (bb : Nat → Nat) (n : Nat) (cl : Option ((llMem) ⊕ (llMem × Int32))) (re : Option llMem) : Prop :=
  (∃ x' m', cl = some (.inr (x', 0)) ∧ re = some m' ∧ BB x' m' ∧ FrX x x' ∧ FrM m m') ∨
  (∃ x' m' nl nc dv sz dn nd cx cy gr ws st, cl = some (.inr (x', 1)) ∧ re = some m' ∧ FullSt nl nc dv sz st ∧ DR x' m' nl nc dv sz dn nd cx cy gr ws st ∧ (∃ pl, m'.1 69 22 = nI pl) ∧ m'.1 69 19 = 0 ∧ m'.1 69 20 = -1 ∧ x'.1 1 7 = 0 ∧ x'.1 1 8 = -1 ∧ FrX x x' ∧ FrM m m') ∨
  (∃ x' m' nl nc dv sz dn nd cx cy gr ws st pl, cl = some (.inr (x', 0)) ∧ re = some m' ∧ ¬ FullSt nl nc dv sz st ∧ (∃ x1, DR x1 m' nl nc dv sz dn nd cx cy gr ws st) ∧ m'.1 69 22 = nI pl ∧ FX x' 5 pl ∧ m'.1 69 19 = 0 ∧ m'.1 69 20 = -1 ∧ FrX x x' ∧ FrM m m')
theorem loop_inl {S E : Type} {body : S → Option (S ⊕ E)} {s s' : S} {f : Nat} (h : body s = some (.inl s')) : loop body (f + 1) s = loop body f s' := by
  conv => lhs; unfold loop
  rw [h]
theorem loop_inr {S E : Type} {body : S → Option (S ⊕ E)} {s : S} {e : E} {f : Nat} (h : body s = some (.inr e)) : loop body (f + 1) s = some e := by
  unfold loop
  rw [h]
set_option maxHeartbeats 1000000 in
theorem read_L (x0 m0 : llMem) (bb : Nat → Nat) (n : Nat) : ∀ (k : Nat) (x m : llMem) (i p : Nat) (f1 f2 : Nat) (nl nc : Nat) (dv sz dn nd cx cy gr : Nat → Nat) (ws : Nat → List Nat) (st : Nat → Option (Nat × Nat)), n - p ≤ k → RR x m bb n p → DR x m nl nc dv sz dn nd cx cy gr ws st → i + (n - p) ≤ 700 → FrX x0 x → FrM m0 m → k < f1 → k + 1 < f2 → REnd x0 m0 bb n (loop fx_X6_read_30_l25 f1 (x, nI i)) (loop fx_X12_pyramid_69_l27 f2 (m, more (tok bb n p)))
  | k, x, m, i, p, f1, f2, nl, nc, dv, sz, dn, nd, cx, cy, gr, ws, st, hk, hR, hD, hi, FX0, FM0, hf1, hf2 => by
    obtain ⟨hT, hTM, hp, hat, hMT, h0, h7, h8, h20⟩ := hR
    have hd := tokD hT hp
    obtain ⟨x1, e1, e2, e3⟩ := next_x x bb n p hT hp hat
    have e2' : SmF 1 kX x x1 := e2.mono (by simp)
    have D1 : DR x1 m nl nc dv sz dn nd cx cy gr ws st := hD.of e2' (SmF.refl _ _ _)
    have F1 : FrX x0 x1 := FX0.trans (FrX.of e2')
    have T1 := hT.of e2 (by decide)
    have h71 : x1.1 1 7 = 0 := by rw [e2.2 7 (by decide)]; exact h7
    have h81 : x1.1 1 8 = -1 := by rw [e2.2 8 (by decide)]; exact h8
    obtain ⟨f1, rfl⟩ : ∃ g, f1 = g + 1 := ⟨f1 - 1, by omega⟩
    obtain ⟨f2, rfl⟩ : ∃ g, f2 = g + 1 := ⟨f2 - 1, by omega⟩
    have hb : ∀ z, z = fx_X6_read_30_l25 (x, nI i) → z = (if ¬ (x1.1 1 2) = 0 then (fx_X9_isWord_1 x1 465558725996).bind (fun r5 => (if r5 = 0 then (fx_X9_isWord_1 x1 1668052322).bind (fun r6 => (if r6 = 0 then bd (fx_X9_fail_1 x1 1) (fun u7 r8 => fx_X6_read_30_j138_b25 u7 (nI i) r8) else bd (fx_X6_readClub_30 x1 (x1.1 31 5)) (fun u10 r11 => fx_X6_read_30_j138_b25 u10 (nI i) r11))) else bd (fx_X6_readLevel_30 x1 (x1.1 31 0)) (fun u12 r13 => fx_X6_read_30_j138_b25 u12 (nI i) r13))) else (fx_X6_allFull_30 x1 ).bind (fun r14 => (if ¬ r14 = 0 then fx_X6_read_30_j67_b25 x1  else bd (fx_X9_fail_1 x1 5) (fun u15 r16 => (if r16 = 0 then gB 0 (some (.inr (.inr (u15, 0)))) else fx_X6_read_30_j67_b25 u15 ))))) := by
      intro z hz
      rw [hz]
      unfold fx_X6_read_30_l25
      dsimp only
      rw [if_neg (Lnlt 700 (by omega) (by decide) (by omega)), e1, bd_mk]
    have hb := hb _ rfl
    by_cases hend : (tok bb n p).2.2 = none
    · -- the end
      rw [more_0 hend, loop_inr (show fx_X12_pyramid_69_l27 (m, 0) = some (.inr m) by unfold fx_X12_pyramid_69_l27; dsimp only; rw [if_pos rfl])]
      rw [if_neg (fun q => q (e3.kind.mpr hend))] at hb
      obtain ⟨g1, g2⟩ := allFull_x D1
      by_cases hf : FullSt nl nc dv sz st
      · rw [g1 hf, Option.bind_some, if_pos (by decide)] at hb
        unfold fx_X6_read_30_j67_b25 at hb
        rw [gB_1] at hb
        rw [loop_inr hb]
        exact Or.inr (Or.inl ⟨x1, m, nl, nc, dv, sz, dn, nd, cx, cy, gr, ws, st, rfl, rfl, hf, D1, ⟨_, hMT.1⟩, h0, h20, h71, h81, F1, FM0⟩)
      · obtain ⟨x2, j1, j2, j3⟩ := fail_x x1 5 _ e3.1
        rw [g2 hf, Option.bind_some, if_neg (by simp), j1, bd_mk, if_pos rfl, gB_0] at hb
        rw [loop_inr hb]
        exact Or.inr (Or.inr ⟨x2, m, nl, nc, dv, sz, dn, nd, cx, cy, gr, ws, st, _, rfl, rfl, hf, ⟨x1, D1⟩, hMT.1, j3, h0, h20, F1.trans (FrX.of (j2.mono (by simp))), FM0⟩)
    · have hpos := hd.2.2.2 hend
      have hmz : ∀ z, bd (fx_X12_readLine_69 m) (fun u4 r5 => (if r5 = 0 then fx_X12_pyramid_69_j49_b27 u4  else (if (u4.1 69 21) = 0 then fx_X12_pyramid_69_j49_b27 u4  else fx_X12_pyramid_69_j50_b27 u4 1))) = z → fx_X12_pyramid_69_l27 (m, 1) = z := by
        intro z hz
        unfold fx_X12_pyramid_69_l27
        dsimp only
        rw [if_neg (show ¬ (1 : Int32) = 0 by decide)]
        exact hz
      rw [more_1 hend]
      -- a line that fails, a line that stands
      have hbad : ∀ x' m', fx_X12_readLine_69 m = some (m', 0) → fx_X6_read_30_l25 (x, nI i) = some (.inr (.inr (x', 0))) → BB x' m' → FrX x0 x' → FrM m0 m' → REnd x0 m0 bb n (loop fx_X6_read_30_l25 (f1 + 1) (x, nI i)) (loop fx_X12_pyramid_69_l27 (f2 + 1) (m, 1)) := by
        intro x' m' q1 q2 q3 q4 q5
        have : fx_X12_pyramid_69_l27 (m, 1) = some (.inl (m', 0)) := hmz _ (by rw [q1, bd_mk, if_pos rfl]; rfl)
        obtain ⟨f2, rfl⟩ : ∃ g, f2 = g + 1 := ⟨f2 - 1, by omega⟩
        rw [loop_inr q2, loop_inl this, loop_inr (show fx_X12_pyramid_69_l27 (m', 0) = some (.inr m') by unfold fx_X12_pyramid_69_l27; dsimp only; rw [if_pos rfl])]
        exact Or.inl ⟨x', m', rfl, rfl, q3, q4, q5⟩
      have hgood : ∀ x' m' p' nl nc dv sz dn nd cx cy gr ws st, fx_X12_readLine_69 m = some (m', 1) → fx_X6_read_30_l25 (x, nI i) = some (.inl (x', nI (i + 1))) → DR x' m' nl nc dv sz dn nd cx cy gr ws st → RR x' m' bb n p' → p < p' → FrX x0 x' → FrM m0 m' → REnd x0 m0 bb n (loop fx_X6_read_30_l25 (f1 + 1) (x, nI i)) (loop fx_X12_pyramid_69_l27 (f2 + 1) (m, 1)) := by
        intro x' m' p' nl nc dv sz dn nd cx cy gr ws st q1 q2 q3 q4 q5 q6 q7
        have hp' := q4.2.2.1
        have hk' : k = (k - 1) + 1 := by omega
        have : fx_X12_pyramid_69_l27 (m, 1) = some (.inl (m', more (tok bb n p'))) := hmz _ (by
          rw [q1, bd_mk, if_neg (by decide)]
          by_cases e : (tok bb n p').2.2 = none
          · rw [if_pos ((q4.2.2.2.2.1).sort.2.2.mpr e), more_0 e]; rfl
          · rw [if_neg (fun h => e ((q4.2.2.2.2.1).sort.2.2.mp h)), more_1 e]; rfl)
        rw [loop_inl q2, loop_inl this]
        exact read_L x0 m0 bb n (k - 1) x' m' (i + 1) p' f1 f2 nl nc dv sz dn nd cx cy gr ws st (by omega) q4 q3 (by omega) q6 q7 (by omega) (by omega)
      obtain ⟨k1, k2, k3, k4⟩ := kw_ok 0 (by decide)
      obtain ⟨l1, l2, l3, l4⟩ := kw_ok 4 (by decide)
      rw [if_pos (fun q => hend (e3.kind.mp q)), isWord_x e3 hd.1 k3 k1 (z := 465558725996) (by rw [kw8.1]; rfl), isWord_x e3 hd.1 l3 l1 (z := 1668052322) (by rw [kw8.2.2.2.2.1]; rfl), Option.bind_some, Option.bind_some] at hb
      have hm : ∀ z, z = fx_X12_readLine_69 m → z = (if (if (tok bb n p).2.2 = some (.inl (kw 0)) then (1 : Int32) else 0) = 0 then (if (if (tok bb n p).2.2 = some (.inl (kw 4)) then (1 : Int32) else 0) = 0 then bd (fx_X12_fails_69 m 1) (fun u3 r4 => fx_X12_readLine_69_j37 u3 r4) else bd (fx_X12_readClub_69 m ) (fun u7 r8 => fx_X12_readLine_69_j37 u7 r8)) else bd (fx_X12_readLevel_69 m ) (fun u9 r10 => fx_X12_readLine_69_j37 u9 r10)) := by
        intro z hz
        rw [hz]
        unfold fx_X12_readLine_69
        rw [isWord_m0 hMT hd.1, Option.bind_some, isWord_m4 hMT hd.1, Option.bind_some]
      have hm := hm _ rfl
      by_cases hl : (tok bb n p).2.2 = some (.inl (kw 0))
      · rw [if_pos hl, if_neg (show ¬ (1 : Int32) = 0 by decide)] at hb hm
        rw [D1.1.2.1] at hb
        rcases level_L D1 T1 hTM hp e3 hMT h0 h71 h81 h20 hend with ⟨x', m', dv', sz', dn', nd', p', q1, q2, q3, q4, q5, q6, q7⟩ | ⟨x', m', q1, q2, q3, q4, q5⟩
        · rw [q1, bd_mk] at hb
          unfold fx_X6_read_30_j138_b25 at hb
          rw [if_pos (by decide), lt_eq, nI_1] at hb
          exact hgood x' m' p' _ _ _ _ _ _ _ _ _ _ _ (hm.trans q2) hb q3 q4 q5 (F1.trans q6) (FM0.trans q7)
        · rw [q1, bd_mk] at hb
          unfold fx_X6_read_30_j138_b25 at hb
          rw [if_neg (by simp), gB_0] at hb
          exact hbad x' m' (hm.trans q2) hb q3 (F1.trans q4) (FM0.trans q5)
      · rw [if_neg hl, if_pos rfl] at hb hm
        by_cases hc : (tok bb n p).2.2 = some (.inl (kw 4))
        · rw [if_pos hc, if_neg (show ¬ (1 : Int32) = 0 by decide)] at hb hm
          rw [D1.2.1.2.1] at hb
          rcases club_L D1 T1 hTM hp e3 hMT h0 h71 h81 h20 hend with ⟨x', m', cx', cy', gr', ws', st', p', q1, q2, q3, q4, q5, q6, q7⟩ | ⟨x', m', q1, q2, q3, q4, q5⟩
          · rw [q1, bd_mk] at hb
            unfold fx_X6_read_30_j138_b25 at hb
            rw [if_pos (by decide), lt_eq, nI_1] at hb
            exact hgood x' m' p' _ _ _ _ _ _ _ _ _ _ _ (hm.trans q2) hb q3 q4 q5 (F1.trans q6) (FM0.trans q7)
          · rw [q1, bd_mk] at hb
            unfold fx_X6_read_30_j138_b25 at hb
            rw [if_neg (by simp), gB_0] at hb
            exact hbad x' m' (hm.trans q2) hb q3 (F1.trans q4) (FM0.trans q5)
        · obtain ⟨x2, j1, j2, j3⟩ := fail_x x1 1 _ e3.1
          obtain ⟨m2, j4, j5, j6⟩ := fails_m m 1 _ hMT.1 h0
          rw [if_neg hc, if_pos rfl] at hb hm
          rw [j1, bd_mk] at hb
          rw [j4, bd_mk] at hm
          unfold fx_X6_read_30_j138_b25 at hb
          unfold fx_X12_readLine_69_j37 at hm
          rw [if_neg (by simp), gB_0] at hb
          rw [if_pos rfl, gB_0] at hm
          exact hbad x2 m2 hm hb ⟨1, _, by decide, j3, j6⟩ (F1.trans (FrX.of (j2.mono (by simp)))) (FM0.trans (FrM.of (j5.mono (by simp))))
termination_by k => k
decreasing_by omega
