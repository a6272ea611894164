/-! day() in step -/
def DEnd (A : Ab) (x0 m0 : llMem) (mc : Nat) (ml0 : Nat → Nat × Nat) (cl : Option ((llMem) ⊕ (llMem × Int32))) (re : Option llMem) : Prop :=
  (∃ x' m' j ml, cl = some (.inr (x', 0)) ∧ re = some m' ∧ DY A x0 m0 x' m' mc j ml0 ml ∧ BB x' m') ∨
  (∃ x' m' j ml, cl = some (.inr (x', 1)) ∧ re = some m' ∧ DY A x0 m0 x' m' mc j ml0 ml ∧ j ≤ 116 ∧ m'.1 69 19 = 0 ∧ m'.1 69 20 = -1 ∧ x'.1 1 7 = 0 ∧ x'.1 1 8 = -1)
set_option maxHeartbeats 1000000 in
theorem dread_L {A : Ab} {x0 m0 : llMem} {mc : Nat} {ml0 : Nat → Nat × Nat} (hp0 : IPyr A x0 m0) (hN0 : ∀ k, k < 900 → m0.1 77 (120 + k) = x0.1 17 k) (hM0 : IMa A x0 mc ml0) (bb : Nat → Nat) (n : Nat) : ∀ (k : Nat) (x m : llMem) (i p j : Nat) (f1 f2 : Nat) (ml : Nat → Nat × Nat), n - p ≤ k → RR x m bb n p → DY A x0 m0 x m mc j ml0 ml → 6 * j ≤ p → i + (n - p) ≤ 700 → k < f1 → k + 1 < f2 → DEnd A x0 m0 mc ml0 (loop fx_X1_read_42_l9 f1 (x, nI i)) (loop fx_X12_day_69_l22 f2 (m, more (tok bb n p)))
  | k, x, m, i, p, j, f1, f2, ml, hk, hR, hD, hj, hi, hf1, hf2 => by
    obtain ⟨hT, hTM, hp, hat, hMT, h0, h7, h8, h20⟩ := hR
    have hd := tokD hT hp
    have hn700 := hT.1
    obtain ⟨x1, e1, e2, e3⟩ := next_x x bb n p hT hp hat
    have D1 := hD.of (e2.mono (by simp)) (SmF.refl 69 kM m)
    have T1 := hT.of e2 (by decide)
    have h71 : x1.1 1 7 = 0 := by rw [e2.2 7 (by decide)]; exact h7
    have h81 : x1.1 1 8 = -1 := by rw [e2.2 8 (by decide)]; exact h8
    obtain ⟨f1, rfl⟩ : ∃ g, f1 = g + 1 := ⟨f1 - 1, by omega⟩
    obtain ⟨f2, rfl⟩ : ∃ g, f2 = g + 1 := ⟨f2 - 1, by omega⟩
    have hb : fx_X1_read_42_l9 (x, nI i) = (if ¬ (x1.1 1 2) = 0 then bd (fx_X1_readMatch_42 x1 ) (fun u3 r4 => (if ¬ r4 = 0 then lt (nI i + 1) (fun v1_5 => some (.inl (u3, v1_5))) else gB 0 (some (.inr (.inr (u3, 0)))))) else gB 1 (some (.inr (.inr (x1, 1))))) := by
      unfold fx_X1_read_42_l9
      dsimp only
      rw [if_neg (Lnlt 700 (by omega) (by decide) (by omega)), e1, bd_mk]
    by_cases hend : (tok bb n p).2.2 = none
    · rw [more_0 hend, loop_inr (show fx_X12_day_69_l22 (m, 0) = some (.inr m) by unfold fx_X12_day_69_l22; dsimp only; rw [if_pos rfl])]
      rw [if_neg (fun q => q (e3.kind.mpr hend)), gB_1] at hb
      rw [loop_inr hb]
      exact Or.inr ⟨x1, m, j, ml, rfl, rfl, D1, by omega, h0, h20, h71, h81⟩
    · rw [if_pos (fun q => hend (e3.kind.mp q))] at hb
      rw [more_1 hend]
      rcases match_L hp0 hN0 hM0 D1 hj T1 hTM hp e3 hMT h0 h71 h81 h20 hend with ⟨x', m', p', ml', q1, q2, q3, q4, q5⟩ | ⟨x', m', q1, q2, q3, q4⟩
      · rw [q1, bd_mk, if_pos one_ne, lt_eq, nI_1] at hb
        have hm : fx_X12_day_69_l22 (m, 1) = some (.inl (m', more (tok bb n p'))) := by
          unfold fx_X12_day_69_l22 fx_X12_day_69_j44_b22 fx_X12_day_69_j45_b22
          dsimp only
          rw [if_neg one_ne, q2, bd_mk, if_neg one_ne]
          by_cases e : (tok bb n p').2.2 = none
          · rw [if_pos ((q4.2.2.2.2.1).sort.2.2.mpr e), more_0 e]
          · rw [if_neg (fun h => e ((q4.2.2.2.2.1).sort.2.2.mp h)), more_1 e]
        have hp' := q4.2.2.1
        rw [loop_inl hb, loop_inl hm]
        exact dread_L hp0 hN0 hM0 bb n (k - 1) x' m' (i + 1) p' (j + 1) f1 f2 ml' (by omega) q4 q3 (by omega) (by omega) (by omega) (by omega)
      · rw [q1, bd_mk, if_neg (fun q => q rfl), gB_0] at hb
        have hm : fx_X12_day_69_l22 (m, 1) = some (.inl (m', 0)) := by
          unfold fx_X12_day_69_l22 fx_X12_day_69_j44_b22 fx_X12_day_69_j45_b22
          dsimp only
          rw [if_neg one_ne, q2, bd_mk, if_pos rfl]
        obtain ⟨f2, rfl⟩ : ∃ g, f2 = g + 1 := ⟨f2 - 1, by omega⟩
        rw [loop_inr hb, loop_inl hm, loop_inr (show fx_X12_day_69_l22 (m', 0) = some (.inr m') by unfold fx_X12_day_69_l22; dsimp only; rw [if_pos rfl])]
        exact Or.inl ⟨x', m', j, ml, rfl, rfl, q3, q4⟩
termination_by k => k
decreasing_by omega
/-- the reference lays the day's matches down -/
theorem dayL_m {x m : llMem} {mc j : Nat} {ml : Nat → Nat × Nat} (hT : DyT x m mc j ml) (hj : j ≤ 116) (hb : ∀ i, i < j → (ml (mc + i)).1 < 30 ∧ (ml (mc + i)).2 < 30) : ∃ e, loop fx_X12_day_69_l71 llFuel (m, 0) = some e ∧ ((∀ c, c ≠ 77 → e.1 c = m.1 c) ∧ e.2 = m.2 ∧ (∀ e', e' < 120 → e.1 77 e' = m.1 77 e') ∧ ∀ h a, h < 30 → a < 30 → e.1 77 (120 + (30 * h + a)) = if memF (fun i => kf ml (mc + i)) (30 * h + a) j then x.1 17 (30 * h + a) else m.1 77 (120 + (30 * h + a))) := by
  obtain ⟨t1, t2⟩ := hT
  have i3 : ∀ i, (3 : Int32) * nI i = nI (3 * i) := fun i => pk_mul 3 i
  refine loop_inv (fun i s => s.2 = nI i ∧ (∀ c, c ≠ 77 → s.1.1 c = m.1 c) ∧ s.1.2 = m.2 ∧ (∀ e', e' < 120 → s.1.1 77 e' = m.1 77 e') ∧ ∀ h a, h < 30 → a < 30 → s.1.1 77 (120 + (30 * h + a)) = if memF (fun i => kf ml (mc + i)) (30 * h + a) i then x.1 17 (30 * h + a) else m.1 77 (120 + (30 * h + a))) _ j llFuel (m, 0) ⟨rfl, fun _ _ => rfl, rfl, fun _ _ => rfl, fun _ _ _ _ => rfl⟩ ?_ ?_ (llF (by omega))
  · rintro i ⟨s, v⟩ hi ⟨hv, f1, f2, f3, f4⟩
    dsimp only at hv f1 f2 f3 f4
    subst hv
    obtain ⟨q1, q2, q3⟩ := t2 i hi
    obtain ⟨b1, b2⟩ := hb i hi
    unfold fx_X12_day_69_l71
    dsimp only
    rw [f1 69 (by decide), t1, if_neg (nle2 (by omega) (by omega) hi), i3, nI_1 (3 * i), show nI (3 * i) + 2 = nI (3 * i + 2) from nI_add (3 * i) 2]
    simp only [gI_nI (show 3 * i < 360 by omega) (show 360 < 2 ^ 31 by decide), gI_nI (show 3 * i + 1 < 360 by omega) (show 360 < 2 ^ 31 by decide), gI_nI (show 3 * i + 2 < 360 by omega) (show 360 < 2 ^ 31 by decide), rI_n (show 3 * i < 2 ^ 31 by omega), rI_n (show 3 * i + 1 < 2 ^ 31 by omega), rI_n (show 3 * i + 2 < 2 ^ 31 by omega)]
    rw [f1 80 (by decide), q1, q2, q3, ix120, gI_nI (by omega) (by decide), nI_clamp (by omega)]
    simp only [lt_eq, nI_1]
    refine ⟨_, rfl, rfl, fun c hc => ?_, f2, fun e he => ?_, fun h a hh ha => ?_⟩
    · rw [SI_ne hc]; exact f1 c hc
    · rw [SI_same, upd_ne (by omega)]; exact f3 e he
    · have st : memF (fun i => kf ml (mc + i)) (30 * h + a) (i + 1) = (memF (fun i => kf ml (mc + i)) (30 * h + a) i || decide (kf ml (mc + i) = 30 * h + a)) := rfl
      rw [SI_same, st]
      by_cases e : kf ml (mc + i) = 30 * h + a
      · rw [decide_eq_true e, Bool.or_true, if_pos rfl]
        unfold kf at e
        rw [show 120 + (30 * h + a) = 120 + (30 * (ml (mc + i)).1 + (ml (mc + i)).2) by omega, upd_same, e]
      · rw [decide_eq_false e, Bool.or_false, upd_ne (by unfold kf at e; omega)]
        exact f4 h a hh ha
  · rintro ⟨s, v⟩ ⟨hv, f1, f2, f3, f4⟩
    dsimp only at hv f1 f2 f3 f4
    subst hv
    unfold fx_X12_day_69_l71
    dsimp only
    rw [f1 69 (by decide), t1, if_pos (le2 (by omega) (by omega) (Nat.le_refl _))]
    exact ⟨_, rfl, f1, f2, f3, f4⟩
theorem day_S : Step fx_X11_day_0 fx_X12_day_69 := by
  rintro x m ⟨A, mc, ml0, k, cj, h⟩
  have hp := h.1
  have hn := hp.ncB
  have hD0 := h.2.2.1
  obtain ⟨hs1, hs2, hs3, hs4⟩ := id h.2.1
  obtain ⟨bb, n, hT, hTM⟩ := h.2.2.2.2.2.1
  have hr := h.2.2.2.2.2.2.2.2
  -- the class begins
  have SX : SmF 1 kX x (llSI (llSI (llSI x 1 9 0) 1 7 0) 1 8 (-1)) := ((SmF.SI (by simp)).trans (SmF.SI (by simp))).trans (SmF.SI (by simp))
  have X1 := hT.of SX (by decide)
  have X9 : (llSI (llSI (llSI x 1 9 0) 1 7 0) 1 8 (-1)).1 1 9 = nI 0 := by rw [SI_at (by decide), SI_at (by decide), SI_same, upd_same]; rfl
  have X7 : (llSI (llSI (llSI x 1 9 0) 1 7 0) 1 8 (-1)).1 1 7 = 0 := by rw [SI_at (by decide), SI_same, upd_same]
  have X8 : (llSI (llSI (llSI x 1 9 0) 1 7 0) 1 8 (-1)).1 1 8 = -1 := by rw [SI_same, upd_same]
  have hC : fx_X11_day_0 x = bd ((loop (fx_X1_read_42_l9) llFuel (llSI (llSI (llSI x 1 9 0) 1 7 0) 1 8 (-1), nI 0)).bind (Sum.elim (fun e6 => bd (fx_X9_fail_1 e6 1) (fun u7 r8 => gB r8 (some (u7, r8)))) (fun v => some ((fun v => v) v)))) (fun u2 r3 => lt (llSI u2 1 1 0) (fun u4 => (if ¬ r3 = 0 then lt ((u4.1 14 1) - (x.1 14 1)) (fun v3_5 => (if v3_5 ≤ 0 then some (u4, v3_5) else bd (fx_X2_keep_26 u4 0 ((-1)) (x.1 14 1)) (fun u6 _ => some (u6, v3_5)))) else bd (fx_X7_keepFirst_14 u4 (x.1 14 1)) (fun u7 _ => some (u7, (-1)))))) := rfl
  generalize llSI (llSI (llSI x 1 9 0) 1 7 0) 1 8 (-1) = x1 at *
  -- the reference begins
  have SM : SmF 69 kM (llSI m 69 29 0) (llSI (llSI (llSI (llSI m 69 29 0) 69 23 0) 69 19 0) 69 20 (-1)) := ((SmF.SI (by simp)).trans (SmF.SI (by simp))).trans (SmF.SI (by simp))
  have M0 : TM (llSI m 69 29 0) bb n := hTM.of (SmF.SI (ks := [29]) (by simp)) (by decide)
  have M1 := M0.of SM (by decide)
  have M23 : (llSI (llSI (llSI (llSI m 69 29 0) 69 23 0) 69 19 0) 69 20 (-1)).1 69 23 = nI 0 := by rw [SI_at (by decide), SI_at (by decide), SI_same, upd_same]; rfl
  have M19 : (llSI (llSI (llSI (llSI m 69 29 0) 69 23 0) 69 19 0) 69 20 (-1)).1 69 19 = 0 := by rw [SI_at (by decide), SI_same, upd_same]
  have M20 : (llSI (llSI (llSI (llSI m 69 29 0) 69 23 0) 69 19 0) 69 20 (-1)).1 69 20 = -1 := by rw [SI_same, upd_same]
  obtain ⟨m1, g1, g2, g3⟩ := next_m (llSI (llSI (llSI (llSI m 69 29 0) 69 23 0) 69 19 0) 69 20 (-1)) bb n 0 M1 (by omega) M23
  have hM : fx_X12_day_69 m = fx_X12_day_69_j21 m1 (more (tok bb n 0)) := by
    unfold fx_X12_day_69 fx_X12_begins_69
    simp only [lt_eq]
    rw [g1, bd_mk, bd_mk]
    by_cases e : (tok bb n 0).2.2 = none
    · rw [if_pos (g3.sort.2.2.mpr e), more_0 e]
    · rw [if_neg (fun q => e (g3.sort.2.2.mp q)), more_1 e]
  have R1 : RR x1 m1 bb n 0 := ⟨X1, M1.of g2 (by decide), by omega, X9, g3, by rw [g2.2 19 (by decide)]; exact M19, X7, X8, by rw [g2.2 20 (by decide)]; exact M20⟩
  have DD : DY A x (llSI m 69 29 0) x (llSI m 69 29 0) mc 0 ml0 ml0 := ⟨hs3, hs4, fun _ _ => rfl, fun _ _ => rfl, ⟨by rw [SI_same, upd_same]; rfl, fun i hi => by omega⟩, ⟨fun _ _ _ => rfl, rfl, fun _ _ => rfl⟩, ⟨fun _ _ _ => rfl, fun _ _ => rfl, fun _ _ => rfl⟩⟩
  have D1 := DD.of SX (SM.trans (g2.mono (by simp)))
  have hp0 : IPyr A x (llSI m 69 29 0) := DD.pyr (hp.of (fun _ _ => ⟨rfl, rfl⟩) (fun c hc => ⟨by
    simp only [List.mem_cons, List.not_mem_nil, or_false] at hc
    exact SI_ne (by omega), rfl⟩) (SI_at (by decide)) (SI_at (by decide)))
  have hE := dread_L hp0 (fun k hk => by rw [SI_ne (by decide)]; exact hs2 k hk) hs3 bb n n x1 m1 0 0 0 llFuel llFuel ml0 (by omega) R1 D1 (by omega) (by have := hT.1; omega) (by have := hT.1; unfold llFuel; omega) (by have := hT.1; unfold llFuel; omega)
  rw [hM]
  unfold fx_X12_day_69_j21
  have rd14 : ∀ (m' : llMem), DyM (llSI m 69 29 0) m' → (∀ i, i ≠ 69 → i ≠ 80 → (rdM m').1 i = m.1 i) ∧ (∀ i, i ≠ 69 → (rdM m').2.1 i = m.2.1 i) ∧ ∀ j, j ∈ [1, 9, 11, 14, 53] → (rdM m').1 69 j = m.1 69 j := fun m' q => by
    refine ⟨fun i h1 h2 => ?_, fun i h1 => ?_, fun j hj => ?_⟩
    · rw [rdM_ne h1, q.1 i h1 h2, SI_ne h1]
    · rw [rdM_2, q.2.1 i h1]; rfl
    · simp only [List.mem_cons, List.not_mem_nil, or_false] at hj
      rw [rdM_k (by simp only [List.mem_cons, List.not_mem_nil, or_false]; omega), q.2.2 j (by simp only [List.mem_cons, List.not_mem_nil, or_false]; omega), SI_at (by omega)]
  rcases hE with ⟨x', m', j, ml, q1, q2, q3, q4⟩ | ⟨x', m', j, ml, q1, q2, q3, q4, q5, q6, q7, q8⟩
  · -- a fault
    obtain ⟨kk, pl, b1, b2, b3⟩ := q4
    have hb : ¬ m'.1 69 19 = 0 := by rw [b3.1]; exact b1
    rw [q2, Option.bind_some, isRead_m, bd_mk, if_neg hb, if_neg (fun q => q rfl)]
    obtain ⟨r1, r2, r3, r4, r5, r6, r7⟩ := q3
    have hIM : IMa A (llSI x' 1 1 0) (mc + j) ml := r1.of (by rw [SI_ne (by decide)]) (SI_ne (by decide)) (SI_ne (by decide)) (SI_ne (by decide))
    have hIS : ISu A (llSI x' 1 1 0) := r2.of (fun i hi => SI_ne (by omega))
    obtain ⟨xf, k1, k2, k3, k4, k5, k6, k7⟩ := keepFirst_x hn hIM hIS (kept := mc) (by omega)
    rw [hC, q1]
    simp only [Option.bind_some, Sum.elim_inr, bd_mk, lt_eq]
    rw [if_neg (fun q => q trivial), hs3.2.1, k1, bd_mk]
    have xx : ∀ i, i ≠ 1 → i < 14 ∨ (17 < i ∧ i < 21) ∨ 25 < i → xf.1 i = x.1 i := fun i h1 h2 => by rw [k2 i (by omega) (by omega) (by omega), SI_ne h1]; exact r6.1 i h1 h2
    obtain ⟨mm1, mm2, mm3⟩ := rd14 m' r7
    have x17 : ∀ e, e < 900 → xf.1 17 e = x.1 17 e := fun e he => by
      have w := k7 (e / 30) (e % 30) (by omega) (by omega)
      rw [show 30 * (e / 30) + e % 30 = e by omega, SI_ne (by decide)] at w
      rw [w]
      have z0 := sc_ok hs3 (a := e / 30) (b := e % 30) (by omega) (by omega)
      rw [show 30 * (e / 30) + e % 30 = e by omega] at z0
      by_cases g : ∃ i, i < mc + j ∧ mc ≤ i ∧ ml i = (e / 30, e % 30)
      · rw [if_pos g]
        rcases z0 with ⟨z, -⟩ | ⟨i, _, _, i1, i2, _⟩
        · exact z.symm
        · obtain ⟨i', j1, j2, j3⟩ := g
          have := r1.2.2.2.1 i i' (by omega) j1 (by rw [r3 i i1, i2, j3])
          omega
      · rw [if_neg g]
        rcases z0 with ⟨z, zn⟩ | ⟨i, _, _, i1, i2, _⟩
        · rw [z]
          have := r1.2.2.2.2 (e / 30) (e % 30) (by omega) (by omega) (fun i hi ei => by
            by_cases gi : i < mc
            · rw [r3 i gi] at ei; exact zn i gi ei
            · exact g ⟨i, hi, by omega, ei⟩)
          rw [show 30 * (e / 30) + e % 30 = e by omega] at this
          exact this
        · have := r4 i i1
          rw [i2] at this
          dsimp only at this
          rw [show 30 * (e / 30) + e % 30 = e by omega] at this
          exact this
    have c15 : ∀ i, i < mc → xf.1 15 i = x.1 15 i ∧ xf.1 16 i = x.1 16 i := fun i hi => by
      obtain ⟨b1, b2, _⟩ := r1.2.2.1 i (by omega)
      obtain ⟨d1, d2, _⟩ := hs3.2.2.1 i hi
      rw [k2 15 (by decide) (by decide) (by decide), k2 16 (by decide) (by decide) (by decide), SI_ne (by decide), SI_ne (by decide), b1, b2, d1, d2, r3 i hi]
      exact ⟨rfl, rfl⟩
    have hS : ISea A xf (rdM m') mc ml0 := by
      refine ⟨fun c hc => ?_, fun e he => by rw [mm1 77 (by decide) (by decide), x17 e he]; exact hs2 e he, ⟨hs3.1, k5, fun i hi => ?_, hs3.2.2.2.1, fun h a hh ha hno => by rw [x17 _ (by omega)]; exact hs3.2.2.2.2 h a hh ha hno⟩, k6⟩
      · have w := hs1 c hc
        unfold INw at w ⊢
        rw [xx 11 (by decide) (by decide), xx 18 (by decide) (by decide), xx 19 (by decide) (by decide), xx 20 (by decide) (by decide), mm1 77 (by decide) (by decide)]
        exact w
      · obtain ⟨d1, d2, d3, d4, d5, d6, d7, g, t, d8, d9, d10⟩ := hs3.2.2.1 i hi
        rw [(c15 i hi).1, (c15 i hi).2]
        exact ⟨d1, d2, d3, d4, d5, d6, d7, g, t, d8, d9, by rw [x17 _ (by omega)]; exact d10⟩
    refine ⟨xf, rdM m', -1, rfl, rfl, ⟨A, mc, ml0, k, cj, h.sea (fun i hi => xx i (by omega) (by omega)) (by rw [k3 0 (by decide), SI_ne (by decide)]; exact r6.2.1) (fun i hi => by rw [k4]; exact r6.2.2 i hi) (fun i h1 _ _ _ h2 => mm1 i (by omega) h2) (fun j hj => mm3 j (by simp only [List.mem_cons, List.not_mem_nil, or_false] at hj ⊢; omega)) mm2 hS (hD0.of (fun i hi => ?_) (by rw [xx 26 (by decide) (by decide)]) (mm1 77 (by decide) (by decide)) (mm1 78 (by decide) (by decide)) (mm3 14 (by simp))) ⟨fun _ => 0, 0, TXz ?_, TMz (rdM_16 _)⟩ ?_ (fun c hc he => hr c hc (by rw [xx 18 (by decide) (by decide)] at he; exact he))⟩, fun i hi => ⟨xx i (by omega) (by omega), by rw [k4]; exact r6.2.2 i (by omega)⟩, fun i hi => ⟨mm1 i (by omega) (by omega), mm2 i (by omega)⟩⟩
    · simp only [List.mem_cons, List.not_mem_nil, or_false] at hi
      exact xx i (by omega) (by omega)
    · rw [k2 1 (by decide) (by decide) (by decide), SI_same, upd_same]
    · unfold IFa
      rw [k2 1 (by decide) (by decide) (by decide), SI_at (by decide), SI_at (by decide), rdM_17, rdM_18, b2.1, b2.2, b3.1, b3.2]
      exact ⟨rfl, rfl⟩
  · -- it stands
    obtain ⟨r1, r2, r3, r4, r5, r6, r7⟩ := q3
    obtain ⟨mm1, mm2, mm3⟩ := rd14 m' r7
    have e29 : (rdM m').1 69 29 = nI j := by rw [rdM_k (by decide)]; exact r5.1
    rw [q2, Option.bind_some, isRead_m, bd_mk, if_pos q5, if_pos one_ne]
    change ∃ x' m'' r, fx_X11_day_0 x = some (x', r) ∧ (if (rdM m').1 69 29 ≤ 0 then fx_X12_day_69_j69 (rdM m') else bd (fx_X12_keeps_69 (rdM m')) (fun u11 _ => fx_X12_day_69_j69 u11)) = some (m'', r) ∧ Inv x' m'' ∧ OX x x' ∧ OM m m''
    rw [hC, q1]
    simp only [Option.bind_some, Sum.elim_inr, bd_mk, lt_eq]
    rw [if_pos one_ne, SI_ne (by decide), r1.2.1, hs3.2.1, pk_sub (by omega), show mc + j - mc = j by omega, e29]
    have xx : ∀ i, i ≠ 1 → i < 14 ∨ (17 < i ∧ i < 21) ∨ 25 < i → (llSI x' 1 1 0).1 i = x.1 i := fun i h1 h2 => by rw [SI_ne h1]; exact r6.1 i h1 h2
    have bnd : ∀ i, i < j → (ml (mc + i)).1 < 30 ∧ (ml (mc + i)).2 < 30 := fun i hi => by
      obtain ⟨_, _, b3, b4, _⟩ := r1.2.2.1 (mc + i) (by omega)
      exact ⟨by omega, by omega⟩
    have DTr : DyT x' (rdM m') mc j ml := ⟨e29, fun i hi => by rw [rdM_ne (by decide)]; exact r5.2 i hi⟩
    -- the reference's matrix is the class's
    have mat : ∀ (mx e : llMem), mx.1 77 = m.1 77 → (∀ h a, h < 30 → a < 30 → e.1 77 (120 + (30 * h + a)) = if memF (fun i => kf ml (mc + i)) (30 * h + a) j then x'.1 17 (30 * h + a) else mx.1 77 (120 + (30 * h + a))) → ∀ p, p < 900 → e.1 77 (120 + p) = x'.1 17 p := by
      intro mx e h77 hm p hp9
      have w := hm (p / 30) (p % 30) (by omega) (by omega)
      rw [show 30 * (p / 30) + p % 30 = p by omega] at w
      rw [w, h77, hs2 p hp9]
      by_cases g : memF (fun i => kf ml (mc + i)) p j = true
      · rw [if_pos g]
      · rw [if_neg g]
        have z0 := sc_ok hs3 (a := p / 30) (b := p % 30) (by omega) (by omega)
        rw [show 30 * (p / 30) + p % 30 = p by omega] at z0
        rcases z0 with ⟨z, zn⟩ | ⟨i, _, _, i1, i2, _⟩
        · rw [z]
          have := r1.2.2.2.2 (p / 30) (p % 30) (by omega) (by omega) (fun i hi ei => by
            by_cases gi : i < mc
            · rw [r3 i gi] at ei; exact zn i gi ei
            · refine g ((memF_iff j).mpr ⟨i - mc, by omega, ?_⟩)
              show kf ml (mc + (i - mc)) = p
              rw [show mc + (i - mc) = i by omega]
              unfold kf; rw [ei]
              dsimp only
              omega)
          rw [show 30 * (p / 30) + p % 30 = p by omega] at this
          exact this.symm
        · have := r4 i i1
          rw [i2] at this
          dsimp only at this
          rw [show 30 * (p / 30) + p % 30 = p by omega] at this
          exact this.symm
    have sea : ∀ (xf mf : llMem), (∀ i, i < 26 → i ≠ 1 → xf.1 i = x'.1 i) → (∀ e, e < 120 → mf.1 77 e = m.1 77 e) → (∀ p, p < 900 → mf.1 77 (120 + p) = x'.1 17 p) → ISea A xf mf (mc + j) ml ∧ IRe A xf := by
      intro xf mf hx h1 h2
      refine ⟨⟨fun c hc => ?_, fun p hp9 => by rw [h2 p hp9, hx 17 (by decide) (by decide)], r1.of (by rw [hx 14 (by decide) (by decide)]) (hx 15 (by decide) (by decide)) (hx 16 (by decide) (by decide)) (hx 17 (by decide) (by decide)), r2.of (fun i hi => hx i (by omega) (by omega))⟩, fun c hc he => hr c hc ?_⟩
      · have w := hs1 c hc
        unfold INw at w ⊢
        rw [hx 11 (by decide) (by decide), hx 18 (by decide) (by decide), hx 19 (by decide) (by decide), hx 20 (by decide) (by decide), r6.1 11 (by decide) (by decide), r6.1 18 (by decide) (by decide), r6.1 19 (by decide) (by decide), r6.1 20 (by decide) (by decide), h1 c (by omega), h1 (30 + c) (by omega), h1 (60 + c) (by omega), h1 (90 + c) (by omega)]
        exact w
      · rw [hx 18 (by decide) (by decide), r6.1 18 (by decide) (by decide)] at he; exact he
    have fa : ∀ (xf mf : llMem), xf.1 1 = (llSI x' 1 1 0).1 1 → mf.1 69 17 = (rdM m').1 69 17 → mf.1 69 18 = (rdM m').1 69 18 → IFa xf mf := by
      intro xf mf h1 h2 h3
      unfold IFa
      rw [h1, h2, h3, SI_at (by decide), SI_at (by decide), rdM_17, rdM_18, q5, q6, q7, q8]
      exact ⟨rfl, rfl⟩
    by_cases ej : j = 0
    · subst ej
      rw [if_pos (show nI 0 ≤ 0 by decide), if_pos (show nI 0 ≤ 0 by decide)]
      obtain ⟨e, l1, l2, l3, l4, l5⟩ := dayL_m DTr q4 bnd
      unfold fx_X12_day_69_j69
      rw [l1, Option.bind_some, l2 69 (by decide), e29]
      obtain ⟨hS, hR⟩ := sea (llSI x' 1 1 0) e (fun i _ h2 => SI_ne h2) (fun e' he => by rw [l4 e' he, mm1 77 (by decide) (by decide)]) (mat (rdM m') e (mm1 77 (by decide) (by decide)) l5)
      have e77 : ∀ e', e' < 1020 → e.1 77 e' = m.1 77 e' := fun e' he => by
        by_cases g : e' < 120
        · rw [l4 e' g, mm1 77 (by decide) (by decide)]
        · have w := l5 ((e' - 120) / 30) ((e' - 120) % 30) (by omega) (by omega)
          rw [show 120 + (30 * ((e' - 120) / 30) + (e' - 120) % 30) = e' by omega] at w
          rw [w, if_neg (by simp [memF]), mm1 77 (by decide) (by decide)]
      have hDe : IDe A (llSI x' 1 1 0) e (mc + 0) ml k cj := by
        obtain ⟨d1, d2, d3, d4, d5⟩ := IDe_iff.mp hD0
        refine IDe_iff.mpr ⟨d1, by rw [xx 26 (by decide) (by decide)]; exact d2, by rw [l2 69 (by decide), mm3 14 (by simp)]; exact d3, d4, fun i hi => ?_⟩
        rw [xx 27 (by decide) (by decide), xx 28 (by decide) (by decide), xx 29 (by decide) (by decide)]
        have B : ∀ i e', e' < 1020 → blkM e k i e' = blkM m k i e' := fun i e' he => by
          unfold blkM
          rw [l2 78 (by decide), mm1 78 (by decide) (by decide), e77 e' he]
        have hle := hD0.mono (k - i) i (by omega)
        exact (d5 i hi).congr hn (fun i' hi' => r3 i' (by omega)) (fun e' he => B i e' he) (fun e' he => B (i + 1) e' he)
      refine ⟨_, e, _, rfl, rfl, ⟨A, mc + 0, ml, k, cj, h.sea (fun i hi => xx i (by omega) (by omega)) (by rw [SI_ne (by decide)]; exact r6.2.1) (fun i hi => r6.2.2 i hi) (fun i h1 h2 _ _ h3 => by rw [l2 i h2]; exact mm1 i (by omega) h3) (fun j hj => by
        rw [l2 69 (by decide)]
        exact mm3 j (by simp only [List.mem_cons, List.not_mem_nil, or_false] at hj ⊢; omega)) (fun i hi => by rw [l3]; exact mm2 i hi) hS hDe ⟨fun _ => 0, 0, TXz (by rw [SI_same, upd_same]), TMz (by rw [l2 69 (by decide)]; exact rdM_16 _)⟩ (fa _ _ rfl (by rw [l2 69 (by decide)]) (by rw [l2 69 (by decide)])) hR⟩, fun i hi => ⟨xx i (by omega) (by omega), r6.2.2 i (by omega)⟩, fun i hi => ⟨by rw [l2 i (by omega)]; exact mm1 i (by omega) (by omega), by rw [l3]; exact mm2 i (by omega)⟩⟩
    · rw [if_neg (nI_nle (by omega) (by omega)), if_neg (nI_nle (by omega) (by omega))]
      obtain ⟨xf, k1, k2⟩ := keep_x (llSI x' 1 1 0) hD0.1 (by rw [xx 26 (by decide) (by decide)]; exact hD0.2.1) 0 (-1) (nI mc)
      obtain ⟨mk, n1, n2⟩ := keeps_m (rdM m') hD0.1 (by rw [mm3 14 (by simp)]; exact hD0.2.2.1)
      rw [k1, bd_mk, n1, bd_mk]
      have DTk : DyT x' mk mc j ml := ⟨by rw [n2.2.2.1 29 (by decide)]; exact e29, fun i hi => by rw [n2.1 80 (by decide) (by decide)]; exact DTr.2 i hi⟩
      obtain ⟨e, l1, l2, l3, l4, l5⟩ := dayL_m DTk q4 bnd
      unfold fx_X12_day_69_j69
      rw [l1, Option.bind_some, l2 69 (by decide), DTk.1]
      have mk77 : mk.1 77 = m.1 77 := by rw [n2.1 77 (by decide) (by decide), mm1 77 (by decide) (by decide)]
      have xf' : ∀ i, i < 26 ∨ 29 < i → xf.1 i = (llSI x' 1 1 0).1 i := k2.1
      obtain ⟨hS, hR⟩ := sea xf e (fun i h1 h2 => by rw [xf' i (by omega), SI_ne h2]) (fun e' he => by rw [l4 e' he, mk77]) (mat mk e mk77 l5)
      have hD1 : IDe A x (rdM m') mc ml0 k cj := hD0.of (fun _ _ => rfl) rfl (mm1 77 (by decide) (by decide)) (mm1 78 (by decide) (by decide)) (mm3 14 (by simp))
      have mt := mat mk e mk77 l5
      have hDee : Dee A.nc ml 0 (-1) (nI mc) mc (mc + j) ((rdM m').1 77) (e.1 77) := by
        refine Or.inl ⟨rfl, rfl, by omega, fun e' he => by rw [l4 e' he, mk77, mm1 77 (by decide) (by decide)], fun h a hh ha => ?_⟩
        rw [mt _ (by omega), mm1 77 (by decide) (by decide), hs2 _ (by omega)]
        by_cases g : ∃ i, i < mc ∧ ml i = (h, a)
        · rw [if_pos g]
          obtain ⟨i, i1, i2⟩ := g
          have := r4 i i1
          rw [← r3 i i1, i2] at this
          exact this.symm
        · rw [if_neg g]
          exact hs3.2.2.2.2 h a hh ha (fun i hi ei => g ⟨i, hi, by rw [r3 i hi]; exact ei⟩)
      obtain ⟨k', cj', hDe⟩ := hD1.push hn k2 (fun i hi => by
        simp only [List.mem_cons, List.not_mem_nil, or_false] at hi
        exact xx i (by omega) (by omega)) n2 (m' := e) (by rw [l2 69 (by decide)]) (by rw [l2 78 (by decide)]) r3 hDee
      have xf2 : xf.2 = x'.2 := k2.2.1
      have m69 : ∀ j', j' ≠ 14 → e.1 69 j' = (rdM m').1 69 j' := fun j' hj' => by rw [l2 69 (by decide)]; exact n2.2.2.1 j' hj'
      have mi : ∀ i, i ≠ 69 → i ≠ 77 → i ≠ 78 → e.1 i = (rdM m').1 i := fun i h1 h2 h3 => by rw [l2 i h2]; exact n2.1 i h1 h3
      have m22 : ∀ i, e.2.1 i = (rdM m').2.1 i := fun i => by rw [l3, n2.2.1]
      refine ⟨xf, e, _, rfl, rfl, ⟨A, mc + j, ml, k', cj', h.sea (fun i hi => by rw [xf' i (by omega)]; exact xx i (by omega) (by omega)) (by rw [xf' 14 (by decide), SI_ne (by decide)]; exact r6.2.1) (fun i hi => by rw [xf2]; exact r6.2.2 i hi) (fun i h1 h2 h3 _ h4 => by rw [mi i (by omega) h2 h3]; exact mm1 i (by omega) h4) (fun j' hj' => by
        simp only [List.mem_cons, List.not_mem_nil, or_false] at hj'
        rw [m69 j' (by omega)]
        exact mm3 j' (by simp only [List.mem_cons, List.not_mem_nil, or_false]; omega)) (fun i hi => by rw [m22]; exact mm2 i hi) hS hDe ⟨fun _ => 0, 0, TXz (by rw [xf' 1 (by decide), SI_same, upd_same]), TMz (by rw [m69 16 (by decide)]; exact rdM_16 _)⟩ (fa _ _ (xf' 1 (by decide)) (m69 17 (by decide)) (m69 18 (by decide))) hR⟩, fun i hi => ⟨by rw [xf' i (by omega)]; exact xx i (by omega) (by omega), by rw [xf2]; exact r6.2.2 i (by omega)⟩, fun i hi => ⟨by rw [mi i (by omega) (by omega) (by omega)]; exact mm1 i (by omega) (by omega), by rw [m22]; exact mm2 i (by omega)⟩⟩
