/-! the law: a step of every kind -/
theorem lawS {F G : llMem → Option (llMem × Int32)} (h : Step F G) {u : llMem} (hu : Inv u u) (L : Nat) (xs : Nat → Int32) (v : Int32) : ∃ u', bd (F u) (fun u1 r => bd (G u1) (fun u2 r' => (if r = r' then fx_L_law_j1144_b18 L xs u2 v else none))) = some (.inl (u', v + 6)) ∧ Inv u' u' := by
  obtain ⟨u1, u2, r, h1, h2, h3⟩ := h.use u hu
  rw [h1, bd_mk, h2, bd_mk, if_pos rfl]
  exact ⟨u2, rfl, h3⟩
theorem lawW {F G : llMem → Option (llMem × Int32)} (h : StepW F G) {u : llMem} (hu : Inv u u) (L : Nat) (xs : Nat → Int32) (v : Int32) : ∃ u', bd (F u) (fun u1 r => bd (G u1) (fun u2 r' => (if r = r' then fx_L_law_j1144_b18 L xs u2 v else none))) = some (.inl (u', v + 6)) ∧ Inv u' u' := lawS h.step hu L xs v
theorem lawR {F G : llMem → Option Int32} (h : StepR F G) {u : llMem} (hu : Inv u u) (L : Nat) (xs : Nat → Int32) (v : Int32) : ∃ u', (F u).bind (fun r => (G u).bind (fun r' => (if r = r' then fx_L_law_j1144_b18 L xs u v else none))) = some (.inl (u', v + 6)) ∧ Inv u' u' := by
  obtain ⟨r, h1, h2⟩ := h u u hu
  rw [h1, Option.bind_some, h2, Option.bind_some, if_pos rfl]
  exact ⟨u, rfl, hu⟩
theorem lawL {F G : llMem → Option Int64} (h : StepR F G) {u : llMem} (hu : Inv u u) (L : Nat) (xs : Nat → Int32) (v : Int32) : ∃ u', (F u).bind (fun r => (G u).bind (fun r' => (if (lg_cmp r r') = 0 then fx_L_law_j1144_b18 L xs u v else none))) = some (.inl (u', v + 6)) ∧ Inv u' u' := by
  obtain ⟨r, h1, h2⟩ := h u u hu
  rw [h1, Option.bind_some, h2, Option.bind_some, if_pos (lg_eq.mpr rfl)]
  exact ⟨u, rfl, hu⟩
theorem lawQ {F : llMem → Option (llMem × Int32)} {G : llMem → Option Int32} (h : StepQ F G) {u : llMem} (hu : Inv u u) (L : Nat) (xs : Nat → Int32) (v : Int32) : ∃ u', bd (F u) (fun u1 r => (G u1).bind (fun r' => (if r = r' then fx_L_law_j1144_b18 L xs u1 v else none))) = some (.inl (u', v + 6)) ∧ Inv u' u' := by
  obtain ⟨x', r, h1, h2, h3⟩ := h u u hu
  have hx : Inv u x' := hu.sw (fun _ _ => ⟨rfl, rfl⟩) h3.ox
  obtain ⟨x2, r2, g1, g2, g3⟩ := h u x' hx
  rw [h1] at g1
  injection g1 with g1
  injection g1 with e1 e2
  subst e1
  subst e2
  rw [h1, bd_mk, g2, Option.bind_some, if_pos rfl]
  exact ⟨x', rfl, hx.of h3 (QM.refl _)⟩
theorem law_lt {L i : Nat} (hL : L ≤ 3072) (hi : i ≤ 3072) : (Int32.ofNat L - 6) < nI i ↔ L < i + 6 := by
  have e : (nI L - 6).toInt = (nI L).toInt - (6 : Int32).toInt := sub_I (by rw [nI_toInt (by omega)]; omega) (by decide)
  rw [nI_toInt (by omega), show (6 : Int32).toInt = 6 from rfl] at e
  rw [Int32.lt_iff_toInt_lt, nI_toInt (by omega)]
  show (nI L - 6).toInt < (i : Int) ↔ _
  rw [e]
  omega
set_option maxRecDepth 20000 in
theorem law_step {L : Nat} {xs : Nat → Int32} {u : llMem} {i : Nat} (hu : Inv u u) (hL : L ≤ 3072) (hi : i + 6 ≤ L) : ∃ u', fx_L_law_l18 L xs (u, nI i) = some (.inl (u', nI i + 6)) ∧ Inv u' u' := by
  have e1 : nI i + 1 = nI (i + 1) := nI_add i 1
  have e2 : nI i + 2 = nI (i + 2) := nI_add i 2
  have e3 : nI i + 3 = nI (i + 3) := nI_add i 3
  have e4 : nI i + 4 = nI (i + 4) := nI_add i 4
  have e5 : nI i + 5 = nI (i + 5) := nI_add i 5
  have hL2 : L < 2 ^ 31 := by omega
  unfold fx_L_law_l18
  dsimp only
  rw [if_neg (fun z => by have := (law_lt hL (show i ≤ 3072 by omega)).mp z; omega)]
  simp only [e1, e2, e3, e4, e5, gI_nI (show i < L by omega) hL2, gI_nI (show i + 1 < L by omega) hL2, gI_nI (show i + 2 < L by omega) hL2, gI_nI (show i + 3 < L by omega) hL2, gI_nI (show i + 4 < L by omega) hL2, gI_nI (show i + 5 < L by omega) hL2]
  generalize xs (Int32.toNatClampNeg (nI i)) &&& 63 = t
  by_cases k0 : t = 0
  · rw [if_pos k0]
    exact lawS (feed_S _ _ _ _ _) hu L xs (nI i)
  rw [if_neg k0]
  by_cases k1 : t = 1
  · rw [if_pos k1]
    exact lawS (end_S _) hu L xs (nI i)
  rw [if_neg k1]
  by_cases k2 : t = 2
  · rw [if_pos k2]
    exact lawS pyramid_L hu L xs (nI i)
  rw [if_neg k2]
  by_cases k3 : t = 3
  · rw [if_pos k3]
    exact lawS day_S hu L xs (nI i)
  rw [if_neg k3]
  by_cases k4 : t = 4
  · rw [if_pos k4]
    exact lawR (fault_S _) hu L xs (nI i)
  rw [if_neg k4]
  by_cases k5 : t = 5
  · rw [if_pos k5]
    exact lawS named_S hu L xs (nI i)
  rw [if_neg k5]
  by_cases k6 : t = 6
  · rw [if_pos k6]
    exact lawS (resign_S _) hu L xs (nI i)
  rw [if_neg k6]
  by_cases k7 : t = 7
  · rw [if_pos k7]
    exact lawS (refuse_S _) hu L xs (nI i)
  rw [if_neg k7]
  by_cases k8 : t = 8
  · rw [if_pos k8]
    exact lawS (deduct_S _ _) hu L xs (nI i)
  rw [if_neg k8]
  by_cases k9 : t = 9
  · rw [if_pos k9]
    exact lawS (grade_S _ _) hu L xs (nI i)
  rw [if_neg k9]
  by_cases k10 : t = 10
  · rw [if_pos k10]
    exact lawS close_S hu L xs (nI i)
  rw [if_neg k10]
  by_cases k11 : t = 11
  · rw [if_pos k11]
    exact lawS undo_S hu L xs (nI i)
  rw [if_neg k11]
  by_cases k12 : t = 12
  · rw [if_pos k12]
    exact lawR (club_S _ _) hu L xs (nI i)
  rw [if_neg k12]
  by_cases k13 : t = 13
  · rw [if_pos k13]
    exact lawW (of_S _ _) hu L xs (nI i)
  rw [if_neg k13]
  by_cases k14 : t = 14
  · rw [if_pos k14]
    exact lawR (points_S _) hu L xs (nI i)
  rw [if_neg k14]
  by_cases k15 : t = 15
  · rw [if_pos k15]
    exact lawR (average_S _) hu L xs (nI i)
  rw [if_neg k15]
  by_cases k16 : t = 16
  · rw [if_pos k16]
    exact lawW (ranked_S _ _ _) hu L xs (nI i)
  rw [if_neg k16]
  by_cases k17 : t = 17
  · rw [if_pos k17]
    exact lawW (order_S _ _) hu L xs (nI i)
  rw [if_neg k17]
  by_cases k18 : t = 18
  · rw [if_pos k18]
    exact lawS (level_S _ _) hu L xs (nI i)
  rw [if_neg k18]
  by_cases k19 : t = 19
  · rw [if_pos k19]
    exact lawW (moves_S _ _ _) hu L xs (nI i)
  rw [if_neg k19]
  by_cases k20 : t = 20
  · rw [if_pos k20]
    exact lawW (would_S _) hu L xs (nI i)
  rw [if_neg k20]
  by_cases k21 : t = 21
  · rw [if_pos k21]
    exact lawW (needs_S _) hu L xs (nI i)
  rw [if_neg k21]
  by_cases k22 : t = 22
  · rw [if_pos k22]
    exact lawS (parted_S _) hu L xs (nI i)
  rw [if_neg k22]
  by_cases k23 : t = 23
  · rw [if_pos k23]
    exact lawQ (swap_S _ _) hu L xs (nI i)
  rw [if_neg k23]
  by_cases k24 : t = 24
  · rw [if_pos k24]
    exact lawQ (middle_S _) hu L xs (nI i)
  rw [if_neg k24]
  by_cases k25 : t = 25
  · rw [if_pos k25]
    exact lawL (rest_S _ _) hu L xs (nI i)
  rw [if_neg k25]
  by_cases k26 : t = 26
  · rw [if_pos k26]
    exact lawR (match_S _ _ _) hu L xs (nI i)
  rw [if_neg k26]
  by_cases k27 : t = 27
  · rw [if_pos k27]
    exact lawR (above_S _) hu L xs (nI i)
  rw [if_neg k27]
  by_cases k28 : t = 28
  · rw [if_pos k28]
    exact lawR (journeys_S _) hu L xs (nI i)
  rw [if_neg k28]
  by_cases k29 : t = 29
  · rw [if_pos k29]
    exact lawR (nearest_S _) hu L xs (nI i)
  rw [if_neg k29]
  by_cases k30 : t = 30
  · rw [if_pos k30]
    exact lawR (versus_S _ _) hu L xs (nI i)
  rw [if_neg k30]
  by_cases k31 : t = 31
  · rw [if_pos k31]
    exact lawQ (strangers_S _) hu L xs (nI i)
  rw [if_neg k31]
  by_cases k32 : t = 32
  · rw [if_pos k32]
    exact lawS (show_S _ _) hu L xs (nI i)
  rw [if_neg k32]
  by_cases k33 : t = 33
  · rw [if_pos k33]
    exact lawR (out_S _) hu L xs (nI i)
  rw [if_neg k33]
  by_cases k34 : t = 34
  · rw [if_pos k34]
    exact lawR (look_S _) hu L xs (nI i)
  rw [if_neg k34]
  exact ⟨u, rfl, hu⟩
