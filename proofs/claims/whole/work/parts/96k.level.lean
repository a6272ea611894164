theorem level_S (a w : Int32) : Step (fun u => fx_X11_level_0 u a w) (fun u => fx_X12_level_69 u a w) := by
  rintro x m ⟨A, mc, ml, k, cj, h⟩
  have hp := h.1
  have hs := h.2.1
  have hn := hp.ncB
  have hn2 := hp.nlB
  dsimp only
  unfold fx_X11_level_0 fx_X12_level_69
  rcases hasLevel_B hp a with ⟨l, hl, rfl, p1, p2⟩ | ⟨p1, p2⟩
  · rw [p1, p2, Option.bind_some, Option.bind_some, if_pos (show ¬ (1 : Int32) = 0 by decide), if_neg (show ¬ (1 : Int32) = 0 by decide)]
    rw [show (7 : Int64) = Int32.toInt64 (nI 8 - 1) from rfl]
    have lv := hp.lv hl
    have same : ∀ r : Int32, ∃ x' m' r', (some (x, r) : Option (llMem × Int32)) = some (x', r') ∧ (some (m, r) : Option (llMem × Int32)) = some (m', r') ∧ Inv x' m' ∧ OX x x' ∧ OM m m' := fun r => ⟨x, m, r, rfl, rfl, ⟨A, mc, ml, k, cj, h⟩, OX.refl _, OM.refl _⟩
    rcases arg_in w (k := 8) (by decide) with ⟨W, h1, rfl, h3⟩ | ⟨h1, h3⟩
    · rw [h3, Option.bind_some, if_pos (show ¬ (1 : Int32) = 0 by decide)]
      have W8 : W = 0 ∨ W = 1 ∨ W = 2 ∨ W = 3 ∨ W = 4 ∨ W = 5 ∨ W = 6 ∨ W = 7 := by omega
      obtain ⟨m3, b1, b2, b3⟩ := laysWanting_m (m := m) hp hs
      have p3 := hp.smM b2 (fun c hc => by simp at hc; omega)
      have s3 := hs.smM b2 (fun c hc => by simp at hc; omega)
      have hq3 : QM m m3 := QM.sm b2 (fun c hc => by simp at hc; omega)
      have lm := levelMiles_m p3 hl
      rcases W8 with rfl | rfl | rfl | rfl | rfl | rfl | rfl | rfl
      · rw [if_pos (show nI 0 = 0 from rfl), if_neg (show ¬ (4 : Int32) ≤ nI 0 by decide), show (4 : Int32) * nI l + nI 0 = nI (4 * l + 0) from ix4 l 0, Nat.add_zero, gI_nI (by omega) (by decide), gI_nI (by omega) (by decide), rI_n (by omega), rI_n (by omega), lv.1, lv.2.2.2.2.1]
        exact same _
      · rw [if_neg (show ¬ nI 1 = 0 by decide), if_pos (show nI 1 = 1 from rfl), if_neg (show ¬ (4 : Int32) ≤ nI 1 by decide), ix4, gI_nI (by omega) (by decide), gI_nI (by omega) (by decide), rI_n (by omega), rI_n (by omega), lv.2.1, lv.2.2.2.2.2.1]
        exact same _
      · rw [if_neg (show ¬ nI 2 = 0 by decide), if_neg (show ¬ nI 2 = 1 by decide), if_pos (show nI 2 = 2 from rfl), if_neg (show ¬ (4 : Int32) ≤ nI 2 by decide), ix4, gI_nI (by omega) (by decide), gI_nI (by omega) (by decide), rI_n (by omega), rI_n (by omega), lv.2.2.1, lv.2.2.2.2.2.2.1]
        exact same _
      · rw [if_neg (show ¬ nI 3 = 0 by decide), if_neg (show ¬ nI 3 = 1 by decide), if_neg (show ¬ nI 3 = 2 by decide), if_pos (show nI 3 = 3 from rfl), if_neg (show ¬ (4 : Int32) ≤ nI 3 by decide), ix4, gI_nI (by omega) (by decide), gI_nI (by omega) (by decide), rI_n (by omega), rI_n (by omega), lv.2.2.2.1, lv.2.2.2.2.2.2.2.1]
        exact same _
      · rw [if_neg (show ¬ nI 4 = 0 by decide), if_neg (show ¬ nI 4 = 1 by decide), if_neg (show ¬ nI 4 = 2 by decide), if_neg (show ¬ nI 4 = 3 by decide), if_pos (show nI 4 = 4 from rfl), if_pos (show (4 : Int32) ≤ nI 4 by decide), b1, bd_mk, lm, Option.bind_some, if_pos (show ¬ nI 4 = 7 by decide), wantingOf_x hp hs (Bas.refl x) (by omega), Option.bind_some]
        unfold fx_X12_level_69_j89
        rw [if_neg (show ¬ ¬ nI 4 = 4 from fun z => z rfl), gI_nI (by omega) (by decide), rI_n (by omega), b3 l hl]
        exact ⟨x, m3, _, rfl, rfl, ⟨A, mc, ml, k, cj, h.of (QX.refl x) hq3⟩, OX.refl _, hq3.om⟩
      · rw [if_neg (show ¬ nI 5 = 0 by decide), if_neg (show ¬ nI 5 = 1 by decide), if_neg (show ¬ nI 5 = 2 by decide), if_neg (show ¬ nI 5 = 3 by decide), if_neg (show ¬ nI 5 = 4 by decide), if_pos (show nI 5 = 5 from rfl), if_pos (show (4 : Int32) ≤ nI 5 by decide), b1, bd_mk, lm, Option.bind_some, if_pos (show ¬ nI 5 = 7 by decide), mayRiseFrom_x hp hs (Bas.refl x) (by omega), Option.bind_some]
        unfold fx_X12_level_69_j89
        rw [if_pos (show ¬ nI 5 = 4 by decide), if_neg (show ¬ ¬ nI 5 = 5 from fun z => z rfl), mayFrom_m p3 s3 (by omega), Option.bind_some]
        exact ⟨x, m3, _, rfl, rfl, ⟨A, mc, ml, k, cj, h.of (QX.refl x) hq3⟩, OX.refl _, hq3.om⟩
      · rw [if_neg (show ¬ nI 6 = 0 by decide), if_neg (show ¬ nI 6 = 1 by decide), if_neg (show ¬ nI 6 = 2 by decide), if_neg (show ¬ nI 6 = 3 by decide), if_neg (show ¬ nI 6 = 4 by decide), if_neg (show ¬ nI 6 = 5 by decide), if_pos (show nI 6 = 6 from rfl), if_pos (show (4 : Int32) ≤ nI 6 by decide), b1, bd_mk, lm, Option.bind_some, if_pos (show ¬ nI 6 = 7 by decide), ofLevel_x hp hl, Option.bind_some]
        unfold fx_X12_level_69_j89
        rw [if_pos (show ¬ nI 6 = 4 by decide), if_pos (show ¬ nI 6 = 5 by decide), if_neg (show ¬ ¬ nI 6 = 6 from fun z => z rfl)]
        exact ⟨x, m3, _, rfl, rfl, ⟨A, mc, ml, k, cj, h.of (QX.refl x) hq3⟩, OX.refl _, hq3.om⟩
      · obtain ⟨x', a1, a2, a3, a4, _⟩ := partAnew_x hp.py0 h.2.2.2.1 hl
        obtain ⟨m', P, c1, c2, c3, c4, _⟩ := laysParts_m p3.py0 hl
        obtain ⟨P', q1, q2, q3⟩ := a3.at hl a4
        rw [c3] at q1
        injection q1 with q1
        subst q1
        rw [if_neg (show ¬ nI 7 = 0 by decide), if_neg (show ¬ nI 7 = 1 by decide), if_neg (show ¬ nI 7 = 2 by decide), if_neg (show ¬ nI 7 = 3 by decide), if_neg (show ¬ nI 7 = 4 by decide), if_neg (show ¬ nI 7 = 5 by decide), if_neg (show ¬ nI 7 = 6 by decide), if_pos (show nI 7 = 7 from rfl), if_pos (show (4 : Int32) ≤ nI 7 by decide), b1, bd_mk, lm, Option.bind_some, if_neg (show ¬ ¬ nI 7 = 7 from fun z => z rfl), a1, bd_mk, c1, bd_mk, gI_nI (by omega) (by decide), rI_n (by omega), q2]
        unfold fx_X12_level_69_j89
        rw [if_pos (show ¬ nI 7 = 4 by decide), if_pos (show ¬ nI 7 = 5 by decide), if_pos (show ¬ nI 7 = 6 by decide), c4]
        have hq := hq3.trans c2.q
        exact ⟨x', m', _, rfl, rfl, ⟨A, mc, ml, k, cj, h.pa a2 a3 hq⟩, pa_ox a2, hq.om⟩
    · have ne : ∀ v : Nat, v < 8 → ¬ w = nI v := fun v hv z => by
        subst z
        rcases h1 with q | ⟨_, q⟩
        · exact nI_nneg (by omega) q
        · exact nle2 (by omega) (by omega) hv q
      rw [h3, Option.bind_some, if_neg (show ¬ ¬ (0 : Int32) = 0 from fun z => z rfl), if_neg (show ¬ w = 0 from ne 0 (by decide)), if_neg (show ¬ w = 1 from ne 1 (by decide)), if_neg (show ¬ w = 2 from ne 2 (by decide)), if_neg (show ¬ w = 3 from ne 3 (by decide)), if_neg (show ¬ w = 4 from ne 4 (by decide)), if_neg (show ¬ w = 5 from ne 5 (by decide)), if_neg (show ¬ w = 6 from ne 6 (by decide)), if_neg (show ¬ w = 7 from ne 7 (by decide))]
      exact same _
  · rw [p1, p2, Option.bind_some, Option.bind_some, if_neg (fun z => z rfl), if_pos rfl]
    exact ⟨x, m, _, rfl, rfl, ⟨A, mc, ml, k, cj, h⟩, OX.refl _, OM.refl _⟩
