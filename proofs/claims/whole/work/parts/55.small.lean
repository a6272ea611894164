/-! small answers, both sides -/
theorem gz100 {ρ : Type} {x : Option ρ} : gZ 100 x = x := gZ_ok (by decide)
theorem inl_eq {S E : Type} {a b : S} (h : a = b) : (some (Sum.inl a) : Option (S ⊕ E)) = some (.inl b) := by rw [h]
theorem ix120 (a b : Nat) : (120 : Int32) + 30 * nI a + nI b = nI (120 + (30 * a + b)) := by
  rw [show (30 : Int32) = nI 30 from rfl, show (120 : Int32) = nI 120 from rfl, pk_mul, nI_add, nI_add, Nat.add_assoc]
theorem goalsAt_m {A : Ab} {x m : llMem} {mc : Nat} {ml : Nat → Nat × Nat} (hs : ISea A x m mc ml) {a b : Nat} (ha : a < 30) (hb : b < 30) : fx_X12_goalsAt_69 m (nI a) (nI b) = some (x.1 17 (30 * a + b)) := by
  unfold fx_X12_goalsAt_69
  rw [ix120, gI_nI (by omega) (by decide), rI_n (by omega), hs.2.1 _ (by omega)]
theorem partOf_m (u : llMem) (a b : Int32) {w : Nat} (hw : w < 5) : fx_X12_partOf u a b (nI w) = some (part a b w) := by
  unfold fx_X12_partOf fx_X12_partOf_j44 fx_X12_partOf_j23 fx_X12_one
  rcases (show w = 0 ∨ w = 1 ∨ w = 2 ∨ w = 3 ∨ w = 4 by omega) with rfl | rfl | rfl | rfl | rfl
  · rw [if_neg (by decide)]; rfl
  · rw [if_pos (by decide), if_neg (by decide)]
    unfold part
    by_cases h : a ≤ b
    · rw [if_pos h, if_neg (Int32.not_lt.mpr h)]; rfl
    · rw [if_neg h, if_pos (Int32.not_le.mp h)]; rfl
  · rw [if_pos (by decide), if_pos (by decide), if_neg (by decide)]
    unfold part
    by_cases h : a = b
    · rw [if_neg (fun q => q h), if_pos h]; rfl
    · rw [if_pos h, if_neg h]; rfl
  · rw [if_pos (by decide), if_pos (by decide), if_pos (by decide), if_neg (by decide)]; rfl
  · rw [if_pos (by decide), if_pos (by decide), if_pos (by decide), if_pos (by decide)]; rfl
theorem cP_1 {v : Int32} {w : Nat} (h : v = -1) : cP v w = 0 := if_pos h
theorem cP_n {v : Int32} {w : Nat} (h : ¬ v = -1) : cP v w = part (v / 100) (v - v / 100 * 100) w := if_neg h
theorem cA_1 {v : Int32} {w : Nat} (h : v = -1) : cA v w = 0 := if_pos h
theorem cA_n {v : Int32} {w : Nat} (h : ¬ v = -1) : cA v w = part (v - v / 100 * 100) (v / 100) w := if_neg h
theorem sumOf_m {A : Ab} {x m : llMem} {mc : Nat} {ml : Nat → Nat × Nat} (h : IPyr A x m) (hs : ISea A x m mc ml) {c w : Nat} (hc : c < A.nc) (hw : w < 5) : fx_X12_sumOf_69 m (nI c) (nI w) = some (sumW (x.1 17) A.nc c w) := by
  have hn := h.ncB
  unfold fx_X12_sumOf_69
  rw [loop_run0 (fun i => (sumI (fun o => cP (x.1 17 (30 * c + o)) w + cA (x.1 17 (30 * o + c)) w) i, nI i)) (sumW (x.1 17) A.nc c w) A.nc llFuel (s := ((0 : Int32), (0 : Int32))) rfl ?_ ?_ (by unfold llFuel; omega)]
  · rfl
  · intro i hi
    have g1 := goalsAt_m hs (a := c) (b := i) (by omega) (by omega)
    have g2 := goalsAt_m hs (a := i) (b := c) (by omega) (by omega)
    unfold fx_X12_sumOf_69_l5 fx_X12_sumOf_69_j46_b5 fx_X12_sumOf_69_j78_b5
    dsimp only
    rw [h.m9, if_neg (nle2 (by omega) (by omega) hi)]
    simp only [g1, g2, Option.bind_some, gz100, lt_eq, nI_1, partOf_m m _ _ hw]
    have e : sumI (fun o => cP (x.1 17 (30 * c + o)) w + cA (x.1 17 (30 * o + c)) w) (i + 1) = sumI (fun o => cP (x.1 17 (30 * c + o)) w + cA (x.1 17 (30 * o + c)) w) i + (cP (x.1 17 (30 * c + i)) w + cA (x.1 17 (30 * i + c)) w) := rfl
    rw [e]
    by_cases e1 : x.1 17 (30 * c + i) = -1
    · rw [if_pos e1]
      by_cases e2 : x.1 17 (30 * i + c) = -1
      · rw [if_pos e2, cP_1 e1, cA_1 e2]
        exact inl_eq (Prod.ext (by dsimp only; grind) rfl)
      · rw [if_neg e2, cP_1 e1, cA_n e2]
        exact inl_eq (Prod.ext (by dsimp only; grind) rfl)
    · rw [if_neg e1]
      by_cases e2 : x.1 17 (30 * i + c) = -1
      · rw [if_pos e2, cP_n e1, cA_1 e2]
        exact inl_eq (Prod.ext (by dsimp only; grind) rfl)
      · rw [if_neg e2, cP_n e1, cA_n e2]
        exact inl_eq (Prod.ext (by dsimp only; grind) rfl)
  · unfold fx_X12_sumOf_69_l5
    dsimp only
    rw [h.m9, if_pos (le2 (by omega) (by omega) (Nat.le_refl _))]
    rfl
theorem ISea.su {A : Ab} {x m : llMem} {mc : Nat} {ml : Nat → Nat × Nat} (hs : ISea A x m mc ml) {c w : Nat} (hc : c < 30) (hw : w < 5) : x.1 (21 + w) c = sumW (x.1 17) A.nc c w := ISu_iff.mp hs.2.2.2 c w hc hw
/-- the sums of the reference are the class's rows -/
theorem sumOf_e {A : Ab} {x m : llMem} {mc : Nat} {ml : Nat → Nat × Nat} (h : IPyr A x m) (hs : ISea A x m mc ml) {c w : Nat} (hc : c < A.nc) (hw : w < 5) : fx_X12_sumOf_69 m (nI c) (nI w) = some (x.1 (21 + w) c) := by
  have hn := h.ncB
  rw [sumOf_m h hs hc hw, hs.su (by omega) hw]
def ptI (x : llMem) (c : Nat) : Int32 := 3 * x.1 22 c + x.1 23 c - x.1 20 c
theorem pointsOf_x {x : llMem} {c : Nat} (hc : c < 30) : fx_X7_pointsOf_14 x (nI c) = some (ptI x c) := by
  unfold fx_X7_pointsOf_14
  rw [gI_nI hc (by decide), gI_nI hc (by decide), gI_nI hc (by decide), rI_n (by omega), rI_n (by omega), rI_n (by omega)]
  rfl
theorem pointsOf_m {A : Ab} {x m : llMem} {mc : Nat} {ml : Nat → Nat × Nat} (h : IPyr A x m) (hs : ISea A x m mc ml) {c : Nat} (hc : c < A.nc) : fx_X12_pointsOf_69 m (nI c) = some (ptI x c) := by
  have hn := h.ncB
  unfold fx_X12_pointsOf_69
  rw [show (1 : Int32) = nI 1 from rfl, show (2 : Int32) = nI 2 from rfl, sumOf_e h hs hc (by decide), sumOf_e h hs hc (by decide), Option.bind_some, Option.bind_some, show (90 : Int32) + nI c = nI (90 + c) from nI_add 90 c, gI_nI (by omega) (by decide), rI_n (by omega), (hs.1 c hc).2.2.2.2.2.2.2]
  rfl
theorem fault_S (a : Int32) : StepR (fun u => fx_X11_fault_0 u a) (fun u => fx_X12_fault_69 u a) := by
  rintro x m ⟨A, mc, ml, k, cj, h⟩
  have hf := h.2.2.2.2.2.2.1
  unfold IFa at hf
  dsimp only
  unfold fx_X11_fault_0 fx_X12_fault_69
  rw [hf.1, hf.2]
  by_cases h0 : a = 0
  · rw [if_pos h0, if_neg (fun q => q h0)]; exact ⟨_, rfl, rfl⟩
  · rw [if_neg h0, if_pos h0]
    by_cases h1 : a = 1
    · rw [if_pos h1, if_neg (fun q => q h1)]; exact ⟨_, rfl, rfl⟩
    · rw [if_neg h1, if_pos h1]; exact ⟨_, rfl, rfl⟩
theorem points_S (a : Int32) : StepR (fun u => fx_X11_points_0 u a) (fun u => fx_X12_points_69 u a) := by
  rintro x m ⟨A, mc, ml, k, cj, h⟩
  have hp := h.1
  have hn := hp.ncB
  dsimp only
  unfold fx_X11_points_0 fx_X12_points_69
  rcases plays_B hp a with ⟨c, l, d, hc, rfl, hst, hl, hd, p1, p2⟩ | ⟨p1, p2⟩
  · rw [p1, p2, Option.bind_some, Option.bind_some, if_neg one_ne, if_neg one_ne, pointsOf_x (by omega), pointsOf_m hp h.2.1 hc]
    exact ⟨_, rfl, rfl⟩
  · rw [p1, p2]; exact ⟨_, rfl, rfl⟩
theorem club_S (a b : Int32) : StepR (fun u => fx_X11_club_0 u a b) (fun u => fx_X12_club_69 u a b) := by
  rintro x m ⟨A, mc, ml, k, cj, h⟩
  have hp := h.1
  have hn := hp.ncB
  dsimp only
  unfold fx_X11_club_0 fx_X12_club_69
  rcases isClub_B hp a with ⟨c, hc, rfl, p1, p2⟩ | ⟨p1, p2⟩
  · have q := hp.cl hc
    have qn := h.2.1.1 c hc
    rw [p1, p2, Option.bind_some, Option.bind_some, if_pos one_ne, if_pos one_ne, show (0 : Int32) + nI c = nI c from (nI_add 0 c).trans (by rw [Nat.zero_add]), show (30 : Int32) + nI c = nI (30 + c) from nI_add 30 c, show (60 : Int32) + nI c = nI (60 + c) from nI_add 60 c, show (90 : Int32) + nI c = nI (90 + c) from nI_add 90 c]
    simp only [gI_nI (show c < 30 by omega) (show 30 < 2 ^ 31 by decide), gI_nI (show c < 60 by omega) (show 60 < 2 ^ 31 by decide), gI_nI (show c < 1020 by omega) (show 1020 < 2 ^ 31 by decide), gI_nI (show 30 + c < 1020 by omega) (show 1020 < 2 ^ 31 by decide), gI_nI (show 60 + c < 1020 by omega) (show 1020 < 2 ^ 31 by decide), gI_nI (show 90 + c < 1020 by omega) (show 1020 < 2 ^ 31 by decide), rI_n (show c < 2 ^ 31 by omega), rI_n (show 30 + c < 2 ^ 31 by omega), rI_n (show 60 + c < 2 ^ 31 by omega), rI_n (show 90 + c < 2 ^ 31 by omega)]
    rw [q.1, q.2.1, q.2.2.1, q.2.2.2.1, q.x12, q.m74, q.x13, q.m75, qn.2.2.2.2.1, qn.2.2.2.2.2.1, qn.2.2.2.2.2.2.1, qn.2.2.2.2.2.2.2]
    by_cases h0 : b = 0
    · rw [if_pos h0]; exact ⟨_, rfl, rfl⟩
    rw [if_neg h0]
    by_cases h0 : b = 1
    · rw [if_pos h0]; exact ⟨_, rfl, rfl⟩
    rw [if_neg h0]
    by_cases h0 : b = 2
    · rw [if_pos h0]; exact ⟨_, rfl, rfl⟩
    rw [if_neg h0]
    by_cases h0 : b = 3
    · rw [if_pos h0]; exact ⟨_, rfl, rfl⟩
    rw [if_neg h0]
    by_cases h0 : b = 4
    · rw [if_pos h0]; exact ⟨_, rfl, rfl⟩
    rw [if_neg h0]
    by_cases h0 : b = 5
    · rw [if_pos h0]; exact ⟨_, rfl, rfl⟩
    rw [if_neg h0]
    by_cases h0 : b = 6
    · rw [if_pos h0]; exact ⟨_, rfl, rfl⟩
    rw [if_neg h0]
    by_cases h0 : b = 7
    · rw [if_pos h0]; exact ⟨_, rfl, rfl⟩
    rw [if_neg h0]
    exact ⟨_, rfl, rfl⟩
  · rw [p1, p2]; exact ⟨_, rfl, rfl⟩
/-- a score: none, or the goals of a match that was told -/
theorem sc_ok {A : Ab} {x : llMem} {mc : Nat} {ml : Nat → Nat × Nat} (h : IMa A x mc ml) {a b : Nat} (ha : a < 30) (hb : b < 30) : (x.1 17 (30 * a + b) = -1 ∧ ∀ i, i < mc → ml i ≠ (a, b)) ∨ ∃ i g t, i < mc ∧ ml i = (a, b) ∧ g ≤ 99 ∧ t ≤ 99 ∧ x.1 17 (30 * a + b) = nI (100 * g + t) := by
  obtain ⟨m1, m2, m3, m4, m5⟩ := h
  by_cases q : ∃ i, i < mc ∧ ml i = (a, b)
  · obtain ⟨i, h1, h2⟩ := q
    obtain ⟨_, _, _, _, _, _, _, g, t, h3, h4, h5⟩ := m3 i h1
    rw [h2] at h5
    exact Or.inr ⟨i, g, t, h1, h2, h3, h4, h5⟩
  · have : ∀ i, i < mc → ml i ≠ (a, b) := fun i hi e => q ⟨i, hi, e⟩
    exact Or.inl ⟨m5 a b ha hb this, this⟩
theorem isIn_pm (u : llMem) (b : Int32) : (b = 0 ∨ b = 1) ∧ fx_X12_isIn u (Int32.toInt64 b) 0 1 = some 1 ∨ (¬ b = 0 ∧ ¬ b = 1) ∧ fx_X12_isIn u (Int32.toInt64 b) 0 1 = some 0 := by
  rcases arg_in b (k := 2) (by decide) with ⟨c, h1, h2, h3⟩ | ⟨h1, h3⟩
  · refine Or.inl ⟨?_, h3 u⟩
    rcases (show c = 0 ∨ c = 1 by omega) with rfl | rfl
    · exact Or.inl h2
    · exact Or.inr h2
  · refine Or.inr ⟨⟨?_, ?_⟩, h3 u⟩
    · rintro rfl; revert h1; decide
    · rintro rfl; revert h1; decide
theorem match_S (a b w : Int32) : StepR (fun u => fx_X11_match_0 u a b w) (fun u => fx_X12_match_69 u a b w) := by
  rintro x m ⟨A, mc, ml, k, cj, h⟩
  have hp := h.1
  have hn := hp.ncB
  dsimp only
  unfold fx_X11_match_0 fx_X12_match_69
  rcases isClub_B hp a with ⟨c, hc, rfl, p1, p2⟩ | ⟨p1, p2⟩
  · rcases isClub_B hp b with ⟨d, hd, rfl, p3, p4⟩ | ⟨p3, p4⟩
    · rw [p1, p2, p3, p4]
      simp only [Option.bind_some]
      rw [if_neg one_ne, if_neg one_ne, if_pos one_ne, if_neg one_ne, homeGoals_x (by omega) (by omega), awayGoals_x (by omega) (by omega)]
      simp only [goalsAt_m h.2.1 (show c < 30 by omega) (show d < 30 by omega), Option.bind_some, gz100]
      rcases isIn_pm m w with ⟨q1, q2⟩ | ⟨⟨q1, q2⟩, q3⟩
      · rw [q2]
        simp only [Option.bind_some]
        rw [if_neg one_ne]
        by_cases e : x.1 17 (30 * c + d) = -1
        · rw [if_neg (show ¬ ¬ x.1 17 (30 * c + d) = -1 from fun q => q e), if_pos e, if_pos e]
          rcases q1 with rfl | rfl
          · exact ⟨_, rfl, rfl⟩
          · exact ⟨_, rfl, rfl⟩
        · rw [if_pos e, if_neg e, if_neg e]
          rcases q1 with rfl | rfl
          · exact ⟨_, rfl, rfl⟩
          · exact ⟨_, rfl, rfl⟩
      · rw [q3, if_neg q1, if_neg q2]
        exact ⟨_, rfl, rfl⟩
    · rw [p1, p2, p3, p4]; exact ⟨_, rfl, rfl⟩
  · rw [p1, p2]; exact ⟨_, rfl, rfl⟩
theorem out_S (a : Int32) : StepR (fun u => fx_X11_out_0 u a) (fun u => fx_X12_out_69 u a) := by
  rintro x m ⟨A, mc, ml, k, cj, h⟩
  obtain ⟨n, s1, s2, s3, s4⟩ := h.2.2.2.2.1
  dsimp only
  unfold fx_X11_out_0 fx_X12_out_69
  rw [s2, s3]
  rcases arg_in a (k := n) (by omega) with ⟨c, h1, rfl, h3⟩ | ⟨h1, h3⟩
  · rw [h3, Option.bind_some, if_neg one_ne, if_neg (nI_nneg (by omega)), if_neg (nle2 (by omega) (by omega) h1), gI_nI (by omega) (by decide), gI_nI (by omega) (by decide), rI_n (by omega), rI_n (by omega), s4 c h1]
    exact ⟨_, rfl, rfl⟩
  · rw [h3, Option.bind_some, if_pos rfl]
    rcases h1 with h1 | ⟨h1, h2⟩
    · rw [if_pos h1]; exact ⟨_, rfl, rfl⟩
    · rw [if_neg h1, if_pos h2]; exact ⟨_, rfl, rfl⟩
/-- points of a match -/
def gn (a b : Int32) : Int32 := if a ≤ b then (if ¬ a = b then 0 else 1) else 3
theorem gains_m (u : llMem) (a b : Int32) : fx_X12_gains u a b = some (gn a b) := by
  unfold fx_X12_gains gn
  by_cases h : a ≤ b
  · rw [if_pos h, if_pos h]
    by_cases e : a = b
    · rw [if_neg (fun q => q e), if_neg (fun q => q e)]
    · rw [if_pos e, if_pos e]
  · rw [if_neg h, if_neg h]
theorem pointsFor_n (u : llMem) {a b : Int32} (ha : ¬ a = -1) : fx_X7_pointsFor u a b = some (gn a b) := by
  unfold fx_X7_pointsFor gn
  rw [if_neg ha]
  by_cases h : a ≤ b
  · by_cases e : a = b
    · subst e; rw [if_pos h, if_pos h, if_pos h, if_neg (fun q => q rfl)]
    · have h2 : ¬ b ≤ a := fun q => e (Int32.le_antisymm h q)
      rw [if_neg h2, if_pos h, if_pos e]
  · have h2 : b ≤ a := Int32.le_of_lt (Int32.not_le.mp h)
    rw [if_pos h2, if_neg h, if_neg h]
theorem pointsFor_1 (u : llMem) (b : Int32) : fx_X7_pointsFor u (-1) b = some 0 := rfl
theorem gotFrom_x {A : Ab} {x : llMem} {mc : Nat} {ml : Nat → Nat × Nat} (h : IMa A x mc ml) {a b : Nat} (ha : a < 30) (hb : b < 30) : fx_X7_gotFrom_14 x (nI a) (nI b) = some ((if x.1 17 (30 * a + b) = -1 then 0 else gn (hiG (x.1 17 (30 * a + b))) (loG (x.1 17 (30 * a + b)))) + (if x.1 17 (30 * b + a) = -1 then 0 else gn (loG (x.1 17 (30 * b + a))) (hiG (x.1 17 (30 * b + a))))) := by
  unfold fx_X7_gotFrom_14
  rw [homeGoals_x ha hb, awayGoals_x ha hb, homeGoals_x hb ha, awayGoals_x hb ha]
  simp only [Option.bind_some]
  have k1 : fx_X7_pointsFor x (if x.1 17 (30 * a + b) = -1 then -1 else hiG (x.1 17 (30 * a + b))) (if x.1 17 (30 * a + b) = -1 then -1 else loG (x.1 17 (30 * a + b))) = some (if x.1 17 (30 * a + b) = -1 then 0 else gn (hiG (x.1 17 (30 * a + b))) (loG (x.1 17 (30 * a + b)))) := by
    rcases sc_ok h ha hb with ⟨e, -⟩ | ⟨i, g, t, -, -, g1, t1, e⟩
    · rw [e]; rfl
    · obtain ⟨n1, n2, n3⟩ := nI_100 g1 t1
      rw [e, if_neg n3, if_neg n3, if_neg n3, n1, n2, pointsFor_n _ (nI_nm1 (by omega))]
  have k2 : fx_X7_pointsFor x (if x.1 17 (30 * b + a) = -1 then -1 else loG (x.1 17 (30 * b + a))) (if x.1 17 (30 * b + a) = -1 then -1 else hiG (x.1 17 (30 * b + a))) = some (if x.1 17 (30 * b + a) = -1 then 0 else gn (loG (x.1 17 (30 * b + a))) (hiG (x.1 17 (30 * b + a)))) := by
    rcases sc_ok h hb ha with ⟨e, -⟩ | ⟨i, g, t, -, -, g1, t1, e⟩
    · rw [e]; rfl
    · obtain ⟨n1, n2, n3⟩ := nI_100 g1 t1
      rw [e, if_neg n3, if_neg n3, if_neg n3, n1, n2, pointsFor_n _ (nI_nm1 (by omega))]
  rw [k1, Option.bind_some, k2, Option.bind_some]
theorem versus_S (a b : Int32) : StepR (fun u => fx_X11_versus_0 u a b) (fun u => fx_X12_versus_69 u a b) := by
  rintro x m ⟨A, mc, ml, k, cj, h⟩
  have hp := h.1
  have hn := hp.ncB
  dsimp only
  unfold fx_X11_versus_0 fx_X12_versus_69 fx_X12_versus_69_j76 fx_X12_versus_69_j124
  rcases plays_B hp a with ⟨c, l, d, hc, rfl, hst, hl, hd, p1, p2⟩ | ⟨p1, p2⟩
  · rcases plays_B hp b with ⟨o, l', d', ho, rfl, hst', hl', hd', p3, p4⟩ | ⟨p3, p4⟩
    · rw [p1, p2, p3, p4]
      simp only [Option.bind_some]
      rw [if_neg one_ne, if_neg one_ne, if_neg one_ne, if_neg one_ne]
      by_cases e : nI c = nI o
      · rw [if_neg (fun q => q e), if_neg (fun q => q e)]; exact ⟨_, rfl, rfl⟩
      · rw [if_pos e, if_pos e, gotFrom_x h.2.1.2.2.1 (by omega) (by omega), gotFrom_x h.2.1.2.2.1 (by omega) (by omega)]
        have g1 := goalsAt_m h.2.1 (a := c) (b := o) (by omega) (by omega)
        have g2 := goalsAt_m h.2.1 (a := o) (b := c) (by omega) (by omega)
        simp only [g1, g2, Option.bind_some, gz100, lt_eq, gains_m]
        unfold hiG loG
        by_cases e1 : x.1 17 (30 * c + o) = -1
        · rw [if_pos e1, if_pos e1, if_pos e1]
          by_cases e2 : x.1 17 (30 * o + c) = -1
          · rw [if_pos e2, if_pos e2, if_pos e2]; exact ⟨_, rfl, rfl⟩
          · rw [if_neg e2, if_neg e2, if_neg e2]
            exact ⟨_, rfl, congrArg some (by grind)⟩
        · rw [if_neg e1, if_neg e1, if_neg e1]
          by_cases e2 : x.1 17 (30 * o + c) = -1
          · rw [if_pos e2, if_pos e2, if_pos e2]
            exact ⟨_, rfl, congrArg some (by grind)⟩
          · rw [if_neg e2, if_neg e2, if_neg e2]
            exact ⟨_, rfl, congrArg some (by grind)⟩
    · rw [p1, p2, p3, p4]; exact ⟨_, rfl, rfl⟩
  · rw [p1, p2]; exact ⟨_, rfl, rfl⟩
