/-! resign, refuse, deduct, grade, undo -/
theorem ITp.of {x m x' m' : llMem} (h : ITp x m) (h1 : x'.1 1 1 = x.1 1 1) (h2 : x'.1 2 = x.1 2) (h3 : m'.1 69 16 = m.1 69 16) (h4 : m'.1 79 = m.1 79) : ITp x' m' := by
  unfold ITp TX TM at h ⊢
  rw [h1, h2, h3, h4]; exact h
theorem InvA.sea {A : Ab} {x m x' m' : llMem} {mc mc' : Nat} {ml ml' : Nat → Nat × Nat} {k k' : Nat} {cj cj' : Nat → Nat} (h : InvA A x m mc ml k cj) (xx : ∀ i, (3 ≤ i ∧ i < 11) ∨ i = 12 ∨ i = 13 ∨ 29 < i → x'.1 i = x.1 i) (x14 : x'.1 14 0 = x.1 14 0) (x2 : ∀ i, i ≠ 1 → x'.2.1 i = x.2.1 i) (mm : ∀ i, 69 < i → i ≠ 77 → i ≠ 78 → i ≠ 79 → i ≠ 80 → m'.1 i = m.1 i) (m69 : ∀ j, j ∈ [1, 9, 11, 53] → m'.1 69 j = m.1 69 j) (m2 : ∀ i, i ≠ 69 → m'.2.1 i = m.2.1 i) (hs : ISea A x' m' mc' ml') (hd : IDe A x' m' mc' ml' k' cj') (ht : ITp x' m') (hf : IFa x' m') (hr : IRe A x') : InvA A x' m' mc' ml' k' cj' := by
  obtain ⟨h1, h2, h3, h4, h5, h6, h7, h8, h9⟩ := h
  refine ⟨h1.of (fun c hc => ?_) (fun c hc => ?_) (m69 1 (by simp)) (m69 9 (by simp)), hs, hd, ?_, ?_, ht, hf, ?_, hr⟩
  · simp only [List.mem_cons, List.not_mem_nil, or_false] at hc
    exact ⟨xx c (by omega), x2 c (by omega)⟩
  · simp only [List.mem_cons, List.not_mem_nil, or_false] at hc
    exact ⟨mm c (by omega) (by omega) (by omega) (by omega) (by omega), m2 c (by omega)⟩
  · unfold ICa at h4 ⊢
    rw [xx 53 (by decide), xx 54 (by decide), xx 55 (by decide), xx 60 (by decide)]
    exact h4
  · unfold ISh at h5 ⊢
    rw [xx 43 (by decide), xx 47 (by decide), m69 53 (by simp), mm 100 (by decide) (by decide) (by decide) (by decide) (by decide)]
    exact h5
  · rw [m69 11 (by simp), x14]; exact h8
theorem IMa.of {A : Ab} {x x' : llMem} {mc : Nat} {ml : Nat → Nat × Nat} (h : IMa A x mc ml) (h14 : x'.1 14 1 = x.1 14 1) (h15 : x'.1 15 = x.1 15) (h16 : x'.1 16 = x.1 16) (h17 : x'.1 17 = x.1 17) : IMa A x' mc ml := by
  unfold IMa at h ⊢
  rw [h14, h15, h16, h17]; exact h
theorem ISu.of {A : Ab} {x x' : llMem} (h : ISu A x) (hx : ∀ i, i = 17 ∨ (21 ≤ i ∧ i ≤ 25) → x'.1 i = x.1 i) : ISu A x' := by
  unfold ISu at h ⊢
  rw [hx 17 (by decide), hx 21 (by decide), hx 22 (by decide), hx 23 (by decide), hx 24 (by decide), hx 25 (by decide)]; exact h
theorem deed_step {A : Ab} {x m : llMem} {mc : Nat} {ml : Nat → Nat × Nat} {k : Nat} {cj : Nat → Nat} (h : InvA A x m mc ml k cj) {c : Nat} (hc : c < A.nc) {X O : Nat} (hXO : (X = 11 ∧ O = 0) ∨ (X = 18 ∧ O = 30) ∨ (X = 19 ∧ O = 60) ∨ (X = 20 ∧ O = 90)) {v kd val : Int32}
    (hv : (X = 11 → ∃ g, g ≤ 9 ∧ v = nI g) ∧ (X = 18 → v = 1 ∧ (A.st c).isSome) ∧ (X = 19 → v = 1) ∧ (X = 20 → ∃ g, g ≤ 999 ∧ v = nI g))
    (hd : (X = 18 ∧ kd = 1 ∧ x.1 18 c = 0) ∨ (X = 19 ∧ kd = 2 ∧ x.1 19 c = 0) ∨ (X = 20 ∧ kd = 3 ∧ x.1 20 c = v - val) ∨ (X = 11 ∧ kd = 4 ∧ x.1 11 c = val)) :
    ∃ x' mk, fx_X2_keep_26 (llSI x X c v) kd (nI c) val = some (x', ()) ∧ fx_X12_keeps_69 m = some (mk, ()) ∧ mk.1 77 = m.1 77 ∧ Inv x' (llSI mk 77 (O + c) v) ∧ OX x x' ∧ OM m (llSI mk 77 (O + c) v) := by
  have hp := h.1
  have hn := hp.ncB
  have hD := h.2.2.1
  obtain ⟨hs1, hs2, hs3, hs4⟩ := h.2.1
  obtain ⟨x', g1, g2⟩ := keep_x (llSI x X c v) hD.1 (by rw [SI_ne (by omega)]; exact hD.2.1) kd (nI c) val
  obtain ⟨mk, k1, k2⟩ := keeps_m m hD.1 hD.2.2.1
  have xx : ∀ i, i ≠ X → i < 26 ∨ 29 < i → x'.1 i = x.1 i := fun i h1 h2 => by rw [g2.1 i h2, SI_ne h1]
  have xX : x'.1 X = upd (x.1 X) c v := by rw [g2.1 X (by omega), SI_same]
  have x2 : x'.2 = x.2 := g2.2.1
  have m7 : (llSI mk 77 (O + c) v).1 77 = upd (m.1 77) (O + c) v := by rw [SI_same, k2.1 77 (by decide) (by decide)]
  have mi : ∀ i, i ≠ 69 → i ≠ 77 → i ≠ 78 → (llSI mk 77 (O + c) v).1 i = m.1 i := fun i h1 h2 h3 => by rw [SI_ne h2]; exact k2.1 i h1 h3
  have m9 : ∀ j, j ≠ 14 → (llSI mk 77 (O + c) v).1 69 j = m.1 69 j := fun j hj => by rw [SI_ne (by decide)]; exact k2.2.2.1 j hj
  have nw : ∀ c', c' < A.nc → INw x' (llSI mk 77 (O + c) v) c' := by
    intro c' hc'
    have q := hs1 c' hc'
    obtain ⟨q1, q2, q3, q4, q5, q6, q7, q8⟩ := q
    unfold INw
    rw [m7]
    rcases hXO with ⟨rfl, rfl⟩ | ⟨rfl, rfl⟩ | ⟨rfl, rfl⟩ | ⟨rfl, rfl⟩
    · rw [xX, xx 18 (by decide) (by decide), xx 19 (by decide) (by decide), xx 20 (by decide) (by decide), upd_ne (show 30 + c' ≠ 0 + c by omega), upd_ne (show 60 + c' ≠ 0 + c by omega), upd_ne (show 90 + c' ≠ 0 + c by omega)]
      refine ⟨?_, q2, q3, q4, ?_, q6, q7, q8⟩
      · by_cases e : c' = c
        · rw [e, upd_same]; exact hv.1 rfl
        · rw [upd_ne e]; exact q1
      · by_cases e : c' = c
        · rw [e, Nat.zero_add, upd_same, upd_same]
        · rw [upd_ne (by omega), upd_ne e]; exact q5
    · rw [xX, xx 11 (by decide) (by decide), xx 19 (by decide) (by decide), xx 20 (by decide) (by decide), upd_ne (show c' ≠ 30 + c by omega), upd_ne (show 60 + c' ≠ 30 + c by omega), upd_ne (show 90 + c' ≠ 30 + c by omega)]
      refine ⟨q1, ?_, q3, q4, q5, ?_, q7, q8⟩
      · by_cases e : c' = c
        · rw [e, upd_same]; exact Or.inr (hv.2.1 rfl).1
        · rw [upd_ne e]; exact q2
      · by_cases e : c' = c
        · rw [e, upd_same, upd_same]
        · rw [upd_ne (by omega), upd_ne e]; exact q6
    · rw [xX, xx 11 (by decide) (by decide), xx 18 (by decide) (by decide), xx 20 (by decide) (by decide), upd_ne (show c' ≠ 60 + c by omega), upd_ne (show 30 + c' ≠ 60 + c by omega), upd_ne (show 90 + c' ≠ 60 + c by omega)]
      refine ⟨q1, q2, ?_, q4, q5, q6, ?_, q8⟩
      · by_cases e : c' = c
        · rw [e, upd_same]; exact Or.inr (hv.2.2.1 rfl)
        · rw [upd_ne e]; exact q3
      · by_cases e : c' = c
        · rw [e, upd_same, upd_same]
        · rw [upd_ne (by omega), upd_ne e]; exact q7
    · rw [xX, xx 11 (by decide) (by decide), xx 18 (by decide) (by decide), xx 19 (by decide) (by decide), upd_ne (show c' ≠ 90 + c by omega), upd_ne (show 30 + c' ≠ 90 + c by omega), upd_ne (show 60 + c' ≠ 90 + c by omega)]
      refine ⟨q1, q2, q3, ?_, q5, q6, q7, ?_⟩
      · by_cases e : c' = c
        · rw [e, upd_same]; exact hv.2.2.2 rfl
        · rw [upd_ne e]; exact q4
      · by_cases e : c' = c
        · rw [e, upd_same, upd_same]
        · rw [upd_ne (by omega), upd_ne e]; exact q8
  have hS : ISea A x' (llSI mk 77 (O + c) v) mc ml := by
    refine ⟨nw, fun j hj => ?_, hs3.of (by rw [xx 14 (by omega) (by decide)]) (xx 15 (by omega) (by decide)) (xx 16 (by omega) (by decide)) (xx 17 (by omega) (by decide)), hs4.of (fun i hi => xx i (by omega) (by omega))⟩
    rw [m7, upd_ne (by clear hv hd; omega), xx 17 (by omega) (by decide)]
    exact hs2 j hj
  have qc := hs1 c hc
  have hDee : Dee A.nc ml kd (nI c) val mc mc (m.1 77) ((llSI mk 77 (O + c) v).1 77) := by
    refine Or.inr ⟨c, hc, rfl, rfl, ?_⟩
    rw [m7]
    rcases hd with ⟨a1, a2, a3⟩ | ⟨a1, a2, a3⟩ | ⟨a1, a2, a3⟩ | ⟨a1, a2, a3⟩
    · have e : O = 30 := by clear hv; omega
      subst e
      exact Or.inl ⟨a2, by rw [qc.2.2.2.2.2.1]; exact a3, fun e he hne => by rw [upd_ne hne]⟩
    · have e : O = 60 := by clear hv; omega
      subst e
      exact Or.inr (Or.inl ⟨a2, by rw [qc.2.2.2.2.2.2.1]; exact a3, fun e he hne => by rw [upd_ne hne]⟩)
    · have e : O = 90 := by clear hv; omega
      subst e
      refine Or.inr (Or.inr (Or.inl ⟨a2, ?_, ?_, fun e he hne => by rw [upd_ne hne]⟩))
      · rw [qc.2.2.2.2.2.2.2, upd_same]; exact a3
      · rw [qc.2.2.2.2.2.2.2]; exact qc.2.2.2.1
    · have e : O = 0 := by clear hv; omega
      subst e
      refine Or.inr (Or.inr (Or.inr ⟨a2, ?_, ?_, fun e he hne => by rw [upd_ne (by omega)]⟩))
      · rw [qc.2.2.2.2.1]; exact a3
      · rw [← a3]; exact qc.1
  obtain ⟨k', cj', hD'⟩ := hD.push hn g2 (fun i hi => by
    simp only [List.mem_cons, List.not_mem_nil, or_false] at hi
    exact SI_ne (by omega)) k2 (m' := llSI mk 77 (O + c) v) (by rw [SI_ne (by decide)]) (by rw [SI_ne (by decide)]) (fun _ _ => rfl) hDee
  refine ⟨x', mk, g1, k1, k2.1 77 (by decide) (by decide), ⟨A, mc, ml, k', cj', h.sea (fun i hi => xx i (by omega) (by omega)) (by rw [xx 14 (by omega) (by decide)]) (fun i _ => by rw [x2]) (fun i h1 h2 h3 _ _ => mi i (by omega) h2 h3) (fun j hj => m9 j (by simp only [List.mem_cons, List.not_mem_nil, or_false] at hj; omega)) (fun i _ => by rw [SI_2, k2.2.1]) hS hD' (h.2.2.2.2.2.1.of (by rw [xx 1 (by omega) (by decide)]) (xx 2 (by omega) (by decide)) (m9 16 (by decide)) (mi 79 (by decide) (by decide) (by decide))) ?_ ?_⟩, fun i hi => ⟨xx i (by omega) (by omega), by rw [x2]⟩, fun i hi => ⟨mi i (by omega) (by omega) (by omega), by rw [SI_2, k2.2.1]⟩⟩
  · have := h.2.2.2.2.2.2.1
    unfold IFa at this ⊢
    rw [xx 1 (by omega) (by decide), m9 17 (by decide), m9 18 (by decide)]; exact this
  · have hr := h.2.2.2.2.2.2.2.2
    intro c' hc' he
    by_cases e : X = 18
    · by_cases e2 : c' = c
      · rw [e2]; exact (hv.2.1 e).2
      · refine hr c' hc' ?_
        rw [← e] at he ⊢
        rw [xX, upd_ne e2] at he; exact he
    · rw [xx 18 (fun q => e q.symm) (by decide)] at he
      exact hr c' hc' he
theorem resign_S (a : Int32) : Step (fun u => fx_X11_resign_0 u a) (fun u => fx_X12_resign_69 u a) := by
  rintro x m ⟨A, mc, ml, k, cj, h⟩
  have hp := h.1
  have hn := hp.ncB
  dsimp only
  unfold fx_X11_resign_0 fx_X12_resign_69
  rcases plays_B hp a with ⟨c, l, d, hc, rfl, hst, hl, hd, p1, p2⟩ | ⟨p1, p2⟩
  · have q := h.2.1.1 c hc
    rw [p1, p2, Option.bind_some, Option.bind_some, if_neg one_ne, if_neg one_ne, show (30 : Int32) + nI c = nI (30 + c) from nI_add 30 c]
    simp only [gI_nI (show c < 30 by omega) (show 30 < 2 ^ 31 by decide), gI_nI (show c < 60 by omega) (show 60 < 2 ^ 31 by decide), gI_nI (show 30 + c < 1020 by omega) (show 1020 < 2 ^ 31 by decide), rI_n (show c < 2 ^ 31 by omega), rI_n (show 30 + c < 2 ^ 31 by omega), nI_clamp (show c < 2 ^ 31 by omega), nI_clamp (show 30 + c < 2 ^ 31 by omega), lt_eq, gB_0, gB_1]
    rw [q.2.2.2.2.2.1]
    rcases q.2.1 with e | e
    · obtain ⟨x', mk, e1, e2, e3, e4, e5, e6⟩ := deed_step h hc (X := 18) (O := 30) (v := 1) (kd := 1) (val := 0) (by omega) ⟨by omega, fun _ => ⟨rfl, by rw [hst]; rfl⟩, by omega, by omega⟩ (Or.inl ⟨rfl, rfl, e⟩)
      rw [if_pos e, if_pos (show ¬ x.1 18 c = 1 by rw [e]; decide), e1, bd_mk, e2, bd_mk]
      exact ⟨x', _, 1, rfl, rfl, e4, e5, e6⟩
    · rw [if_neg (show ¬ x.1 18 c = 0 by rw [e]; decide), if_neg (show ¬ ¬ x.1 18 c = 1 from fun w => w e)]
      exact ⟨x, m, 0, rfl, rfl, ⟨A, mc, ml, k, cj, h⟩, OX.refl x, OM.refl m⟩
  · rw [p1, p2]
    exact ⟨x, m, 0, rfl, rfl, ⟨A, mc, ml, k, cj, h⟩, OX.refl x, OM.refl m⟩
theorem refuse_S (a : Int32) : Step (fun u => fx_X11_refuse_0 u a) (fun u => fx_X12_refuse_69 u a) := by
  rintro x m ⟨A, mc, ml, k, cj, h⟩
  have hp := h.1
  have hn := hp.ncB
  dsimp only
  unfold fx_X11_refuse_0 fx_X12_refuse_69
  rcases plays_B hp a with ⟨c, l, d, hc, rfl, hst, hl, hd, p1, p2⟩ | ⟨p1, p2⟩
  · have q := h.2.1.1 c hc
    rw [p1, p2, Option.bind_some, Option.bind_some, if_neg one_ne, if_neg one_ne, show (60 : Int32) + nI c = nI (60 + c) from nI_add 60 c]
    simp only [gI_nI (show c < 30 by omega) (show 30 < 2 ^ 31 by decide), gI_nI (show c < 60 by omega) (show 60 < 2 ^ 31 by decide), gI_nI (show 60 + c < 1020 by omega) (show 1020 < 2 ^ 31 by decide), rI_n (show c < 2 ^ 31 by omega), rI_n (show 60 + c < 2 ^ 31 by omega), nI_clamp (show c < 2 ^ 31 by omega), nI_clamp (show 60 + c < 2 ^ 31 by omega), lt_eq, gB_0, gB_1]
    rw [q.2.2.2.2.2.2.1]
    rcases q.2.2.1 with e | e
    · obtain ⟨x', mk, e1, e2, e3, e4, e5, e6⟩ := deed_step h hc (X := 19) (O := 60) (v := 1) (kd := 2) (val := 0) (by omega) ⟨by omega, by omega, fun _ => rfl, by omega⟩ (Or.inr (Or.inl ⟨rfl, rfl, e⟩))
      rw [if_pos e, if_pos (show ¬ x.1 19 c = 1 by rw [e]; decide), e1, bd_mk, e2, bd_mk]
      exact ⟨x', _, 1, rfl, rfl, e4, e5, e6⟩
    · rw [if_neg (show ¬ x.1 19 c = 0 by rw [e]; decide), if_neg (show ¬ ¬ x.1 19 c = 1 from fun w => w e)]
      exact ⟨x, m, 0, rfl, rfl, ⟨A, mc, ml, k, cj, h⟩, OX.refl x, OM.refl m⟩
  · rw [p1, p2]
    exact ⟨x, m, 0, rfl, rfl, ⟨A, mc, ml, k, cj, h⟩, OX.refl x, OM.refl m⟩
/-- an argument between two written numbers -/
theorem isIn_b (u : llMem) (b : Int32) (l h : Int32) : fx_X12_isIn u (Int32.toInt64 b) (Int32.toInt64 l) (Int32.toInt64 h) = some (if l ≤ b ∧ b ≤ h then 1 else 0) := by
  rw [isIn_eq]
  by_cases e : l ≤ b ∧ b ≤ h
  · rw [if_pos e, if_pos ⟨i64_le.mpr e.1, i64_le.mpr e.2⟩]
  · rw [if_neg e, if_neg (fun q => e ⟨i64_le.mp q.1, i64_le.mp q.2⟩)]
theorem i32_add_sub (a b : Int32) : a = a + b - b := by grind
theorem deduct_S (a b : Int32) : Step (fun u => fx_X11_deduct_0 u a b) (fun u => fx_X12_deduct_69 u a b) := by
  rintro x m ⟨A, mc, ml, k, cj, h⟩
  have hp := h.1
  have hn := hp.ncB
  have ii : fx_X12_isIn m (Int32.toInt64 b) 1 99 = some (if 1 ≤ b ∧ b ≤ 99 then 1 else 0) := isIn_b m b 1 99
  dsimp only
  unfold fx_X11_deduct_0 fx_X12_deduct_69
  rcases plays_B hp a with ⟨c, l, d, hc, rfl, hst, hl, hd, p1, p2⟩ | ⟨p1, p2⟩
  · have q := h.2.1.1 c hc
    rw [p1, p2, Option.bind_some, Option.bind_some, if_neg one_ne, if_neg one_ne, show (90 : Int32) + nI c = nI (90 + c) from nI_add 90 c, ii, Option.bind_some]
    simp only [gI_nI (show c < 30 by omega) (show 30 < 2 ^ 31 by decide), gI_nI (show c < 60 by omega) (show 60 < 2 ^ 31 by decide), gI_nI (show 90 + c < 1020 by omega) (show 1020 < 2 ^ 31 by decide), rI_n (show c < 2 ^ 31 by omega), rI_n (show 90 + c < 2 ^ 31 by omega), nI_clamp (show c < 2 ^ 31 by omega), nI_clamp (show 90 + c < 2 ^ 31 by omega), lt_eq, gB_0, gB_1]
    rw [q.2.2.2.2.2.2.2]
    by_cases e1 : b < 1
    · rw [if_pos e1, if_neg (show ¬ (1 ≤ b ∧ b ≤ 99) from fun w => Int32.not_lt.mpr w.1 e1), if_pos rfl]
      exact ⟨x, m, 0, rfl, rfl, ⟨A, mc, ml, k, cj, h⟩, OX.refl x, OM.refl m⟩
    · rw [if_neg e1]
      by_cases e2 : 99 < b
      · rw [if_pos e2, if_neg (show ¬ (1 ≤ b ∧ b ≤ 99) from fun w => Int32.not_lt.mpr w.2 e2), if_pos rfl]
        exact ⟨x, m, 0, rfl, rfl, ⟨A, mc, ml, k, cj, h⟩, OX.refl x, OM.refl m⟩
      · rw [if_neg e2, if_pos (show 1 ≤ b ∧ b ≤ 99 from ⟨Int32.not_lt.mp e1, Int32.not_lt.mp e2⟩), if_neg one_ne]
        by_cases e3 : x.1 20 c + b ≤ 999
        · obtain ⟨g, hg, eg⟩ := q.2.2.2.1
          have b1 := Int32.le_iff_toInt_le.mp (Int32.not_lt.mp e1)
          have b2 := Int32.le_iff_toInt_le.mp (Int32.not_lt.mp e2)
          rw [show (1 : Int32).toInt = 1 from rfl] at b1
          rw [show (99 : Int32).toInt = 99 from rfl] at b2
          have eb : b = nI b.toInt.toNat := toInt32_of (by omega)
          have ev : x.1 20 c + b = nI (g + b.toInt.toNat) := by rw [eg, eb, nI_add, ← eb]
          have bd9 : g + b.toInt.toNat ≤ 999 := by
            rw [ev] at e3
            exact (nI_leI (by omega) (by decide)).mp e3
          obtain ⟨x', mk, f1, f2, f3, f4, f5, f6⟩ := deed_step h hc (X := 20) (O := 90) (v := x.1 20 c + b) (kd := 3) (val := b) (by omega) ⟨by omega, by omega, by omega, fun _ => ⟨_, bd9, ev⟩⟩ (Or.inr (Or.inr (Or.inl ⟨rfl, rfl, i32_add_sub _ _⟩)))
          rw [if_pos e3, f1, bd_mk, if_pos e3, f2, bd_mk, f3, q.2.2.2.2.2.2.2]
          exact ⟨x', _, 1, rfl, rfl, f4, f5, f6⟩
        · rw [if_neg e3, if_neg e3]
          exact ⟨x, m, 0, rfl, rfl, ⟨A, mc, ml, k, cj, h⟩, OX.refl x, OM.refl m⟩
  · rw [p1, p2]
    exact ⟨x, m, 0, rfl, rfl, ⟨A, mc, ml, k, cj, h⟩, OX.refl x, OM.refl m⟩
theorem grade_S (a b : Int32) : Step (fun u => fx_X11_grade_0 u a b) (fun u => fx_X12_grade_69 u a b) := by
  rintro x m ⟨A, mc, ml, k, cj, h⟩
  have hp := h.1
  have hn := hp.ncB
  have ii : fx_X12_isIn m (Int32.toInt64 b) 0 9 = some (if 0 ≤ b ∧ b ≤ 9 then 1 else 0) := isIn_b m b 0 9
  dsimp only
  unfold fx_X11_grade_0 fx_X12_grade_69
  rcases isClub_B hp a with ⟨c, hc, rfl, p1, p2⟩ | ⟨p1, p2⟩
  · have q := h.2.1.1 c hc
    have qc := hp.cl hc
    rw [p1, p2, Option.bind_some, Option.bind_some, if_neg one_ne, if_neg one_ne, show (0 : Int32) + nI c = nI c from (nI_add 0 c).trans (by rw [Nat.zero_add]), ii, Option.bind_some]
    simp only [gI_nI (show c < 30 by omega) (show 30 < 2 ^ 31 by decide), gI_nI (show c < 60 by omega) (show 60 < 2 ^ 31 by decide), gI_nI (show c < 1020 by omega) (show 1020 < 2 ^ 31 by decide), rI_n (show c < 2 ^ 31 by omega), nI_clamp (show c < 2 ^ 31 by omega), lt_eq, gB_0, gB_1]
    rw [qc.x12, qc.m74, q.2.2.2.2.1]
    by_cases e0 : lvI A c = -2
    · rw [if_neg (show ¬ ¬ lvI A c = -2 from fun w => w e0), if_pos e0]
      exact ⟨x, m, 0, rfl, rfl, ⟨A, mc, ml, k, cj, h⟩, OX.refl x, OM.refl m⟩
    · rw [if_pos e0, if_neg e0]
      by_cases e1 : b < 0
      · rw [if_pos e1, if_neg (show ¬ (0 ≤ b ∧ b ≤ 9) from fun w => Int32.not_lt.mpr w.1 e1), if_pos rfl]
        exact ⟨x, m, 0, rfl, rfl, ⟨A, mc, ml, k, cj, h⟩, OX.refl x, OM.refl m⟩
      · rw [if_neg e1]
        by_cases e2 : 9 < b
        · rw [if_pos e2, if_neg (show ¬ (0 ≤ b ∧ b ≤ 9) from fun w => Int32.not_lt.mpr w.2 e2), if_pos rfl]
          exact ⟨x, m, 0, rfl, rfl, ⟨A, mc, ml, k, cj, h⟩, OX.refl x, OM.refl m⟩
        · rw [if_neg e2, if_pos (show 0 ≤ b ∧ b ≤ 9 from ⟨Int32.not_lt.mp e1, Int32.not_lt.mp e2⟩), if_neg one_ne]
          by_cases e3 : b = x.1 11 c
          · rw [if_neg (show ¬ ¬ b = x.1 11 c from fun w => w e3), if_neg (show ¬ ¬ x.1 11 c = b from fun w => w e3.symm)]
            exact ⟨x, m, 0, rfl, rfl, ⟨A, mc, ml, k, cj, h⟩, OX.refl x, OM.refl m⟩
          · have b2 := Int32.le_iff_toInt_le.mp (Int32.not_lt.mp e2)
            rw [show (9 : Int32).toInt = 9 from rfl] at b2
            obtain ⟨eb, _⟩ := not_neg_of e1
            obtain ⟨x', mk, f1, f2, f3, f4, f5, f6⟩ := deed_step h hc (X := 11) (O := 0) (v := b) (kd := 4) (val := x.1 11 c) (by omega) ⟨fun _ => ⟨b.toInt.toNat, by omega, eb⟩, by omega, by omega, by omega⟩ (Or.inr (Or.inr (Or.inr ⟨rfl, rfl, rfl⟩)))
            rw [if_pos e3, f1, bd_mk, if_pos (show ¬ x.1 11 c = b from fun w => e3 w.symm), f2, bd_mk]
            rw [Nat.zero_add] at f4 f6
            exact ⟨x', _, 1, rfl, rfl, f4, f5, f6⟩
  · rw [p1, p2]
    exact ⟨x, m, 0, rfl, rfl, ⟨A, mc, ml, k, cj, h⟩, OX.refl x, OM.refl m⟩
