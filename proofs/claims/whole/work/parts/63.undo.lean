/-! feed, end, named, undo -/
theorem InvA.tp {A : Ab} {x m x' m' : llMem} {mc : Nat} {ml : Nat → Nat × Nat} {k : Nat} {cj : Nat → Nat} (h : InvA A x m mc ml k cj) (xx : ∀ i, 3 ≤ i → x'.1 i = x.1 i) (x2 : ∀ i, i ≠ 1 → x'.2.1 i = x.2.1 i) (mm : ∀ i, 69 < i → i ≠ 79 → m'.1 i = m.1 i) (m69 : ∀ j, j ∈ [1, 9, 11, 14, 53] → m'.1 69 j = m.1 69 j) (m2 : ∀ i, i ≠ 69 → m'.2.1 i = m.2.1 i) (ht : ITp x' m') (hf : IFa x' m') : InvA A x' m' mc ml k cj := by
  refine h.sea (fun i hi => xx i (by omega)) (by rw [xx 14 (by decide)]) x2 (fun i h1 _ _ h2 _ => mm i h1 h2) (fun j hj => m69 j (by simp only [List.mem_cons, List.not_mem_nil, or_false] at hj ⊢; omega)) m2 (h.2.1.of (fun c hc => ?_) (by rw [xx 14 (by decide)]) (mm 77 (by decide) (by decide))) (h.2.2.1.of (fun c hc => ?_) (by rw [xx 26 (by decide)]) (mm 77 (by decide) (by decide)) (mm 78 (by decide) (by decide)) (m69 14 (by simp))) ht hf ?_
  · simp only [List.mem_cons, List.not_mem_nil, or_false] at hc
    exact xx c (by omega)
  · simp only [List.mem_cons, List.not_mem_nil, or_false] at hc
    exact xx c (by omega)
  · have := h.2.2.2.2.2.2.2.2
    unfold IRe at this ⊢
    rw [xx 18 (by decide)]; exact this
theorem feed_S (a0 a1 a2 a3 a4 : Int32) : Step (fun u => fx_X11_feed_0 u a0 a1 a2 a3 a4) (fun u => fx_X12_feed_69 u a0 a1 a2 a3 a4) := by
  rintro x m ⟨A, mc, ml, k, cj, h⟩
  obtain ⟨bb, n, hT, hTM⟩ := h.2.2.2.2.2.1
  obtain ⟨t1, t2, t3⟩ := hT
  obtain ⟨s1, s2, s3⟩ := hTM
  dsimp only
  by_cases e : n ≤ 680
  · obtain ⟨x', e1, f1, f2, f3, f4⟩ := feed_x x n a0 a1 a2 a3 a4 e t2
    obtain ⟨m', g1, g2, g3, g4, g5⟩ := feed_m m n a0 a1 a2 a3 a4 e s2
    refine ⟨x', m', _, e1, g1, ⟨A, mc, ml, k, cj, h.tp (fun i hi => (f1 i (by simp; omega)).1) (fun i _ => by rw [f2]) (fun i h1 h2 => (g2 i (by simp; omega)).1) (fun j hj => ?_) (fun i _ => by rw [g3]) ?_ ?_⟩, fun i hi => ⟨(f1 i (by simp; omega)).1, by rw [f2]⟩, fun i hi => ⟨(g2 i (by simp; omega)).1, by rw [g3]⟩⟩
    · simp only [List.mem_cons, List.not_mem_nil, or_false] at hj
      rw [g4, upd_ne (by omega)]
    · have hb : ∀ v i, ((bt v i).toNatClampNeg < 256 ∧ bt v i = nI (bt v i).toNatClampNeg) := fun v i => by
        obtain ⟨b, b1, b2⟩ := bt_lt v i
        rw [b2, nI_clamp (by omega)]; exact ⟨b1, rfl⟩
      refine ⟨fun j => if n ≤ j ∧ j < n + 4 * 5 then (bt (v5 a0 a1 a2 a3 a4 ((j - n) / 4)) ((j - n) % 4)).toNatClampNeg else bb j, n + 4 * 5, ⟨by omega, by rw [f3, upd_same], fun j hj => ?_⟩, ⟨by omega, by rw [g4, upd_same], fun j hj => ?_⟩⟩
      · rw [f4 j]
        dsimp only
        by_cases q : n ≤ j ∧ j < n + 4 * 5
        · rw [if_pos q, if_pos q]
          exact ⟨(hb _ _).2, (hb _ _).1⟩
        · rw [if_neg q, if_neg q]
          exact t3 j (by omega)
      · rw [g5 j]
        dsimp only
        by_cases q : n ≤ j ∧ j < n + 4 * 5
        · rw [if_pos q, if_pos q]
          exact ⟨(hb _ _).2, (hb _ _).1⟩
        · rw [if_neg q, if_neg q]
          exact s3 j (by omega)
    · have := h.2.2.2.2.2.2.1
      unfold IFa at this ⊢
      rw [f3, g4, upd_ne (by decide), upd_ne (by decide), upd_ne (by decide), upd_ne (by decide)]
      exact this
  · refine ⟨x, m, -1, ?_, ?_, ⟨A, mc, ml, k, cj, h⟩, OX.refl x, OM.refl m⟩
    · unfold fx_X11_feed_0
      rw [t2, if_neg (nleL 680 (by omega) (by decide) (by omega))]
    · unfold fx_X12_feed_69
      rw [s2, show nI n + 20 = nI (n + 20) from nI_add n 20, if_neg (nleL 700 (by omega) (by decide) (by omega))]
theorem end_S (a : Int32) : Step (fun u => fx_X11_end_0 u a) (fun u => fx_X12_end_69 u a) := by
  rintro x m ⟨A, mc, ml, k, cj, h⟩
  obtain ⟨bb, n, hT, hTM⟩ := h.2.2.2.2.2.1
  obtain ⟨t1, t2, t3⟩ := hT
  obtain ⟨s1, s2, s3⟩ := hTM
  have ii : fx_X12_isIn m (Int32.toInt64 a) 0 (Int32.toInt64 (nI n)) = some (if 0 ≤ a ∧ a ≤ nI n then 1 else 0) := isIn_b m a 0 (nI n)
  dsimp only
  unfold fx_X11_end_0 fx_X12_end_69
  rw [t2, s2, ii, Option.bind_some, gB_0, gB_0]
  by_cases e1 : a < 0
  · rw [if_pos e1, if_neg (show ¬ (0 ≤ a ∧ a ≤ nI n) from fun w => Int32.not_lt.mpr w.1 e1), if_neg (show ¬ ¬ (0 : Int32) = 0 from fun w => w rfl)]
    exact ⟨x, m, 0, rfl, rfl, ⟨A, mc, ml, k, cj, h⟩, OX.refl x, OM.refl m⟩
  · rw [if_neg e1]
    by_cases e2 : a ≤ nI n
    · rw [if_pos e2, if_pos (show 0 ≤ a ∧ a ≤ nI n from ⟨Int32.not_lt.mp e1, e2⟩), if_pos one_ne]
      simp only [lt_eq, gB_1]
      obtain ⟨ea, hlt⟩ := not_neg_of e1
      generalize a.toInt.toNat = j at ea hlt
      subst ea
      have hj : j ≤ n := (nI_leI hlt (by omega)).mp e2
      refine ⟨_, _, 1, rfl, rfl, ⟨A, mc, ml, k, cj, h.tp (fun i hi => SI_ne (by omega)) (fun _ _ => rfl) (fun i h1 h2 => SI_ne (by omega)) (fun j hj => ?_) (fun _ _ => rfl) ⟨bb, j, ⟨by omega, by rw [SI_same, upd_same], fun k hk => by rw [SI_ne (by decide)]; exact t3 k (by omega)⟩, ⟨by omega, by rw [SI_same, upd_same], fun k hk => by rw [SI_ne (by decide)]; exact s3 k (by omega)⟩⟩ ?_⟩, (OX.refl x).SI (by decide), (OM.refl m).SI (by decide)⟩
      · simp only [List.mem_cons, List.not_mem_nil, or_false] at hj
        exact SI_at (by omega)
      · have := h.2.2.2.2.2.2.1
        unfold IFa at this ⊢
        rw [SI_at (by decide), SI_at (by decide), SI_at (by decide), SI_at (by decide)]; exact this
    · rw [if_neg e2, if_neg (show ¬ (0 ≤ a ∧ a ≤ nI n) from fun w => e2 w.2), if_neg (show ¬ ¬ (0 : Int32) = 0 from fun w => w rfl)]
      exact ⟨x, m, 0, rfl, rfl, ⟨A, mc, ml, k, cj, h⟩, OX.refl x, OM.refl m⟩
/-- who has a name -/
theorem who_x {A : Ab} {x m x' : llMem} (h : IPyr A x m) (h35 : x'.1 3 5 = x.1 3 5) (h8 : x'.2.1 8 = x.2.1 8) {w : List Nat} (hw : okW w) : fx_X5_find_3 x' (lN (p8 w)) = some (ixO (fst1 (fun k => decide (A.ws k = w)) A.nc) A.nc) := by
  rw [find_3 (by rw [h35]; exact h.x35) h.ncB]
  rw [fst1_congr (Q := fun k => decide (A.ws k = w)) (fun k hk => by
    have q := h.cl hk
    rw [h8, q.2.2.2.2.2.2.2.1]
    exact decide_eq_decide.mpr (lN8 q.2.2.2.2.2.2.1.1 hw))]
theorem who_m {A : Ab} {x m m' : llMem} (h : IPyr A x m) (h71 : m'.2.1 71 = m.2.1 71) {w : List Nat} (hw : okW w) : fx_X12_placeOf_69 m' (lN (p5 w)) 0 (nI A.nc) = some (ixO (fst1 (fun k => decide (A.ws k = w)) A.nc) A.nc) := by
  rw [show (0 : Int32) = nI 0 from rfl, placeOf_m h.ncB (by decide)]
  rw [fst1_congr (Q := fun k => decide (A.ws k = w)) (fun k hk => by
    have q := h.cl hk
    rw [Nat.zero_add, h71, q.2.2.2.2.2.2.2.2.1]
    exact decide_eq_decide.mpr (lN5 q.2.2.2.2.2.2.1.1 hw))]
theorem who_kw {A : Ab} {x m : llMem} (h : IPyr A x m) {w : List Nat} (hw : w ∈ kws) : ixO (fst1 (fun k => decide (A.ws k = w)) A.nc) A.nc = -1 := by
  have hn := h.ncB
  obtain ⟨f1, f2, f3⟩ := fst1_spec (fun k => decide (A.ws k = w)) A.nc
  rw [ixO_m1 (by omega)]
  intro q
  have e := of_decide_eq_true (f3 q)
  have := (h.cl q).2.2.2.2.2.2.1.2
  rw [e] at this
  exact this hw
theorem named_S : Step fx_X11_named_0 fx_X12_named_69 := by
  rintro x m ⟨A, mc, ml, k, cj, h⟩
  have hp := h.1
  obtain ⟨bb, n, hT, hTM⟩ := h.2.2.2.2.2.1
  -- the class
  have X1 : TX (llSI x 1 9 0) bb n := hT.of (SmF.SI (ks := [9]) (by simp)) (by decide)
  obtain ⟨u2, a1, a2, a3⟩ := next_x (llSI x 1 9 0) bb n 0 X1 (by omega) (by rw [SI_same, upd_same]; rfl)
  have T2 := X1.of a2 (by decide)
  have D0 := tokD hT (show 0 ≤ n by omega)
  obtain ⟨u4, b1, b2, b3⟩ := next_x u2 bb n (tok bb n 0).2.1 T2 D0.2.2.1 a3.2.1
  -- the reference
  have M1 : TM (llSI (llSI (llSI m 69 23 0) 69 19 0) 69 20 (-1)) bb n := hTM.of (((SmF.SI (ks := [23, 19, 20]) (by simp)).trans (SmF.SI (by simp))).trans (SmF.SI (by simp))) (by decide)
  obtain ⟨m1, c1, c2, c3⟩ := next_m (llSI (llSI (llSI m 69 23 0) 69 19 0) 69 20 (-1)) bb n 0 M1 (by omega) (by rw [SI_at (by decide), SI_at (by decide), SI_same, upd_same]; rfl)
  have N1 := M1.of c2 (by decide)
  obtain ⟨m2, d1, d2, d3⟩ := next_m m1 bb n (tok bb n 0).2.1 N1 D0.2.2.1 c3.2.1
  have mc1 : ∀ i, i ≠ 69 → m1.1 i = m.1 i ∧ m1.2.1 i = m.2.1 i := fun i hi => ⟨by rw [(c2.1 i hi).1, SI_ne hi, SI_ne hi, SI_ne hi], (c2.1 i hi).2.1⟩
  have mf1 : ∀ j, j ∉ [19, 20, 21, 22, 23, 25, 26] → m1.1 69 j = m.1 69 j := fun j hj => by
    simp only [List.mem_cons, List.not_mem_nil, or_false] at hj
    rw [c2.2 j (by simp; omega), SI_at (by omega), SI_at (by omega), SI_at (by omega)]
  have xc4 : ∀ i, i ≠ 1 → u4.1 i = x.1 i ∧ u4.2.1 i = x.2.1 i := fun i hi => ⟨by rw [(b2.1 i hi).1, (a2.1 i hi).1, SI_ne hi], by rw [(b2.1 i hi).2.1, (a2.1 i hi).2.1]; rfl⟩
  have xf4 : ∀ j, j ∉ [2, 3, 4, 5, 9] → u4.1 1 j = x.1 1 j := fun j hj => by
    simp only [List.mem_cons, List.not_mem_nil, or_false] at hj
    rw [b2.2 j (by simp; omega), a2.2 j (by simp; omega), SI_at (by omega)]
  have mc2 : ∀ i, i ≠ 69 → m2.1 i = m.1 i ∧ m2.2.1 i = m.2.1 i := fun i hi => ⟨by rw [(d2.1 i hi).1, (mc1 i hi).1], by rw [(d2.1 i hi).2.1, (mc1 i hi).2]⟩
  have mf2 : ∀ j, j ∉ [19, 20, 21, 22, 23, 25, 26] → m2.1 69 j = m.1 69 j := fun j hj => by
    rw [d2.2 j (by simp only [List.mem_cons, List.not_mem_nil, or_false] at hj ⊢; omega), mf1 j hj]
  have hI : Inv (llSI u4 1 1 0) (llSI m2 69 16 0) := by
    refine ⟨A, mc, ml, k, cj, h.tp (fun i hi => by rw [SI_ne (by omega)]; exact (xc4 i (by omega)).1) (fun i hi => (xc4 i hi).2) (fun i h1 h2 => by rw [SI_ne (by omega)]; exact (mc2 i (by omega)).1) (fun j hj => ?_) (fun i hi => (mc2 i hi).2) ⟨fun _ => 0, 0, TXz (by rw [SI_same, upd_same]), TMz (by rw [SI_same, upd_same])⟩ ?_⟩
    · simp only [List.mem_cons, List.not_mem_nil, or_false] at hj
      rw [SI_at (by omega), mf2 j (by simp only [List.mem_cons, List.not_mem_nil, or_false]; omega)]
    · have := h.2.2.2.2.2.2.1
      unfold IFa at this ⊢
      rw [SI_at (by decide), SI_at (by decide), SI_at (by decide), SI_at (by decide), mf2 17 (by decide), mf2 18 (by decide), xf4 7 (by decide), xf4 8 (by decide)]
      exact this
  have hO : OX x (llSI u4 1 1 0) := fun i hi => ⟨by rw [SI_ne (by omega)]; exact (xc4 i (by omega)).1, (xc4 i (by omega)).2⟩
  have hO2 : OM m (llSI m2 69 16 0) := fun i hi => ⟨by rw [SI_ne (by omega)]; exact (mc2 i (by omega)).1, (mc2 i (by omega)).2⟩
  -- both answers
  have hX : ∀ (r : Int32), (∀ w, (tok bb n 0).2.2 = some (.inl w) → w.length ≤ 7 → (tok bb n (tok bb n 0).2.1).2.2 = none → r = ixO (fst1 (fun k => decide (A.ws k = w)) A.nc) A.nc) → ((¬ ∃ w, (tok bb n 0).2.2 = some (.inl w) ∧ w.length ≤ 7) ∨ ¬ (tok bb n (tok bb n 0).2.1).2.2 = none → r = -1) → fx_X11_named_0 x = some (llSI u4 1 1 0, r) := by
    intro r hr1 hr2
    unfold fx_X11_named_0 fx_X9_rewind_1
    simp only [lt_eq, bd_mk]
    rw [a1, bd_mk]
    have kd := b3.kind
    unfold fx_X11_named_0_j30 fx_X11_named_0_j64 fx_X11_named_0_j65
    simp only [lt_eq, b1, bd_mk, if_true]
    have one : ((∃ w, (tok bb n 0).2.2 = some (.inl w) ∧ w.length ≤ 7) ∧ u2.1 1 2 = 1) ∨ ((¬ ∃ w, (tok bb n 0).2.2 = some (.inl w) ∧ w.length ≤ 7) ∧ ¬ u2.1 1 2 = 1) := by
      have q := a3.2.2
      revert q
      cases e : (tok bb n 0).2.2 with
      | none => intro q; exact Or.inr ⟨by (rintro ⟨w, w1, _⟩; cases w1), by (rw [q]; decide)⟩
      | some y =>
        cases y with
        | inl w =>
          intro q
          dsimp only at q
          by_cases g : w.length ≤ 7
          · rw [if_pos g] at q
            exact Or.inl ⟨⟨w, rfl, g⟩, q.1⟩
          · rw [if_neg g] at q
            refine Or.inr ⟨?_, by rw [q]; decide⟩
            rintro ⟨w', w1, w2⟩
            simp only [Option.some.injEq, Sum.inl.injEq] at w1
            rw [w1] at g; exact g w2
        | inr y =>
          cases y with
          | inl v =>
            intro q
            dsimp only at q
            refine Or.inr ⟨by rintro ⟨w', w1, w2⟩; simp at w1, ?_⟩
            by_cases g : (tok bb n 0).2.1 - (tok bb n 0).1 ≤ 3
            · rw [if_pos g] at q; rw [q.1]; decide
            · rw [if_neg g] at q; rw [q]; decide
          | inr v =>
            intro q
            exact Or.inr ⟨by rintro ⟨w', w1, w2⟩; simp at w1, by rw [q.1]; decide⟩
    rcases one with ⟨⟨w, w1, w2⟩, q⟩ | ⟨w0, q⟩
    · rw [if_neg (fun z => z q), if_neg one_ne]
      by_cases e : (tok bb n (tok bb n 0).2.1).2.2 = none
      · rw [if_neg (fun z => z (kd.mpr e)), if_neg one_ne, a3.word w1 w2, who_x (x' := llSI u4 1 1 0) hp (by rw [SI_ne (by decide), (xc4 3 (by decide)).1]) (xc4 8 (by decide)).2 (tok_okW D0.1 w1 w2), Option.bind_some, hr1 w w1 w2 e]
      · rw [if_pos (fun z => e (kd.mp z)), hr2 (Or.inr e)]
    · rw [if_pos q, hr2 (Or.inl w0)]
  have hM : ∀ (r : Int32), (∀ w, (tok bb n 0).2.2 = some (.inl w) → w.length ≤ 7 → w ∉ kws → (tok bb n (tok bb n 0).2.1).2.2 = none → r = ixO (fst1 (fun k => decide (A.ws k = w)) A.nc) A.nc) → (¬ isNm (tok bb n 0) ∨ ¬ (tok bb n (tok bb n 0).2.1).2.2 = none → r = -1) → fx_X12_named_69 m = some (llSI m2 69 16 0, r) := by
    intro r hr1 hr2
    unfold fx_X12_named_69 fx_X12_begins_69
    simp only [lt_eq]
    rw [c1, bd_mk, bd_mk]
    have kd := d3.sort.2.2
    obtain ⟨nm1, nm2⟩ := isName_m c3 D0.1
    unfold fx_X12_named_69_j28 fx_X12_named_69_j45
    simp only [lt_eq, d1, bd_mk, if_true]
    rcases isNm_dec (tok bb n 0) with hN | hN
    · obtain ⟨w, w1, w2, w3⟩ := id hN
      rw [nm1 hN, Option.bind_some, if_neg one_ne, c3.word w1 w2, mf1 9 (by decide), hp.m9, who_m hp (mc1 71 (by decide)).2 (tok_okW D0.1 w1 w2), Option.bind_some]
      by_cases e : (tok bb n (tok bb n 0).2.1).2.2 = none
      · rw [if_neg (fun z => z (kd.mpr e)), if_neg one_ne, hr1 w w1 w2 w3 e]
      · rw [if_pos (fun z => e (kd.mp z)), hr2 (Or.inr e)]
    · rw [nm2 hN, Option.bind_some, if_pos rfl]
      rw [hr2 (Or.inl hN)]
      by_cases e : (tok bb n (tok bb n 0).2.1).2.2 = none
      · rw [if_neg (fun z => z (kd.mpr e)), if_neg one_ne]
      · rw [if_pos (fun z => e (kd.mp z))]
  by_cases e : (tok bb n (tok bb n 0).2.1).2.2 = none
  · rcases isNm_dec (tok bb n 0) with hN | hN
    · obtain ⟨w, w1, w2, w3⟩ := id hN
      have uq : ∀ w', (tok bb n 0).2.2 = some (.inl w') → w' = w := fun w' q => by rw [w1] at q; simpa using q.symm
      refine ⟨_, _, ixO (fst1 (fun k => decide (A.ws k = w)) A.nc) A.nc, hX _ (fun w' q _ _ => by rw [uq w' q]) ?_, hM _ (fun w' q _ _ _ => by rw [uq w' q]) ?_, hI, hO, hO2⟩
      · rintro (q | q)
        · exact absurd ⟨w, w1, w2⟩ q
        · exact absurd e q
      · rintro (q | q)
        · exact absurd hN q
        · exact absurd e q
    · refine ⟨_, _, -1, hX _ (fun w q g _ => ?_) (fun _ => rfl), hM _ (fun w q g1 g2 _ => absurd ⟨w, q, g1, g2⟩ hN) (fun _ => rfl), hI, hO, hO2⟩
      have : w ∈ kws := Classical.byContradiction (fun z => hN ⟨w, q, g, z⟩)
      exact (who_kw hp this).symm
  · exact ⟨_, _, -1, hX _ (fun w _ _ q => absurd q e) (fun _ => rfl), hM _ (fun w _ _ _ q => absurd q e) (fun _ => rfl), hI, hO, hO2⟩
/-! undo -/
theorem undoL_m (m : llMem) {q : Nat} (hq : q < 8) (h : m.1 69 14 = nI q) : ∃ e, loop fx_X12_undo_69_l21 llFuel (m, 0) = some e ∧ ((∀ c, c ≠ 77 → e.1 c = m.1 c) ∧ e.2 = m.2 ∧ ∀ j, j < 1020 → e.1 77 j = m.1 78 (1020 * q + j)) := by
  refine loop_inv (fun i s => s.2 = nI i ∧ (∀ c, c ≠ 77 → s.1.1 c = m.1 c) ∧ s.1.2 = m.2 ∧ ∀ j, j < i → s.1.1 77 j = m.1 78 (1020 * q + j)) _ 1020 llFuel (m, 0) ⟨rfl, fun _ _ => rfl, rfl, fun j hj => by omega⟩ ?_ ?_ (llF (by omega))
  · rintro i ⟨s, v⟩ hi ⟨hv, f1, f2, f3⟩
    dsimp only at hv f1 f2 f3
    subst hv
    unfold fx_X12_undo_69_l21
    dsimp only
    rw [if_neg (Lnle 1020 (by omega) (by decide) hi), f1 69 (by decide), h, ix1020, gI_nI (by omega) (by decide), gI_nI (by omega) (by decide), rI_n (by omega), nI_clamp (by omega), f1 78 (by decide)]
    simp only [lt_eq, nI_1]
    refine ⟨_, rfl, rfl, fun c hc => ?_, f2, fun j hj => ?_⟩
    · rw [SI_ne hc]; exact f1 c hc
    · rw [SI_same]
      by_cases e : j = i
      · subst e; rw [upd_same]
      · rw [upd_ne e]; exact f3 j (by omega)
  · rintro ⟨s, v⟩ ⟨hv, f1, f2, f3⟩
    dsimp only at hv f1 f2 f3
    subst hv
    unfold fx_X12_undo_69_l21
    dsimp only
    rw [if_pos (Lle 1020 (by decide) (by decide) (Nat.le_refl _))]
    exact ⟨_, rfl, f1, f2, f3⟩
theorem isClub_y {u : llMem} {nc c : Nat} (h : u.1 3 5 = nI nc) (hn : nc ≤ 30) (hc : c < nc) : fx_X5_isClub_3 u (nI c) = some 1 := by
  unfold fx_X5_isClub_3
  rw [h, if_neg (nI_nneg (by omega)), if_neg (nle2 (by omega) (by omega) hc), gB_1]
theorem undo_S : Step fx_X11_undo_0 fx_X12_undo_69 := by
  rintro x m ⟨A, mc, ml, k, cj, h⟩
  have hp := h.1
  have hn := hp.ncB
  have hD := h.2.2.1
  obtain ⟨hs1, hs2, hs3, hs4⟩ := h.2.1
  obtain ⟨d1, d2, d3, d4, d5⟩ := IDe_iff.mp hD
  unfold fx_X11_undo_0 fx_X2_takeBack_26 fx_X12_undo_69
  rw [d2, d3]
  cases k with
  | zero =>
    rw [if_neg (show ¬ (1 : Int32) ≤ nI 0 by decide), if_neg (fun q => q rfl), gB_0, gB_0]
    exact ⟨x, m, 0, rfl, rfl, ⟨A, mc, ml, 0, cj, h⟩, OX.refl x, OM.refl m⟩
  | succ q =>
    rw [if_pos (Lle 1 (by omega) (by decide) (by omega)), if_pos (nI_ne0 (by omega) (by omega)), nI_pred]
    simp only [lt_eq]
    have e14 : (llSI m 69 14 (nI q)).1 69 14 = nI q := by rw [SI_same, upd_same]
    obtain ⟨mf, l1, l2, l3, l4⟩ := undoL_m (llSI m 69 14 (nI q)) (q := q) (by omega) e14
    rw [l1, Option.bind_some, gB_1]
    have e26 : (llSI x 26 2 (nI q)).1 26 2 = nI q := by rw [SI_same, upd_same]
    rw [e26]
    simp only [gI_nI (show q < 8 by omega) (show 8 < 2 ^ 31 by decide), rI_n (show q < 2 ^ 31 by omega), SI_ne (show 27 ≠ 26 by decide), SI_ne (show 28 ≠ 26 by decide), SI_ne (show 29 ≠ 26 by decide)]
    have dq := d5 q (by omega)
    have mm : ∀ c, c ≠ 77 → c ≠ 69 → mf.1 c = m.1 c := fun c h1 h2 => by rw [l2 c h1, SI_ne h2]
    have m69 : ∀ j, j ≠ 14 → mf.1 69 j = m.1 69 j := fun j hj => by rw [l2 69 (by decide), SI_at hj]
    have m14 : mf.1 69 14 = nI q := by rw [l2 69 (by decide)]; exact e14
    have m77 : ∀ e, e < 1020 → mf.1 77 e = blkM m (q + 1) q e := fun e he => by
      rw [l4 e he, SI_ne (by decide)]
      unfold blkM
      rw [if_pos (by omega)]
    have bn : ∀ e, blkM m (q + 1) (q + 1) e = m.1 77 e := fun e => by unfold blkM; rw [if_neg (by omega)]
    have pop : ∀ x' : llMem, (∀ i, i ∈ [27, 28, 29] → x'.1 i = x.1 i) → x'.1 26 2 = nI q → IDe A x' mf (cj q) ml q cj := by
      intro x' hx h26
      refine IDe_iff.mpr ⟨by omega, h26, m14, rfl, fun j hj => ?_⟩
      rw [hx 27 (by simp), hx 28 (by simp), hx 29 (by simp)]
      have B : ∀ i, i ≤ q → ∀ e, e < 1020 → blkM mf q i e = blkM m (q + 1) i e := fun i hi e he => by
        by_cases e0 : i = q
        · subst e0
          rw [← m77 e he]
          unfold blkM
          rw [if_neg (by omega)]
        · unfold blkM
          rw [if_pos (by omega), if_pos (by omega), mm 78 (by decide) (by decide)]
      exact (d5 j (by omega)).congr hn (fun _ _ => rfl) (fun e he => B j (by omega) e he) (fun e he => B (j + 1) (by omega) e he)
    have hOm : OM m mf := fun i hi => ⟨mm i (by omega) (by omega), by rw [l3]; rfl⟩
    have fin : ∀ x' : llMem, (∀ i, i < 11 ∨ i = 12 ∨ i = 13 ∨ 29 < i → x'.1 i = x.1 i) → x'.1 14 0 = x.1 14 0 → x'.2 = x.2 → (∀ i, i ∈ [27, 28, 29] → x'.1 i = x.1 i) → x'.1 26 2 = nI q → ISea A x' mf (cj q) ml → IRe A x' → Inv x' mf ∧ OX x x' := by
      intro x' hx h14 h2 hk h26 hS hR
      refine ⟨⟨A, cj q, ml, q, cj, h.sea (fun i hi => hx i (by omega)) h14 (fun i _ => by rw [h2]) (fun i h1 h2 h3 _ _ => mm i h2 (by omega)) (fun j hj => m69 j (by simp only [List.mem_cons, List.not_mem_nil, or_false] at hj; omega)) (fun i _ => by rw [l3]; rfl) hS (pop x' hk h26) (h.2.2.2.2.2.1.of (by rw [hx 1 (by decide)]) (hx 2 (by decide)) (m69 16 (by decide)) (mm 79 (by decide) (by decide))) ?_ hR⟩, fun i hi => ⟨hx i (by omega), by rw [h2]⟩⟩
      have := h.2.2.2.2.2.2.1
      unfold IFa at this ⊢
      rw [hx 1 (by decide), m69 17 (by decide), m69 18 (by decide)]; exact this
    have hr := h.2.2.2.2.2.2.2.2
    rcases dq with ⟨a1, a2, a3, a4, a5⟩ | ⟨c, hc, a2, a3, a4⟩
    · -- a day
      rw [if_neg (fun z => z a1), a2]
      have hle := hD.mono 1 q (by omega)
      have hIM : IMa A (llSI x 26 2 (nI q)) mc ml := hs3.of (by rw [SI_ne (by decide)]) (SI_ne (by decide)) (SI_ne (by decide)) (SI_ne (by decide))
      have hIS : ISu A (llSI x 26 2 (nI q)) := hs4.of (fun i hi => SI_ne (by omega))
      obtain ⟨x', k1, k2, k3, k4, k5, k6, k7⟩ := keepFirst_x hn hIM hIS (kept := cj q) hle
      rw [k1, bd_mk, gB_1, bd_mk, gB_1]
      have xx : ∀ i, i ≠ 14 → i ≠ 17 → i < 21 ∨ 25 < i → i ≠ 26 → x'.1 i = x.1 i := fun i h1 h2 h3 h4 => by rw [k2 i h1 h2 h3, SI_ne h4]
      have x17 : ∀ h a, h < 30 → a < 30 → x'.1 17 (30 * h + a) = if ∃ j, j < mc ∧ cj q ≤ j ∧ ml j = (h, a) then -1 else x.1 17 (30 * h + a) := fun h a hh ha => by rw [k7 h a hh ha, SI_ne (by decide)]
      have hS : ISea A x' mf (cj q) ml := by
        refine ⟨fun c hc => ?_, fun j hj => ?_, ⟨by have := hs3.1; omega, k5, fun i hi => ?_, fun i j hi hj => hs3.2.2.2.1 i j (by omega) (by omega), fun h a hh ha hno => ?_⟩, k6⟩
        · have w := hs1 c hc
          unfold INw at w ⊢
          have f : ∀ e, e < 120 → mf.1 77 e = m.1 77 e := fun e he => by rw [m77 e (by omega), a4 e he, bn]
          rw [xx 11 (by decide) (by decide) (by decide) (by decide), xx 18 (by decide) (by decide) (by decide) (by decide), xx 19 (by decide) (by decide) (by decide) (by decide), xx 20 (by decide) (by decide) (by decide) (by decide), f c (by omega), f (30 + c) (by omega), f (60 + c) (by omega), f (90 + c) (by omega)]
          exact w
        · have w := a5 (j / 30) (j % 30) (by omega) (by omega)
          have w2 := x17 (j / 30) (j % 30) (by omega) (by omega)
          rw [show 30 * (j / 30) + j % 30 = j by omega] at w w2
          rw [m77 _ (by omega), w, w2, bn, hs2 j hj]
          by_cases e : ∃ i, i < cj q ∧ ml i = (j / 30, j % 30)
          · rw [if_pos e, if_neg]
            obtain ⟨i, i1, i2⟩ := e
            rintro ⟨i', j1, j2, j3⟩
            have := hs3.2.2.2.1 i i' (by omega) j1 (i2.trans j3.symm)
            omega
          · rw [if_neg e]
            by_cases e2 : ∃ i, i < mc ∧ cj q ≤ i ∧ ml i = (j / 30, j % 30)
            · rw [if_pos e2]
            · rw [if_neg e2]
              have := hs3.2.2.2.2 (j / 30) (j % 30) (by omega) (by omega) (fun i hi ei => by
                by_cases g : i < cj q
                · exact e ⟨i, g, ei⟩
                · exact e2 ⟨i, hi, by omega, ei⟩)
              rw [show 30 * (j / 30) + j % 30 = j by omega] at this
              exact this.symm
        · obtain ⟨b1, b2, b3, b4, b5, b6, b7, g, t, b8, b9, b10⟩ := hs3.2.2.1 i (by omega)
          rw [xx 15 (by decide) (by decide) (by decide) (by decide), xx 16 (by decide) (by decide) (by decide) (by decide)]
          refine ⟨b1, b2, b3, b4, b5, b6, b7, g, t, b8, b9, ?_⟩
          rw [x17 _ _ (by omega) (by omega), if_neg, b10]
          rintro ⟨i', j1, j2, j3⟩
          have := hs3.2.2.2.1 i i' (by omega) j1 j3.symm
          omega
        · rw [x17 h a hh ha]
          by_cases e2 : ∃ i, i < mc ∧ cj q ≤ i ∧ ml i = (h, a)
          · rw [if_pos e2]
          · rw [if_neg e2]
            exact hs3.2.2.2.2 h a hh ha (fun i hi ei => by
              by_cases g : i < cj q
              · exact hno i g ei
              · exact e2 ⟨i, hi, by omega, ei⟩)
      obtain ⟨F1, F2⟩ := fin x' (fun i hi => xx i (by omega) (by omega) (by omega) (by omega)) (by rw [k3 0 (by decide), SI_ne (by decide)]) (by rw [k4]; rfl) (fun i hi => by
        simp only [List.mem_cons, List.not_mem_nil, or_false] at hi
        exact xx i (by omega) (by omega) (by omega) (by omega)) (by rw [k2 26 (by decide) (by decide) (by decide)]; exact e26) hS (fun c hc he => hr c hc (by rw [xx 18 (by decide) (by decide) (by decide) (by decide)] at he; exact he))
      exact ⟨x', mf, 1, rfl, rfl, F1, F2, hOm⟩
    · -- one club
      have cl : fx_X5_isClub_3 (llSI x 26 2 (nI q)) (nI c) = some 1 := isClub_y (by rw [SI_ne (by decide)]; exact hp.x35) hn hc
      have w0 := hs1 c hc
      have mcq : cj q = mc := by rw [a3]; exact d4
      have go : ∀ (X O : Nat) (v : Int32), ((X = 11 ∧ O = 0) ∨ (X = 18 ∧ O = 30) ∨ (X = 19 ∧ O = 60) ∨ (X = 20 ∧ O = 90)) → (∀ e, e < 1020 → e ≠ O + c → mf.1 77 e = m.1 77 e) → mf.1 77 (O + c) = v → ((X = 11 ∧ ∃ g, g ≤ 9 ∧ v = nI g) ∨ (X = 18 ∧ v = 0) ∨ (X = 19 ∧ v = 0) ∨ (X = 20 ∧ ∃ g, g ≤ 999 ∧ v = nI g)) → Inv (llSI (llSI x 26 2 (nI q)) X c v) mf ∧ OX x (llSI (llSI x 26 2 (nI q)) X c v) := by
        intro X O v hXO hoth hat hval
        have xx : ∀ i, i ≠ X → i ≠ 26 → (llSI (llSI x 26 2 (nI q)) X c v).1 i = x.1 i := fun i h1 h2 => by rw [SI_ne h1, SI_ne h2]
        have xX : (llSI (llSI x 26 2 (nI q)) X c v).1 X = upd (x.1 X) c v := by rw [SI_same, SI_ne (by clear hval; omega)]
        have XO : X ≤ 20 ∧ 11 ≤ X ∧ X ≠ 12 ∧ X ≠ 13 ∧ X ≠ 14 ∧ X ≠ 15 ∧ X ≠ 16 ∧ X ≠ 17 ∧ O ≤ 90 := by clear hval; omega
        have hS : ISea A (llSI (llSI x 26 2 (nI q)) X c v) mf (cj q) ml := by
          rw [mcq]
          refine ⟨fun c' hc' => ?_, fun j hj => ?_, hs3.of (by rw [xx 14 (by omega) (by decide)]) (xx 15 (by omega) (by decide)) (xx 16 (by omega) (by decide)) (xx 17 (by omega) (by decide)), hs4.of (fun i hi => xx i (by omega) (by omega))⟩
          · obtain ⟨q1, q2, q3, q4, q5, q6, q7, q8⟩ := hs1 c' hc'
            unfold INw
            rcases hXO with ⟨rfl, rfl⟩ | ⟨rfl, rfl⟩ | ⟨rfl, rfl⟩ | ⟨rfl, rfl⟩
            · rw [xX, xx 18 (by decide) (by decide), xx 19 (by decide) (by decide), xx 20 (by decide) (by decide), hoth (30 + c') (by omega) (by omega), hoth (60 + c') (by omega) (by omega), hoth (90 + c') (by omega) (by omega)]
              rcases hval with ⟨_, hv⟩ | ⟨z, _⟩ | ⟨z, _⟩ | ⟨z, _⟩
              · refine ⟨?_, q2, q3, q4, ?_, q6, q7, q8⟩
                · by_cases e : c' = c
                  · rw [e, upd_same]; exact hv
                  · rw [upd_ne e]; exact q1
                · by_cases e : c' = c
                  · rw [e, upd_same, ← hat, Nat.zero_add]
                  · rw [upd_ne e, hoth c' (by omega) (by omega)]; exact q5
              · omega
              · omega
              · omega
            · rw [xX, xx 11 (by decide) (by decide), xx 19 (by decide) (by decide), xx 20 (by decide) (by decide), hoth c' (by omega) (by omega), hoth (60 + c') (by omega) (by omega), hoth (90 + c') (by omega) (by omega)]
              rcases hval with ⟨z, _⟩ | ⟨_, hv⟩ | ⟨z, _⟩ | ⟨z, _⟩
              · omega
              · refine ⟨q1, ?_, q3, q4, q5, ?_, q7, q8⟩
                · by_cases e : c' = c
                  · rw [e, upd_same]; exact Or.inl hv
                  · rw [upd_ne e]; exact q2
                · by_cases e : c' = c
                  · rw [e, upd_same, ← hat]
                  · rw [upd_ne e, hoth (30 + c') (by omega) (by omega)]; exact q6
              · omega
              · omega
            · rw [xX, xx 11 (by decide) (by decide), xx 18 (by decide) (by decide), xx 20 (by decide) (by decide), hoth c' (by omega) (by omega), hoth (30 + c') (by omega) (by omega), hoth (90 + c') (by omega) (by omega)]
              rcases hval with ⟨z, _⟩ | ⟨z, _⟩ | ⟨_, hv⟩ | ⟨z, _⟩
              · omega
              · omega
              · refine ⟨q1, q2, ?_, q4, q5, q6, ?_, q8⟩
                · by_cases e : c' = c
                  · rw [e, upd_same]; exact Or.inl hv
                  · rw [upd_ne e]; exact q3
                · by_cases e : c' = c
                  · rw [e, upd_same, ← hat]
                  · rw [upd_ne e, hoth (60 + c') (by omega) (by omega)]; exact q7
              · omega
            · rw [xX, xx 11 (by decide) (by decide), xx 18 (by decide) (by decide), xx 19 (by decide) (by decide), hoth c' (by omega) (by omega), hoth (30 + c') (by omega) (by omega), hoth (60 + c') (by omega) (by omega)]
              rcases hval with ⟨z, _⟩ | ⟨z, _⟩ | ⟨z, _⟩ | ⟨_, hv⟩
              · omega
              · omega
              · omega
              · refine ⟨q1, q2, q3, ?_, q5, q6, q7, ?_⟩
                · by_cases e : c' = c
                  · rw [e, upd_same]; exact hv
                  · rw [upd_ne e]; exact q4
                · by_cases e : c' = c
                  · rw [e, upd_same, ← hat]
                  · rw [upd_ne e, hoth (90 + c') (by omega) (by omega)]; exact q8
          · rw [hoth _ (by omega) (by omega), xx 17 (by omega) (by decide)]
            exact hs2 j hj
        refine fin _ (fun i hi => xx i (by omega) (by omega)) (by rw [xx 14 (by omega) (by decide)]) rfl (fun i hi => ?_) (by rw [SI_ne (by omega)]; exact e26) hS (fun c' hc' he => ?_)
        · simp only [List.mem_cons, List.not_mem_nil, or_false] at hi
          exact xx i (by omega) (by omega)
        · by_cases e : X = 18
          · by_cases e2 : c' = c
            · rcases hval with ⟨z, _⟩ | ⟨_, hv⟩ | ⟨z, _⟩ | ⟨z, _⟩
              · omega
              · rw [← e, xX, e2, upd_same, hv] at he
                exact absurd he (by decide)
              · omega
              · omega
            · refine hr c' hc' ?_
              rw [← e] at he ⊢
              rw [xX, upd_ne e2] at he; exact he
          · rw [xx 18 (fun z => e z.symm) (by decide)] at he
            exact hr c' hc' he
      unfold fx_X2_takeBackOf_26
      rcases a4 with ⟨b1, b2, b3⟩ | ⟨b1, b2, b3⟩ | ⟨b1, b2, b3, b4⟩ | ⟨b1, b2, b3, b4⟩
      · rw [if_pos (show ¬ x.1 27 q = 0 by rw [b1]; decide), a2, cl, Option.bind_some, if_neg one_ne, b1, if_pos rfl, gI_nI (by omega) (by decide), nI_clamp (by omega), lt_eq, bd_mk, gB_1, bd_mk, gB_1]
        obtain ⟨F1, F2⟩ := go 18 30 0 (by omega) (fun e he hne => by rw [m77 e he, b3 e he hne, bn]) (by rw [m77 _ (by omega)]; exact b2) (Or.inr (Or.inl ⟨rfl, rfl⟩))
        exact ⟨_, mf, 1, rfl, rfl, F1, F2, hOm⟩
      · rw [if_pos (show ¬ x.1 27 q = 0 by rw [b1]; decide), a2, cl, Option.bind_some, if_neg one_ne, b1, if_neg (by decide), if_pos rfl, gI_nI (by omega) (by decide), nI_clamp (by omega), lt_eq, bd_mk, gB_1, bd_mk, gB_1]
        obtain ⟨F1, F2⟩ := go 19 60 0 (by omega) (fun e he hne => by rw [m77 e he, b3 e he hne, bn]) (by rw [m77 _ (by omega)]; exact b2) (Or.inr (Or.inr (Or.inl ⟨rfl, rfl⟩)))
        exact ⟨_, mf, 1, rfl, rfl, F1, F2, hOm⟩
      · rw [if_pos (show ¬ x.1 27 q = 0 by rw [b1]; decide), a2, cl, Option.bind_some, if_neg one_ne, b1, if_neg (by decide), if_neg (by decide), if_pos rfl, gI_nI (by omega) (by decide), gI_nI (by omega) (by decide), nI_clamp (by omega), rI_n (by omega), SI_ne (show 20 ≠ 26 by decide), lt_eq, bd_mk, gB_1, bd_mk, gB_1]
        obtain ⟨g, g1, g2⟩ := b3
        have ev : x.1 20 c - x.1 29 q = nI g := by rw [← g2, b2, bn, w0.2.2.2.2.2.2.2]
        obtain ⟨F1, F2⟩ := go 20 90 (x.1 20 c - x.1 29 q) (by omega) (fun e he hne => by rw [m77 e he, b4 e he hne, bn]) (by rw [m77 _ (by omega), ev]; exact g2) (Or.inr (Or.inr (Or.inr ⟨rfl, g, g1, ev⟩)))
        exact ⟨_, mf, 1, rfl, rfl, F1, F2, hOm⟩
      · rw [if_pos (show ¬ x.1 27 q = 0 by rw [b1]; decide), a2, cl, Option.bind_some, if_neg one_ne, b1, if_neg (by decide), if_neg (by decide), if_neg (by decide), gI_nI (by omega) (by decide), nI_clamp (by omega), lt_eq, bd_mk, gB_1, bd_mk, gB_1]
        obtain ⟨F1, F2⟩ := go 11 0 (x.1 29 q) (by omega) (fun e he hne => by rw [m77 e he, b4 e he (by omega), bn]) (by rw [Nat.zero_add, m77 _ (by omega)]; exact b2) (Or.inl ⟨rfl, b3⟩)
        exact ⟨_, mf, 1, rfl, rfl, F1, F2, hOm⟩
