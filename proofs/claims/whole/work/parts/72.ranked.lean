/-! order, ranked, of -/
theorem Arr.q {A : Ab} {x u u' : llMem} {l : Nat} (h : Arr A x u u' l) : QX u u' := by
  refine ⟨fun c hc => ?_, h.2.1⟩
  have : c ∉ [43, 44, 45, 46] := by simp; omega
  exact ⟨(h.1 c this).1, (h.1 c this).2.1⟩
theorem QM.sm {m m' : llMem} {X : List Nat} (hs : Sm X m m') (hX : ∀ c, c ∈ X → 80 ≤ c ∧ c ≠ 100) : QM m m' := by
  refine ⟨fun c hc => ?_, fun k _ => ?_⟩
  · have : c ∉ X := fun q => by have := hX c q; omega
    exact ⟨(hs c this).1, (hs c this).2.1⟩
  · rw [(hs 69 (fun q => by have := hX 69 q; omega)).1]
theorem OrM.q {A : Ab} {x m m' : llMem} (h : OrM A x m m') : QM m m' := QM.sm h.1 (fun c hc => by simp at hc; omega)
theorem RkM.q {A : Ab} {x m m' : llMem} (h : RkM A x m m') : QM m m' := QM.sm h.1 (fun c hc => by simp at hc; omega)
/-- a question in step: memories aside -/
def StepW {α : Type} (F G : llMem → Option (llMem × α)) : Prop := ∀ x m, Inv x m → ∃ x' m' r, F x = some (x', r) ∧ G m = some (m', r) ∧ QX x x' ∧ QM m m'
theorem StepW.step {α : Type} {F G : llMem → Option (llMem × α)} (h : StepW F G) : Step F G := fun x m hI => by
  obtain ⟨x', m', r, h1, h2, h3, h4⟩ := h x m hI
  exact ⟨x', m', r, h1, h2, hI.of h3 h4, h3.ox, h4.om⟩
theorem order_S (a i : Int32) : StepW (fun u => fx_X11_order_0 u a i) (fun u => fx_X12_order_69 u a i) := by
  rintro x m ⟨A, mc, ml, k, cj, h⟩
  have hp := h.1
  have hn2 := hp.nlB
  dsimp only
  unfold fx_X11_order_0 fx_X12_order_69
  rcases hasLevel_B hp a with ⟨l, hl, rfl, p1, p2⟩ | ⟨p1, p2⟩
  · have h12 := row_12 hp hl
    obtain ⟨x', e1, e2⟩ := arrange_x hp h.2.1 hl (Bas.refl x)
    obtain ⟨m', f1, f2⟩ := laysOrders_m hp h.2.1
    obtain ⟨w1, w2⟩ := f2.2.2 l hl
    rw [p1, p2, Option.bind_some, Option.bind_some, if_pos one_ne, if_pos one_ne, e1, bd_mk, f1, bd_mk, e2.2.2.1, gI_nI (by omega) (by decide), rI_n (by omega), w1]
    rcases arg_in i (k := (rowOf A l).length) (by omega) with ⟨c, h1, rfl, h3⟩ | ⟨h1, h3⟩
    · rw [h3, Option.bind_some, if_neg one_ne, if_neg (nI_nneg (by omega)), if_neg (nle2 (by omega) (by omega) h1), gI_nI (by omega) (by decide), rI_n (by omega), ix12, gI_nI (by omega) (by decide), rI_n (by omega), e2.2.2.2.1 c h1, w2 c h1]
      exact ⟨x', m', _, rfl, rfl, e2.q, f2.q⟩
    · rw [h3, Option.bind_some, if_pos rfl]
      rcases h1 with h1 | ⟨h1, h2⟩
      · rw [if_pos h1]; exact ⟨x', m', _, rfl, rfl, e2.q, f2.q⟩
      · rw [if_neg h1, if_pos h2]; exact ⟨x', m', _, rfl, rfl, e2.q, f2.q⟩
  · rw [p1, p2]; exact ⟨x, m, _, rfl, rfl, QX.refl x, QM.refl m⟩
theorem filter_lt {P Q : Nat → Bool} : ∀ (L : List Nat), (∀ o, o ∈ L → P o = true → Q o = true) → ((∃ c, c ∈ L ∧ Q c = true ∧ P c = false) → (L.filter P).length < (L.filter Q).length) ∧ (L.filter P).length ≤ (L.filter Q).length
  | [], _ => ⟨by rintro ⟨c, h, _⟩; simp at h, Nat.le_refl _⟩
  | a :: L, h => by
    obtain ⟨h1, h2⟩ := filter_lt (P := P) (Q := Q) L (fun o ho => h o (List.mem_cons_of_mem _ ho))
    have ha := h a (List.mem_cons_self ..)
    cases ep : P a
    · cases eq : Q a
      · rw [List.filter_cons_of_neg (by rw [ep]; decide), List.filter_cons_of_neg (by rw [eq]; decide)]
        refine ⟨fun hc => h1 ?_, h2⟩
        obtain ⟨c, c1, c2, c3⟩ := hc
        rcases List.mem_cons.mp c1 with q | q
        · rw [q, eq] at c2; cases c2
        · exact ⟨c, q, c2, c3⟩
      · rw [List.filter_cons_of_neg (by rw [ep]; decide), List.filter_cons_of_pos eq, List.length_cons]
        exact ⟨fun _ => by omega, by omega⟩
    · rw [List.filter_cons_of_pos ep, List.filter_cons_of_pos (ha ep), List.length_cons, List.length_cons]
      refine ⟨fun hc => ?_, by omega⟩
      obtain ⟨c, c1, c2, c3⟩ := hc
      rcases List.mem_cons.mp c1 with q | q
      · rw [q, ep] at c3; cases c3
      · have := h1 ⟨c, q, c2, c3⟩; omega
theorem ahd_iff {x : llMem} {a b : Nat} : ahd x a b = true ↔ PI x b < PI x a ∨ (PI x a = PI x b ∧ (DI x b < DI x a ∨ (DI x a = DI x b ∧ (GI x b < GI x a ∨ (GI x a = GI x b ∧ a < b))))) := decide_eq_true_iff
/-- who is ahead has the lesser rank -/
theorem rk_lt {A : Ab} {x : llMem} {a b l d : Nat} (ha : a < A.nc) (sa : A.st a = some (l, d)) (sb : A.st b = some (l, d)) (h : ahd x a b = true) : rkN A x a < rkN A x b := by
  unfold rkN
  have := (filter_lt (P := rkP A x a) (Q := rkP A x b) (List.range A.nc) (fun o _ ho => by
    unfold rkP at ho ⊢
    rw [Bool.and_eq_true, decide_eq_true_iff] at ho ⊢
    obtain ⟨⟨_, h2⟩, h3⟩ := ho
    refine ⟨⟨by rw [sb]; rfl, by rw [sb, ← sa]; exact h2⟩, ?_⟩
    rw [ahd_iff] at h h3 ⊢
    omega)).1 ⟨a, List.mem_range.mpr ha, by
      unfold rkP
      rw [h, Bool.and_true, decide_eq_true_iff]
      exact ⟨by rw [sb]; rfl, by rw [sb, sa]⟩, by
      unfold rkP
      rw [ahd_4 rfl rfl rfl, decide_eq_false (show ¬ a < a by omega), Bool.and_false]⟩
  omega
theorem rk_inj {A : Ab} {x : llMem} {a b l d : Nat} (ha : a < A.nc) (hb : b < A.nc) (sa : A.st a = some (l, d)) (sb : A.st b = some (l, d)) (h : rkN A x a = rkN A x b) : a = b := by
  rcases Classical.em (ahd x a b = true) with q | q
  · have := rk_lt ha sa sb q; omega
  · rcases Classical.em (ahd x b a = true) with r | r
    · have := rk_lt hb sb sa r; omega
    · rw [ahd_iff] at q r
      omega
theorem atRank_x {A : Ab} {x m u u' : llMem} (hp : IPyr A x m) {l d : Nat} (hl : l < A.nl) (hd : d < A.dv l) (hB : Bas x u) (h : Arr A x u u' l) (r : Int32) : fx_X8_atRank_43 u' (nI d) r = some (if fst1 (fun i => decide (A.st ((ordL A x l).getD i 0) = some (l, d) ∧ nI (rkN A x ((ordL A x l).getD i 0)) = r)) (rowOf A l).length < (rowOf A l).length then nI ((ordL A x l).getD (fst1 (fun i => decide (A.st ((ordL A x l).getD i 0) = some (l, d) ∧ nI (rkN A x ((ordL A x l).getD i 0)) = r)) (rowOf A l).length) 0) else -1) := by
  have hn := hp.ncB
  have h12 := row_12 hp hl
  have hd3 := (hp.lv hl).2.2.2.2.2.2.2.2.2.1
  obtain ⟨f1, f2, f3⟩ := fst1_spec (fun i => decide (A.st ((ordL A x l).getD i 0) = some (l, d) ∧ nI (rkN A x ((ordL A x l).getD i 0)) = r)) (rowOf A l).length
  generalize fst1 (fun i => decide (A.st ((ordL A x l).getD i 0) = some (l, d) ∧ nI (rkN A x ((ordL A x l).getD i 0)) = r)) (rowOf A l).length = q at *
  have fact : ∀ i, i < (rowOf A l).length → ∃ f, (ordL A x l).getD i 0 < A.nc ∧ A.st ((ordL A x l).getD i 0) = some (l, f) ∧ f < A.dv l ∧ u'.1 44 i = nI ((ordL A x l).getD i 0) ∧ u'.1 45 ((ordL A x l).getD i 0) = nI (rkN A x ((ordL A x l).getD i 0)) ∧ u'.1 13 ((ordL A x l).getD i 0) = nI f := fun i hi => by
    have hm : (ordL A x l).getD i 0 ∈ ordL A x l := getD_in (by rw [ordL_len]; exact hi)
    obtain ⟨c1, c2⟩ := ordL_mem.mp hm
    obtain ⟨f, c3⟩ := lv_some c2
    refine ⟨f, c1, c3, ((hp.cl c1).stB l f c3).2, h.2.2.2.1 i hi, (h.2.2.2.2 _ (row_mem.mpr ⟨c1, c2⟩)).1, ?_⟩
    rw [(h.1 13 (by decide)).1, (hB 13 (by decide)).1, (hp.cl c1).x13, (lvI_some c3).2]
  obtain ⟨e, h1, h2⟩ := loop_inv (body := fx_X8_atRank_43_l2 u' (nI d) r) (fun i s => s = nI i) (fun e => Sum.elim (fun _ => (-1 : Int32)) (fun v => v) e = if q < (rowOf A l).length then nI ((ordL A x l).getD q 0) else -1) q llFuel 0 rfl (by
      intro i s hi hs
      subst hs
      obtain ⟨f, c1, c2, c3, c4, c5, c6⟩ := fact i (by omega)
      have hq := of_decide_eq_false (f2 i hi)
      unfold fx_X8_atRank_43_l2 fx_X8_atRank_43_j50_b2
      rw [h.2.2.1, if_neg (nle2 (by omega) (by omega) (by omega))]
      simp only [gI_nI (show i < 12 by omega) (show 12 < 2 ^ 31 by decide), rI_n (show i < 2 ^ 31 by omega), c4, gI_nI (show (ordL A x l).getD i 0 < 30 by omega) (show 30 < 2 ^ 31 by decide), rI_n (show (ordL A x l).getD i 0 < 2 ^ 31 by omega), c5, c6, lt_eq, nI_1]
      by_cases g1 : f = d
      · rw [if_neg (fun z => z (by rw [g1])), if_pos (fun z => hq ⟨by rw [c2, g1], z⟩)]
        exact ⟨_, rfl, rfl⟩
      · rw [if_pos (fun z => g1 (nI_inj (by omega) (by omega) z))]
        exact ⟨_, rfl, rfl⟩) (by
      intro s hs
      subst hs
      unfold fx_X8_atRank_43_l2 fx_X8_atRank_43_j50_b2
      rw [h.2.2.1]
      by_cases hlt : q < (rowOf A l).length
      · obtain ⟨f, c1, c2, c3, c4, c5, c6⟩ := fact q hlt
        have hq := of_decide_eq_true (f3 hlt)
        have g1 : f = d := by
          have := hq.1
          rw [c2] at this
          simpa using this
        rw [if_neg (nle2 (by omega) (by omega) hlt)]
        simp only [gI_nI (show q < 12 by omega) (show 12 < 2 ^ 31 by decide), rI_n (show q < 2 ^ 31 by omega), c4, gI_nI (show (ordL A x l).getD q 0 < 30 by omega) (show 30 < 2 ^ 31 by decide), rI_n (show (ordL A x l).getD q 0 < 2 ^ 31 by omega), c5, c6, lt_eq, nI_1]
        rw [if_neg (fun z => z (by rw [g1])), if_neg (fun z => z hq.2)]
        exact ⟨_, rfl, by rw [if_pos hlt]; rfl⟩
      · rw [if_pos (le2 (by omega) (by omega) (by omega))]
        exact ⟨_, rfl, by rw [if_neg hlt]; rfl⟩) (llF (by omega))
  unfold fx_X8_atRank_43
  rw [h1, ← h2]
  cases e <;> rfl
theorem rankedL_m {A : Ab} {x m m' : llMem} (hp : IPyr A x m) {l d : Nat} (hl : l < A.nl) (hd : d < A.dv l) (h : RkM A x m m') (r : Int32) : (loop (fx_X12_ranked_69_l18 m' (nI l) (nI d) r) llFuel 0).bind (Sum.elim (fun e4 => some (m', (-1))) (fun v => some ((fun v => v) v))) = some (m', ixO (fst1 (fun c => decide (A.st c = some (l, d) ∧ nI (rkN A x c) = r)) A.nc) A.nc) := by
  have hn := hp.ncB
  have hn2 := hp.nlB
  have hd3 := (hp.lv hl).2.2.2.2.2.2.2.2.2.1
  have hp' : IPyr A x m' := hp.smM h.1 (fun c hc => by simp at hc; omega)
  obtain ⟨f1, f2, f3⟩ := fst1_spec (fun c => decide (A.st c = some (l, d) ∧ nI (rkN A x c) = r)) A.nc
  generalize fst1 (fun c => decide (A.st c = some (l, d) ∧ nI (rkN A x c) = r)) A.nc = q at *
  obtain ⟨e, h1, h2⟩ := loop_inv (body := fx_X12_ranked_69_l18 m' (nI l) (nI d) r) (fun i s => s = nI i) (fun e => Sum.elim (fun _ => (m', (-1 : Int32))) (fun v => v) e = (m', ixO q A.nc)) q llFuel 0 rfl (by
      intro i s hi hs
      subst hs
      have hq := of_decide_eq_false (f2 i hi)
      have hi' : i < A.nc := by omega
      unfold fx_X12_ranked_69_l18 fx_X12_ranked_69_j63_b18
      rw [hp'.m9, if_neg (nle2 (by omega) (by omega) hi')]
      simp only [gI_nI (show i < 60 by omega) (show 60 < 2 ^ 31 by decide), gI_nI (show i < 30 by omega) (show 30 < 2 ^ 31 by decide), rI_n (show i < 2 ^ 31 by omega), (hp'.cl hi').m74, (hp'.cl hi').m75, (h.2 i hi').1, lt_eq, nI_1]
      rw [ite_st hp hi' (by omega) (by omega)]
      by_cases g : A.st i = some (l, d)
      · rw [if_pos g, if_pos (fun z => hq ⟨g, z⟩)]
        exact ⟨_, rfl, rfl⟩
      · rw [if_neg g]
        exact ⟨_, rfl, rfl⟩) (by
      intro s hs
      subst hs
      unfold fx_X12_ranked_69_l18 fx_X12_ranked_69_j63_b18 ixO
      rw [hp'.m9]
      by_cases hlt : q < A.nc
      · have hq := of_decide_eq_true (f3 hlt)
        rw [if_neg (nle2 (by omega) (by omega) hlt)]
        simp only [gI_nI (show q < 60 by omega) (show 60 < 2 ^ 31 by decide), gI_nI (show q < 30 by omega) (show 30 < 2 ^ 31 by decide), rI_n (show q < 2 ^ 31 by omega), (hp'.cl hlt).m74, (hp'.cl hlt).m75, (h.2 q hlt).1, lt_eq, nI_1]
        rw [ite_st hp hlt (by omega) (by omega), if_pos hq.1, if_neg (fun z => z hq.2)]
        exact ⟨_, rfl, by rw [if_pos hlt]; rfl⟩
      · rw [if_pos (le2 (by omega) (by omega) (by omega))]
        exact ⟨_, rfl, by rw [if_neg hlt]; rfl⟩) (llF (by omega))
  rw [h1, ← h2]
  cases e <;> rfl
/-- both find the same club at a rank -/
theorem rank_same {A : Ab} {x m : llMem} (hp : IPyr A x m) {l d : Nat} (hl : l < A.nl) (hd : d < A.dv l) (r : Int32) : (if fst1 (fun i => decide (A.st ((ordL A x l).getD i 0) = some (l, d) ∧ nI (rkN A x ((ordL A x l).getD i 0)) = r)) (rowOf A l).length < (rowOf A l).length then nI ((ordL A x l).getD (fst1 (fun i => decide (A.st ((ordL A x l).getD i 0) = some (l, d) ∧ nI (rkN A x ((ordL A x l).getD i 0)) = r)) (rowOf A l).length) 0) else -1) = ixO (fst1 (fun c => decide (A.st c = some (l, d) ∧ nI (rkN A x c) = r)) A.nc) A.nc := by
  have hn := hp.ncB
  obtain ⟨f1, f2, f3⟩ := fst1_spec (fun i => decide (A.st ((ordL A x l).getD i 0) = some (l, d) ∧ nI (rkN A x ((ordL A x l).getD i 0)) = r)) (rowOf A l).length
  obtain ⟨g1, g2, g3⟩ := fst1_spec (fun c => decide (A.st c = some (l, d) ∧ nI (rkN A x c) = r)) A.nc
  generalize fst1 (fun i => decide (A.st ((ordL A x l).getD i 0) = some (l, d) ∧ nI (rkN A x ((ordL A x l).getD i 0)) = r)) (rowOf A l).length = p at *
  generalize fst1 (fun c => decide (A.st c = some (l, d) ∧ nI (rkN A x c) = r)) A.nc = q at *
  unfold ixO
  by_cases hp1 : p < (rowOf A l).length
  · obtain ⟨a1, a2⟩ := of_decide_eq_true (f3 hp1)
    have hm : (ordL A x l).getD p 0 < A.nc := (ordL_mem.mp (getD_in (by rw [ordL_len]; exact hp1))).1
    have hq : q < A.nc := Classical.byContradiction (fun z => by
      have := of_decide_eq_false (g2 ((ordL A x l).getD p 0) (by omega))
      exact this ⟨a1, a2⟩)
    obtain ⟨b1, b2⟩ := of_decide_eq_true (g3 hq)
    have r1 := rkN_le A x ((ordL A x l).getD p 0)
    have r2 := rkN_le A x q
    rw [if_pos hp1, if_pos hq, rk_inj hm hq a1 b1 (nI_inj (by omega) (by omega) (a2.trans b2.symm))]
  · rw [if_neg hp1, if_neg]
    intro hq
    obtain ⟨b1, b2⟩ := of_decide_eq_true (g3 hq)
    have hm : q ∈ ordL A x l := ordL_mem.mpr ⟨hq, by rw [b1]; rfl⟩
    obtain ⟨j, hj, e⟩ := List.mem_iff_getElem.mp hm
    have hj2 := hj
    rw [ordL_len] at hj2
    have ej : (ordL A x l).getD j 0 = q := by rw [List.getD_eq_getElem?_getD, List.getElem?_eq_getElem hj]; exact e
    have := of_decide_eq_false (f2 j (by omega))
    rw [ej] at this
    exact this ⟨b1, b2⟩
theorem ranked_S (a b r : Int32) : StepW (fun u => fx_X11_ranked_0 u a b r) (fun u => fx_X12_ranked_69 u a b r) := by
  rintro x m ⟨A, mc, ml, k, cj, h⟩
  have hp := h.1
  dsimp only
  unfold fx_X11_ranked_0 fx_X12_ranked_69
  rcases hasDivision_B hp a b with ⟨l, d, hl, hd, rfl, rfl, p1, p2⟩ | ⟨p1, p2⟩
  · obtain ⟨x', e1, e2⟩ := arrange_x hp h.2.1 hl (Bas.refl x)
    obtain ⟨m', f1, f2⟩ := laysRanks_m hp h.2.1
    rw [p1, p2, Option.bind_some, Option.bind_some, if_pos one_ne, if_pos one_ne, e1, bd_mk, f1, bd_mk, atRank_x hp hl hd (Bas.refl x) e2, Option.bind_some, rankedL_m hp hl hd f2, rank_same hp hl hd]
    exact ⟨x', m', _, rfl, rfl, e2.q, f2.q⟩
  · rw [p1, p2]; exact ⟨x, m, _, rfl, rfl, QX.refl x, QM.refl m⟩
theorem isIn_7 (u : llMem) (b : Int32) : (∃ j, j < 8 ∧ b = nI j ∧ fx_X12_isIn u (Int32.toInt64 b) 0 7 = some 1) ∨ ((∀ j, j < 8 → ¬ b = nI j) ∧ fx_X12_isIn u (Int32.toInt64 b) 0 7 = some 0) := by
  rcases arg_in b (k := 8) (by decide) with ⟨c, h1, h2, h3⟩ | ⟨h1, h3⟩
  · exact Or.inl ⟨c, h1, h2, h3 u⟩
  · refine Or.inr ⟨fun j hj e => ?_, h3 u⟩
    subst e
    rcases h1 with h1 | ⟨h1, h2⟩
    · exact nI_nneg (by omega) h1
    · exact nle2 (by decide) (by omega) hj h2
/-- where a club stands in a list -/
theorem idx_ex {L : List Nat} {c : Nat} (h : c ∈ L) : ∃ k, k < L.length ∧ L.getD k 0 = c ∧ ∀ j, j < k → ¬ L.getD j 0 = c := by
  obtain ⟨f1, f2, f3⟩ := fst1_spec (fun i => decide (L.getD i 0 = c)) L.length
  obtain ⟨j, hj, e⟩ := List.mem_iff_getElem.mp h
  have ej : L.getD j 0 = c := by rw [List.getD_eq_getElem?_getD, List.getElem?_eq_getElem hj]; exact e
  refine ⟨fst1 (fun i => decide (L.getD i 0 = c)) L.length, ?_, ?_, fun j hj => of_decide_eq_false (f2 j hj)⟩
  · exact Classical.byContradiction (fun z => (of_decide_eq_false (f2 j (by omega))) ej)
  · refine of_decide_eq_true (f3 (Classical.byContradiction (fun z => (of_decide_eq_false (f2 j (by omega))) ej)))
theorem of_S (a b : Int32) : StepW (fun u => fx_X11_of_0 u a b) (fun u => fx_X12_of_69 u a b) := by
  rintro x m ⟨A, mc, ml, k, cj, h⟩
  have hp := h.1
  have hn := hp.ncB
  have hn2 := hp.nlB
  dsimp only
  unfold fx_X11_of_0 fx_X12_of_69
  rcases plays_B hp a with ⟨c, l, d, hc, rfl, hst, hl, hd, p1, p2⟩ | ⟨p1, p2⟩
  · have h12 := row_12 hp hl
    have hd3 := (hp.lv hl).2.2.2.2.2.2.2.2.2.1
    rw [p1, p2, Option.bind_some, Option.bind_some, if_pos one_ne, if_neg one_ne]
    simp only [gI_nI (show c < 30 by omega) (show 30 < 2 ^ 31 by decide), gI_nI (show c < 60 by omega) (show 60 < 2 ^ 31 by decide), rI_n (show c < 2 ^ 31 by omega), (hp.cl hc).x12, (hp.cl hc).x13, (hp.cl hc).m74, (hp.cl hc).m75, (lvI_some hst).1, (lvI_some hst).2]
    rcases isIn_7 m b with ⟨j, hj, rfl, q⟩ | ⟨hj, q⟩
    · rw [q, Option.bind_some, if_pos one_ne]
      have hcr : c ∈ rowOf A l := row_mem.mpr ⟨hc, by rw [hst]; rfl⟩
      obtain ⟨x', e1, e2⟩ := arrange_x hp h.2.1 hl (Bas.refl x)
      obtain ⟨m', f1, f2⟩ := laysOrders_m hp h.2.1
      by_cases j5 : j < 5
      · rw [if_neg (Lnle 5 (by omega) (by decide) j5), sumOf_e hp h.2.1 hc j5, Option.bind_some]
        rcases (show j = 0 ∨ j = 1 ∨ j = 2 ∨ j = 3 ∨ j = 4 by omega) with rfl | rfl | rfl | rfl | rfl
        all_goals exact ⟨x, m, _, rfl, rfl, QX.refl x, QM.refl m⟩
      · rw [if_pos (Lle 5 (by omega) (by decide) (by omega))]
        rcases (show j = 5 ∨ j = 6 ∨ j = 7 by omega) with rfl | rfl | rfl
        · rw [if_pos (show ¬ nI 5 = 7 by decide), f1, bd_mk, if_neg (show ¬ ¬ nI 5 = 5 from fun z => z rfl), (f2.2.1 c hc).1]
          refine ⟨x', m', nI (rkN A x c), ?_, rfl, e2.q, f2.q⟩
          show bd (fx_X8_arrange_43 x (nI l)) (fun u2 _ => some (u2, u2.1 45 c)) = _
          rw [e1, bd_mk, (e2.2.2.2.2 c hcr).1]
        · rw [if_pos (show ¬ nI 6 = 7 by decide), f1, bd_mk, if_pos (show ¬ nI 6 = 5 by decide)]
          obtain ⟨w1, w2⟩ := f2.2.2 l hl
          obtain ⟨k0, g1, g2, g3⟩ := idx_ex (L := ordL A x l) (c := c) ((ordL_perm A x l).mem_iff.mpr hcr)
          rw [ordL_len] at g1
          have hp' : IPyr A x m' := hp.smM f2.1 (fun c hc => by simp at hc; omega)
          have mem : ∀ j, j < (rowOf A l).length → (ordL A x l).getD j 0 < A.nc := fun j hj => (ordL_mem.mp (getD_in (by rw [ordL_len]; exact hj))).1
          have lm : loop (fx_X12_of_69_l76 m' (nI c)) llFuel 0 = some (nI k0) := by
            refine loop_run0 (fun i => nI i) _ k0 llFuel rfl ?_ ?_ (llF (by omega))
            · intro i hi
              have := mem i (by omega)
              unfold fx_X12_of_69_l76
              rw [gI_nI (by omega) (by decide), rI_n (by omega), (hp'.cl hc).m74, (lvI_some hst).1, ix12, gI_nI (by omega) (by decide), rI_n (by omega), w2 i (by omega), if_neg (fun z => g3 i hi (nI_inj (by omega) (by omega) z)), lt_eq, nI_1]
            · unfold fx_X12_of_69_l76
              rw [gI_nI (by omega) (by decide), rI_n (by omega), (hp'.cl hc).m74, (lvI_some hst).1, ix12, gI_nI (by omega) (by decide), rI_n (by omega), w2 k0 g1, g2, if_pos rfl]
          have lx : fx_X8_placeOf_43 x' (nI c) = some (nI k0) := by
            unfold fx_X8_placeOf_43
            have : loop (fx_X8_placeOf_43_l2 x' (nI c)) llFuel 0 = some (.inr (nI k0)) := by
              refine loop_run0 (fun i => nI i) _ k0 llFuel rfl ?_ ?_ (llF (by omega))
              · intro i hi
                have := mem i (by omega)
                unfold fx_X8_placeOf_43_l2
                rw [e2.2.2.1, if_neg (nle2 (by omega) (by omega) (by omega)), gI_nI (by omega) (by decide), rI_n (by omega), e2.2.2.2.1 i (by omega), if_pos (fun z => g3 i hi (nI_inj (by omega) (by omega) z)), lt_eq, nI_1]
              · unfold fx_X8_placeOf_43_l2
                rw [e2.2.2.1, if_neg (nle2 (by omega) (by omega) g1), gI_nI (by omega) (by decide), rI_n (by omega), e2.2.2.2.1 k0 g1, g2, if_neg (fun z => z rfl)]
            rw [this]; rfl
          rw [lm, Option.bind_some]
          refine ⟨x', m', nI k0, ?_, rfl, e2.q, f2.q⟩
          show bd (fx_X8_arrange_43 x (nI l)) (fun u3 _ => (fx_X8_placeOf_43 u3 (nI c)).bind (fun r4 => some (u3, r4))) = _
          rw [e1, bd_mk, lx]; rfl
        · rw [if_neg (show ¬ ¬ nI 7 = 7 from fun z => z rfl), milesIn_m hp hc (by omega) (by omega), Option.bind_some]
          refine ⟨x, m, nI (miT A l d c), ?_, rfl, QX.refl x, QM.refl m⟩
          show (fx_X10_toDivision_48 x (nI c) (nI l) (nI d)).bind (fun r5 => some (x, r5)) = _
          rw [toDivision_x hp hc (by omega) (by omega)]; rfl
    · rw [q, Option.bind_some, if_neg (show ¬ ¬ (0 : Int32) = 0 from fun z => z rfl), if_neg (show ¬ b = 0 from hj 0 (by decide)), if_neg (show ¬ b = 1 from hj 1 (by decide)), if_neg (show ¬ b = 2 from hj 2 (by decide)), if_neg (show ¬ b = 3 from hj 3 (by decide)), if_neg (show ¬ b = 4 from hj 4 (by decide)), if_neg (show ¬ b = 5 from hj 5 (by decide)), if_neg (show ¬ b = 6 from hj 6 (by decide)), if_neg (show ¬ b = 7 from hj 7 (by decide))]
      exact ⟨x, m, _, rfl, rfl, QX.refl x, QM.refl m⟩
  · rw [p1, p2]; exact ⟨x, m, _, rfl, rfl, QX.refl x, QM.refl m⟩
