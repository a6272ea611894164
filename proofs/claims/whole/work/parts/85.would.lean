/-! where a club would play; moves -/
theorem contains_t {L : List Nat} {c : Nat} (h : c ∈ L) : L.contains c = true := List.contains_iff_mem.mpr h
theorem contains_f {L : List Nat} {c : Nat} (h : c ∉ L) : L.contains c = false := by
  cases q : L.contains c
  · rfl
  · exact absurd (List.contains_iff_mem.mp q) h
theorem levelThen_m {A : Ab} {x u : llMem} (hn : A.nc ≤ 30) (hn2 : A.nl ≤ 4) (h0 : 0 < A.nl) (hr : IRe A x) {c : Nat} (hc : c < A.nc) (hst : ∀ l d, A.st c = some (l, d) → l < A.nl) (hm1 : u.1 69 1 = nI A.nl) (h74 : u.1 74 c = lvI A c) (h77 : u.1 77 (30 + c) = x.1 18 c) (h18 : x.1 18 c = 0 ∨ x.1 18 c = 1) (h92 : u.1 92 c = fl A (upL A x) A.nl c) (h93 : u.1 93 c = fl A (dwnL A x) A.nl c) (h94 : u.1 94 c = b01 ((comL A x).contains c)) : fx_X12_levelThen_69 u (nI c) = some (goalI A x c) := by
  unfold fx_X12_levelThen_69
  rw [show (30 : Int32) + nI c = nI (30 + c) from nI_add 30 _]
  simp only [gI_nI (show c < 30 by omega) (show 30 < 2 ^ 31 by decide), gI_nI (show c < 60 by omega) (show 60 < 2 ^ 31 by decide), gI_nI (show 30 + c < 1020 by omega) (show 1020 < 2 ^ 31 by decide), rI_n (show c < 2 ^ 31 by omega), rI_n (show 30 + c < 2 ^ 31 by omega), h74, h77, h92, h93, h94, hm1]
  have big : ∀ l, l < 4 → ¬ nI l = -2 := fun l hl q => by
    have : l = 0 ∨ l = 1 ∨ l = 2 ∨ l = 3 := by omega
    rcases this with r | r | r | r <;> (rw [r] at q; exact absurd q (by decide))
  unfold goalI gS
  cases hs : A.st c with
  | none =>
    have f1 : ∀ F, fl A F A.nl c = 0 := fun F => by unfold fl; rw [hs]
    have hnr : rs x c = false := by
      cases q : rs x c
      · rfl
      · have := hr c hc (of_decide_eq_true q)
        rw [hs] at this; cases this
    have h18' : x.1 18 c = 0 := by
      rcases h18 with q | q
      · exact q
      · have := hr c hc q
        rw [hs] at this; cases this
    rw [f1, f1, hnr, if_neg (show ¬ false = true by decide)]
    by_cases g : A.gone c = true
    · have e2 : lvI A c = -2 := by unfold lvI; rw [hs]; dsimp only; rw [if_pos g]
      rw [e2, if_pos rfl, if_neg (fun z => by have := (comL_mem z).2.2; rw [g] at this; cases this)]
    · have e2 : lvI A c = -1 := by unfold lvI; rw [hs]; dsimp only; rw [if_neg g]
      rw [e2, if_neg (by decide), h18', if_pos (by decide), if_pos rfl, if_pos rfl]
      by_cases hm : c ∈ comL A x
      · rw [contains_t hm, if_pos hm, if_neg (by decide), pk_m1' h0]
      · rw [contains_f hm, if_neg hm, if_pos (show b01 false = 0 from rfl)]
  | some y =>
    obtain ⟨l, d⟩ := y
    have hl := hst l d hs
    have hnc : c ∉ comL A x := fun z => by have := (comL_mem z).2.1; rw [hs] at this; cases this
    have e2 : lvI A c = nI l := by unfold lvI; rw [hs]
    have f1 : ∀ F, fl A F A.nl c = b01 ((F l).contains c) := fun F => by
      rw [fl_at (l := l) (by rw [hs]; rfl), decide_eq_true hl, Bool.true_and]
    rw [f1, f1, if_neg hnc, e2, if_neg (big l (by omega)), contains_f hnc, if_pos (show b01 false = 0 from rfl)]
    dsimp only
    rw [if_pos hl]
    rcases h18 with q | q
    · have hnr : rs x c = false := decide_eq_false (by rw [q]; decide)
      rw [q, if_pos (show ¬ (0 : Int32) = 1 by decide), hnr, if_neg (show ¬ false = true by decide)]
      by_cases m1 : c ∈ upL A x l
      · rw [contains_t m1, if_neg (show ¬ b01 true = 0 by decide), if_pos m1, pk_m1' (upL_mem m1).1]
      · rw [contains_f m1, if_pos (show b01 false = 0 from rfl), if_neg m1]
        by_cases m2 : c ∈ dwnL A x l
        · rw [contains_t m2, if_neg (show ¬ b01 true = 0 by decide), if_pos m2, nI_1]
        · rw [contains_f m2, if_pos (show b01 false = 0 from rfl), if_neg m2]
    · have hnr : rs x c = true := decide_eq_true q
      rw [q, if_neg (show ¬ ¬ (1 : Int32) = 1 from fun z => z rfl), hnr, if_pos rfl]
theorem canE_nl {A : Ab} {x : llMem} (h : canE A x = true) : 0 < A.nl := by
  unfold canE at h
  rw [Bool.and_eq_true, Bool.and_eq_true] at h
  exact of_decide_eq_true h.1.1
theorem EndM.then {A : Ab} {x m m' : llMem} {mc : Nat} {ml : Nat → Nat × Nat} (h : EndM A x m m') (hp : IPyr A x m) (hs : ISea A x m mc ml) (hr : IRe A x) (h0 : 0 < A.nl) {c : Nat} (hc : c < A.nc) : fx_X12_levelThen_69 m' (nI c) = some (goalI A x c) := by
  have p' := hp.smM h.1 (fun c hc => by simp at hc; omega)
  have s' := hs.smM h.1 (fun c hc => by simp at hc; omega)
  obtain ⟨f1, f2, f3, f4⟩ := h.2.2 c hc
  exact levelThen_m hp.ncB hp.nlB h0 hr hc (fun l d e => ((hp.cl hc).2.2.2.2.2.2.2.2.2.2.2.2.2 l d e).1) p'.m1 (p'.cl hc).m74 (s'.1 c hc).2.2.2.2.2.1 (hs.1 c hc).2.1 f1 f2 f3
theorem wei_q {x u : llMem} (h : Sm [43, 44, 45, 46, 64, 65, 66, 67, 68] x u) (h2 : u.1 43 6 = x.1 43 6) : QX x u := by
  refine ⟨fun c hc => ?_, h2⟩
  have : c ∉ [43, 44, 45, 46, 64, 65, 66, 67, 68] := fun q => by simp at q; omega
  exact ⟨(h c this).1, (h c this).2.1⟩
theorem end_q {m m' : llMem} (h : Sm [81, 82, 83, 84, 85, 86, 87, 92, 93, 94, 95, 96, 97, 98, 99] m m') : QM m m' := QM.sm h (fun c hc => by simp at hc; omega)
theorem would_S (a : Int32) : StepW (fun u => fx_X11_would_0 u a) (fun u => fx_X12_would_69 u a) := by
  rintro x m ⟨A, mc, ml, k, cj, h⟩
  have hp := h.1
  have hs := h.2.1
  have hr := h.2.2.2.2.2.2.2.2
  have hn := hp.ncB
  dsimp only
  unfold fx_X11_would_0 fx_X12_would_69
  rcases isClub_B hp a with ⟨c, hc, rfl, p1, p2⟩ | ⟨p1, p2⟩
  · obtain ⟨x', a1, a2, a3, a4⟩ := weigh_x hp hs hr
    obtain ⟨m', b1, b2, b3⟩ := ends_m hp hs
    rw [p1, p2, Option.bind_some, Option.bind_some, if_neg (show ¬ (1 : Int32) = 0 by decide), if_neg (show ¬ (1 : Int32) = 0 by decide), a1, bd_mk, b1, bd_mk]
    cases q : canE A x
    · rw [if_pos (show b01 false = 0 from rfl), if_pos (show b01 false = 0 from rfl)]
      exact ⟨x', m', _, rfl, rfl, wei_q a2 a3, end_q b2⟩
    · rw [if_neg (show ¬ b01 true = 0 by decide), if_neg (show ¬ b01 true = 0 by decide), gI_nI (by omega) (by decide), rI_n (by omega), (a4 q).2 c hc, (b3 (canE_nl q)).then hp hs hr (canE_nl q) hc]
      exact ⟨x', m', _, rfl, rfl, wei_q a2 a3, end_q b2⟩
  · rw [p1, p2, Option.bind_some, Option.bind_some, if_pos rfl, if_pos rfl]
    exact ⟨x, m, _, rfl, rfl, QX.refl _, QM.refl _⟩
/-! a scan for the a-th of some -/
theorem sub_filter {S L : List Nat} (h : S.Sublist L) (hn : L.Nodup) : L.filter (fun c => S.contains c) = S := by
  induction h with
  | slnil => rfl
  | @cons S L a h ih =>
    rw [List.nodup_cons] at hn
    have : a ∉ S := fun q => hn.1 (h.subset q)
    rw [List.filter_cons_of_neg (by rw [contains_f this]; decide), ih hn.2]
  | @cons_cons S L a h ih =>
    rw [List.nodup_cons] at hn
    rw [List.filter_cons_of_pos (p := fun c => (a :: S).contains c) (contains_t (List.mem_cons_self ..))]
    congr 1
    rw [← ih hn.2]
    refine List.filter_congr (fun c hc => ?_)
    have : c ≠ a := fun q => hn.1 (q ▸ hc)
    rw [ih hn.2, List.contains_eq_mem, List.contains_eq_mem, decide_eq_decide, List.mem_cons]
    exact ⟨fun z => by rcases z with z | z; exact absurd z this; exact z, Or.inr⟩
theorem scan {body : Int32 × Int32 → Option ((Int32 × Int32) ⊕ (Int32 ⊕ (llMem × Int32)))} (T : List Nat) (P : Nat → Bool) (u : llMem) (a2 : Int32) (hT : T.length ≤ 30)
    (h1 : ∀ a i, i < T.length → body (nI a, nI i) = if P (T.getD i 0) = true then (if nI a = a2 then some (.inr (.inr (u, nI (T.getD i 0)))) else some (.inl (nI (a + 1), nI (i + 1)))) else some (.inl (nI a, nI (i + 1))))
    (h2 : ∀ a, body (nI a, nI T.length) = some (.inr (.inl (nI a)))) :
    (∃ j, j < (T.filter P).length ∧ a2 = nI j ∧ loop body llFuel (0, 0) = some (.inr (u, nI ((T.filter P).getD j 0)))) ∨ ((∀ j, j < (T.filter P).length → a2 ≠ nI j) ∧ loop body llFuel (0, 0) = some (.inl (nI (T.filter P).length))) := by
  have spl : ∀ i, T.filter P = (T.take i).filter P ++ (T.drop i).filter P := fun i => by rw [← List.filter_append, List.take_append_drop]
  obtain ⟨e, q1, q2⟩ := loop_meas (body := body) (fun s => ∃ i, i ≤ T.length ∧ s = (nI ((T.take i).filter P).length, nI i) ∧ ∀ j, j < ((T.take i).filter P).length → a2 ≠ nI j) (fun s => T.length - s.2.toNatClampNeg) (fun e => match e with
      | .inr (u', r) => ∃ j, j < (T.filter P).length ∧ a2 = nI j ∧ u' = u ∧ r = nI ((T.filter P).getD j 0)
      | .inl r => (∀ j, j < (T.filter P).length → a2 ≠ nI j) ∧ r = nI (T.filter P).length) llFuel (0, 0) ⟨0, by omega, rfl, fun j hj => by simp at hj⟩ (by
    rintro s ⟨i, hi, rfl, hne⟩
    by_cases e : i = T.length
    · subst e
      rw [h2]
      rw [List.take_length] at hne ⊢
      exact Or.inr ⟨_, rfl, hne, rfl⟩
    · have hi' : i < T.length := by omega
      have meas : ∀ y : Int32, T.length - ((y, nI (i + 1)) : Int32 × Int32).2.toNatClampNeg < T.length - ((nI ((T.take i).filter P).length, nI i) : Int32 × Int32).2.toNatClampNeg := fun y => by
        dsimp only
        rw [nI_clamp (by omega), nI_clamp (by omega)]; omega
      rw [h1 _ _ hi']
      cases q : P (T.getD i 0)
      · rw [if_neg (by decide)]
        have ft : (T.take (i + 1)).filter P = (T.take i).filter P := by
          rw [take_s hi', List.filter_append, List.filter_cons_of_neg (by rw [q]; decide), List.filter_nil, List.append_nil]
        exact Or.inl ⟨_, rfl, ⟨i + 1, by omega, by rw [ft], by rw [ft]; exact hne⟩, meas _⟩
      · rw [if_pos rfl]
        have ft : (T.take (i + 1)).filter P = (T.take i).filter P ++ [T.getD i 0] := by
          rw [take_s hi', List.filter_append, List.filter_cons_of_pos q, List.filter_nil]
        by_cases e2 : nI ((T.take i).filter P).length = a2
        · rw [if_pos e2]
          refine Or.inr ⟨_, rfl, ((T.take i).filter P).length, ?_, e2.symm, rfl, ?_⟩
          · rw [spl (i + 1), ft, List.length_append, List.length_append, List.length_singleton]; omega
          · rw [spl (i + 1), ft, getD_left (by rw [List.length_append, List.length_singleton]; omega), getD_last]
        · rw [if_neg e2]
          refine Or.inl ⟨_, rfl, ⟨i + 1, by omega, by rw [ft, List.length_append, List.length_singleton], fun j hj => ?_⟩, meas _⟩
          rw [ft, List.length_append, List.length_singleton] at hj
          by_cases ej : j = ((T.take i).filter P).length
          · rw [ej]; exact fun z => e2 z.symm
          · exact hne j (by omega)) (by show T.length - (0 : Int32).toNatClampNeg < llFuel; exact llF (by omega))
  cases e with
  | inl r =>
    obtain ⟨z1, rfl⟩ := q2
    exact Or.inr ⟨z1, q1⟩
  | inr v =>
    obtain ⟨u', r⟩ := v
    obtain ⟨j, z1, z2, rfl, rfl⟩ := q2
    exact Or.inl ⟨j, z1, z2, q1⟩
