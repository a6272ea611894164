/-! what grade a club needs -/
theorem ordL_of {A : Ab} {x y : llMem} (h : ∀ i, 20 ≤ i → i ≤ 25 → y.1 i = x.1 i) (l : Nat) : ordL A y l = ordL A x l := by
  have e : bef A y = bef A x := by
    have h0 : y.1 (21 + 0) = x.1 (21 + 0) := h 21 (by decide) (by decide)
    have h20 := h 20 (by decide) (by decide)
    have h21 := h 21 (by decide) (by decide)
    have h22 := h 22 (by decide) (by decide)
    have h23 := h 23 (by decide) (by decide)
    have h24 := h 24 (by decide) (by decide)
    have h25 := h 25 (by decide) (by decide)
    have eP : ptI y = ptI x := by
      funext c; unfold ptI; simp only [h20, h21, h22, h23, h24, h25]
    have eA : ahd y = ahd x := by
      funext a b; unfold ahd PI DI GI; rw [eP, h24, h25]
    have eS : Sn y 0 = Sn x 0 := by
      funext c; unfold Sn; rw [h0]
    have eR : rkN A y = rkN A x := by
      funext c; unfold rkN rkP; rw [eA]
    have eAp : apI y = apI x := by
      funext c; unfold apI; rw [eS, eP]
    have eM : mxN y = mxN x := by
      funext c; unfold mxN; rw [eS]
    funext a b
    unfold bef Xc
    rw [eR, eAp, eM]
  unfold ordL
  rw [e]
theorem end_of {A : Ab} {x y : llMem} (h1 : ∀ l, ordL A y l = ordL A x l) (h2 : rs y = rs x) (h3 : mayB A y = mayB A x) : (∀ l, upL A y l = upL A x l) ∧ canE A y = canE A x := by
  have w : wanB A y = wanB A x := by funext k; unfold wanB; rw [h2]
  have n : mayN A y = mayN A x := by funext k; unfold mayN; rw [h3]
  have r : riN A y = riN A x := by funext l; unfold riN; rw [w, n]
  have u : upL A y = upL A x := by funext l; unfold upL upQ; rw [h1, h2, h3, r]
  have f : falN A y = falN A x := by funext l; unfold falN; rw [r, w]
  have s : styL A y = styL A x := by funext l; unfold styL; rw [h1, h2, u]
  have c : cL A y = cL A x := by funext l; unfold cL; rw [u, r, f, s]
  refine ⟨fun l => by rw [u], ?_⟩
  unfold canE comL
  rw [c, w]
def riB (A : Ab) (x : llMem) (c l g : Nat) : Bool := canE A (llSI x 11 c (nI g)) && (upL A (llSI x 11 c (nI g)) l).contains c
theorem mayB_of {A : Ab} {x y : llMem} (h18 : y.1 18 = x.1 18) (h19 : y.1 19 = x.1 19) (h : ∀ c l d, A.st c = some (l, d) → (y.1 11 c < nI (A.nd (l - 1)) ↔ x.1 11 c < nI (A.nd (l - 1)))) : mayB A y = mayB A x := by
  funext c
  unfold mayB
  cases hs : A.st c with
  | none => rfl
  | some z =>
    obtain ⟨l, d⟩ := z
    dsimp only
    rw [decide_eq_decide, h18, h19, h c l d hs]

theorem riB_of {A : Ab} {x y : llMem} {c l g g' : Nat} (h : ∀ i, 18 ≤ i → i ≤ 25 → y.1 i = x.1 i) (h11 : ∀ o, o ≠ c → y.1 11 o = x.1 11 o) (hg : ∀ l d, A.st c = some (l, d) → (nI g' < nI (A.nd (l - 1)) ↔ nI g < nI (A.nd (l - 1)))) : riB A y c l g' = riB A x c l g := by
  have e : ∀ i, 18 ≤ i → i ≤ 25 → (llSI y 11 c (nI g')).1 i = (llSI x 11 c (nI g)).1 i := fun i h1 h2 => by
    rw [SI_ne (by omega), SI_ne (by omega)]; exact h i h1 h2
  have r : rs (llSI y 11 c (nI g')) = rs (llSI x 11 c (nI g)) := by
    funext o; unfold rs; rw [e 18 (by decide) (by decide)]
  have mb := mayB_of (A := A) (e 18 (by decide) (by decide)) (e 19 (by decide) (by decide)) (fun o l d hs => by
    rw [SI_same, SI_same]
    by_cases ec : o = c
    · subst ec; rw [upd_same, upd_same]; exact hg l d hs
    · rw [upd_ne ec, upd_ne ec, h11 o ec])
  obtain ⟨q1, q2⟩ := end_of (fun l => ordL_of (fun i h1 h2 => e i (by omega) (by omega)) l) r mb
  unfold riB
  rw [q1, q2]
/-- with another grade -/
theorem grade_inv {A : Ab} {x m u : llMem} {mc : Nat} {ml : Nat → Nat × Nat} (hp : IPyr A x m) (hs : ISea A x m mc ml) (hr : IRe A x) {c g : Nat} (hc : c < A.nc) (hg : g ≤ 9) (h70 : ∀ i, i ∈ [70, 71, 72, 73, 74, 75] → u.1 i = m.1 i ∧ u.2.1 i = m.2.1 i) (h1 : u.1 69 1 = m.1 69 1) (h9 : u.1 69 9 = m.1 69 9) (h77 : u.1 77 = upd (m.1 77) c (nI g)) : IPyr A (llSI x 11 c (nI g)) u ∧ ISea A (llSI x 11 c (nI g)) u mc ml ∧ IRe A (llSI x 11 c (nI g)) := by
  have hn := hp.ncB
  have ne : ∀ i, i ≠ 11 → (llSI x 11 c (nI g)).1 i = x.1 i := fun i hi => SI_ne hi
  refine ⟨hp.of (fun i hi => ⟨ne i (by simp only [List.mem_cons, List.not_mem_nil, or_false] at hi; omega), rfl⟩) h70 h1 h9, ⟨fun o ho => ?_, fun k hk => ?_, ?_, ?_⟩, ?_⟩
  · have w := hs.1 o ho
    unfold INw at w ⊢
    rw [ne 18 (by decide), ne 19 (by decide), ne 20 (by decide), h77, SI_same, upd_ne (show 30 + o ≠ c by omega), upd_ne (show 60 + o ≠ c by omega), upd_ne (show 90 + o ≠ c by omega)]
    by_cases ec : o = c
    · rw [ec, upd_same, upd_same]
      rw [ec] at w
      exact ⟨⟨g, hg, rfl⟩, w.2.1, w.2.2.1, w.2.2.2.1, rfl, w.2.2.2.2.2⟩
    · rw [upd_ne ec, upd_ne ec]
      exact w
  · rw [h77, upd_ne (by omega), ne 17 (by decide)]; exact hs.2.1 k hk
  · have w := hs.2.2.1
    unfold IMa at w ⊢
    rw [ne 14 (by decide), ne 15 (by decide), ne 16 (by decide), ne 17 (by decide)]
    exact w
  · have w := hs.2.2.2
    unfold ISu at w ⊢
    rw [ne 17 (by decide), ne 21 (by decide), ne 22 (by decide), ne 23 (by decide), ne 24 (by decide), ne 25 (by decide)]
    exact w
  · unfold IRe at hr ⊢
    rw [ne 18 (by decide)]; exact hr
theorem goal_up {A : Ab} {x m : llMem} {mc : Nat} {ml : Nat → Nat × Nat} (hp : IPyr A x m) (hs : ISea A x m mc ml) {c l d : Nat} (hc : c < A.nc) (hst : A.st c = some (l, d)) (hl1 : 1 ≤ l) (hl : l < A.nl) : goalI A x c = nI (l - 1) ↔ c ∈ upL A x l := by
  have hn2 := hp.nlB
  unfold goalI gS
  rw [if_neg (fun z => by have := (comL_mem z).2.1; rw [hst] at this; cases this), hst]
  dsimp only
  rw [if_pos hl]
  constructor
  · intro h
    by_cases m1 : c ∈ upL A x l
    · exact m1
    · rw [if_neg m1] at h
      exfalso
      cases q : rs x c
      · rw [q, if_neg (by decide)] at h
        by_cases m2 : c ∈ dwnL A x l
        · rw [if_pos m2] at h
          have := nI_inj (by omega) (by omega) h
          omega
        · rw [if_neg m2] at h
          have := nI_inj (by omega) (by omega) h
          omega
      · rw [q, if_pos rfl] at h
        have : l = 1 ∨ l = 2 ∨ l = 3 := by omega
        rcases this with r | r | r <;> (rw [r] at h; exact absurd h (by decide))
  · intro m1
    rw [(upL_mem m1).2.2, if_neg (by decide), if_pos m1]
theorem upd_back {f : Nat → Int32} {c : Nat} {v : Int32} : upd (upd f c v) c (f c) = f := by
  funext k
  by_cases e : k = c
  · rw [e, upd_same]
  · rw [upd_ne e, upd_ne e]
theorem risesWith_x {A : Ab} {x m : llMem} {mc : Nat} {ml : Nat → Nat × Nat} (hp : IPyr A x m) (hs : ISea A x m mc ml) (hr : IRe A x) {c l d g : Nat} (hc : c < A.nc) (hst : A.st c = some (l, d)) (hl1 : 1 ≤ l) (hl : l < A.nl) (hg : g ≤ 9) : ∃ x', fx_X3_risesWith_63 x (nI c) (nI g) = some (x', b01 (riB A x c l g)) ∧ QX x x' := by
  have hn := hp.ncB
  obtain ⟨p1, p2, p3⟩ := grade_inv (u := llSI m 77 c (nI g)) hp hs hr hc hg (fun i hi => ⟨SI_ne (by simp only [List.mem_cons, List.not_mem_nil, or_false] at hi; omega), rfl⟩) (by rw [SI_ne (by decide)]) (by rw [SI_ne (by decide)]) (by rw [SI_same])
  obtain ⟨u, a1, a2, a3, a4⟩ := weigh_x p1 p2 p3
  unfold fx_X3_risesWith_63 fx_X3_risesWith_63_j51 fx_X3_risesWith_63_j52
  simp only [gI_nI (show c < 30 by omega) (show 30 < 2 ^ 31 by decide), rI_n (show c < 2 ^ 31 by omega), nI_clamp (show c < 2 ^ 31 by omega), lt_eq]
  rw [a1, bd_mk]
  have q0 : QX x (llSI u 11 c (x.1 11 c)) := by
    have w := wei_q a2 a3
    refine ⟨fun i hi => ?_, ?_⟩
    · by_cases e : i = 11
      · subst e
        refine ⟨?_, ?_⟩
        · rw [SI_same, (w.1 11 (by decide)).1, SI_same]; exact upd_back
        · show u.2.1 11 = x.2.1 11
          exact (w.1 11 (by decide)).2
      · refine ⟨?_, ?_⟩
        · rw [SI_ne e, (w.1 i hi).1, SI_ne e]
        · show u.2.1 i = x.2.1 i
          exact (w.1 i hi).2
    · rw [SI_ne (by decide), w.2, SI_ne (by decide)]
  have e12 : u.1 12 c = nI l := by
    rw [(a2 12 (by decide)).1, SI_ne (by decide), (hp.cl hc).x12]; unfold lvI; rw [hst]
  unfold riB
  cases q : canE A (llSI x 11 c (nI g))
  · rw [if_pos (show b01 false = 0 from rfl), gB_0, Bool.false_and]
    exact ⟨_, rfl, q0⟩
  · rw [if_neg (show ¬ b01 true = 0 by decide), (a4 q).2 c hc, e12, pk_m1' (by omega), Bool.true_and]
    have gu := goal_up p1 p2 hc hst hl1 hl
    by_cases m1 : c ∈ upL A (llSI x 11 c (nI g)) l
    · rw [if_neg (fun z => z (gu.mpr m1)), gB_1, contains_t m1]
      exact ⟨_, rfl, q0⟩
    · rw [if_pos (fun z => m1 (gu.mp z)), gB_0, contains_f m1]
      exact ⟨_, rfl, q0⟩
