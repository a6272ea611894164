/-! close: the new pyramid stands, divisions aside -/
theorem py0_of {A B : Ab} {x m x' m' : llMem} (e1 : B.nl = A.nl) (e2 : B.nc = A.nc) (e3 : B.dv = A.dv) (e4 : B.sz = A.sz) (e5 : B.dn = A.dn) (e6 : B.nd = A.nd) (e7 : B.cx = A.cx) (e8 : B.cy = A.cy) (e9 : B.ws = A.ws) (e10 : B.mi = A.mi) (hful : FullSt A.nl A.nc A.dv A.sz B.st) (hst : ∀ c l d, c < A.nc → B.st c = some (l, d) → l < A.nl ∧ d < A.dv l) (hp : IPyr A x m) (hx : ∀ c, c ∈ [3, 4, 5, 6, 7, 8, 9, 10, 49] → x'.1 c = x.1 c ∧ x'.2.1 c = x.2.1 c) (h12 : ∀ c, c < A.nc → x'.1 12 c = lvI B c) (hm : ∀ c, c ∈ [70, 71, 72, 73] → m'.1 c = m.1 c ∧ m'.2.1 c = m.2.1 c) (h74 : ∀ c, c < A.nc → m'.1 74 c = lvI B c) (h1 : m'.1 69 1 = m.1 69 1) (h9 : m'.1 69 9 = m.1 69 9) : IPy0 B x' m' := by
  obtain ⟨a1, a2, a3, a4, a5, a6, a7, a8, a9, a10⟩ := hp
  have x3 := (hx 3 (by decide)).1
  have x4 := (hx 4 (by decide)).1
  have x5 := (hx 5 (by decide)).1
  have x6 := (hx 6 (by decide)).1
  have x7 := (hx 7 (by decide)).1
  have x8 := (hx 8 (by decide)).2
  have x9 := (hx 9 (by decide)).1
  have x10 := (hx 10 (by decide)).1
  have x49 := (hx 49 (by decide)).1
  have m70 := (hm 70 (by decide)).1
  have m71 := (hm 71 (by decide)).2
  have m72 := (hm 72 (by decide)).1
  have m73 := (hm 73 (by decide)).1
  unfold IPy0
  refine ⟨by rw [e1]; exact a1, ?_, ?_, fun l hl => ?_, by rw [e2]; exact a5, ?_, ?_, fun c hcn => ?_, by rw [e1, e2, e3, e4]; exact hful, ?_⟩
  · rw [SA0_ne (by decide), x3, e1]; exact a2
  · rw [SA0_ne (by decide), h1, e1]; exact a3
  · rw [e1] at hl
    have := a4 l hl
    unfold ILv at this ⊢
    rw [SA0_ne (by decide), SA0_ne (by decide), SA0_ne (by decide), SA0_ne (by decide), SA0_ne (by decide), x4, x5, x6, x7, m70, e3, e4, e5, e6]
    exact this
  · rw [SA0_ne (by decide), x3, e2]; exact a6
  · rw [SA0_ne (by decide), h9, e2]; exact a7
  · rw [e2] at hcn
    have q := a8 c hcn
    have e13 : (llSA x' 13 (dvI B)).1 13 = dvI B := by simp [llSA]
    have e75 : (llSA m' 75 (dvI B)).1 75 = dvI B := by simp [llSA]
    have y8 : (llSA x' 13 (dvI B)).2.1 8 = x'.2.1 8 := rfl
    have y71 : (llSA m' 75 (dvI B)).2.1 71 = m'.2.1 71 := rfl
    unfold ICl
    rw [e13, e75, y8, y71, SA0_ne (by decide), SA0_ne (by decide), SA0_ne (by decide), SA0_ne (by decide), SA0_ne (by decide), SA0_ne (by decide), x8, x9, x10, m71, m72, m73, h12 c hcn, h74 c hcn, e7, e8, e9]
    refine ⟨q.1, q.2.1, q.2.2.1, q.2.2.2.1, q.2.2.2.2.1, q.2.2.2.2.2.1, q.2.2.2.2.2.2.1, q.2.2.2.2.2.2.2.1, q.2.2.2.2.2.2.2.2.1, rfl, rfl, rfl, rfl, fun l d e => ?_⟩
    rw [e1, e3]
    exact hst c l d hcn e
  · unfold IMi at a10 ⊢
    rw [SA0_ne (by decide), x49, e2, e7, e8, e10]; exact a10
theorem nx_py0 {A : Ab} {x m x' m' : llMem} (hp : IPyr A x m) (hc : canE A x = true) (hx : ∀ c, c ∈ [3, 4, 5, 6, 7, 8, 9, 10, 49] → x'.1 c = x.1 c ∧ x'.2.1 c = x.2.1 c) (h12 : ∀ c, c < A.nc → x'.1 12 c = goalI A x c) (hm : ∀ c, c ∈ [70, 71, 72, 73] → m'.1 c = m.1 c ∧ m'.2.1 c = m.2.1 c) (h74 : ∀ c, c < A.nc → m'.1 74 c = goalI A x c) (h1 : m'.1 69 1 = m.1 69 1) (h9 : m'.1 69 9 = m.1 69 9) : IPy0 (nxB A x) x' m' := by
  have lv : ∀ c, c < A.nc → lvI (nxB A x) c = goalI A x c := fun c hcn => nx_lv (fun l d e => ((hp.cl hcn).2.2.2.2.2.2.2.2.2.2.2.2.2 l d e).1)
  have st := fun c l d hcn => nx_stB (c := c) (l := l) (d := d) hp hc hcn
  have fu := nx_full hp hc
  have e1 : (nxB A x).nl = A.nl := rfl
  have e2 : (nxB A x).nc = A.nc := rfl
  have e3 : (nxB A x).dv = A.dv := rfl
  have e4 : (nxB A x).sz = A.sz := rfl
  have e5 : (nxB A x).dn = A.dn := rfl
  have e6 : (nxB A x).nd = A.nd := rfl
  have e7 : (nxB A x).cx = A.cx := rfl
  have e8 : (nxB A x).cy = A.cy := rfl
  have e9 : (nxB A x).ws = A.ws := rfl
  have e10 : (nxB A x).mi = A.mi := rfl
  generalize nxB A x = B at *
  exact py0_of e1 e2 e3 e4 e5 e6 e7 e8 e9 e10 fu st hp hx (fun c hcn => by rw [lv c hcn]; exact h12 c hcn) hm (fun c hcn => by rw [lv c hcn]; exact h74 c hcn) h1 h9
theorem IPy0.full {A : Ab} {x m : llMem} (h : IPy0 A x m) (h13 : ∀ c, c < A.nc → x.1 13 c = dvI A c) (h75 : ∀ c, c < A.nc → m.1 75 c = dvI A c) : IPyr A x m := by
  refine ⟨h.nlB, h.x30, h.m1, fun l hl => h.lv hl, h.ncB, h.x35, h.m9, fun c hc => ?_, h.p.2.2.2.2.2.2.2.2.1, ?_⟩
  · have q := h.p.cl hc
    have e13 : (llSA x 13 (dvI A)).1 13 = dvI A := by simp [llSA]
    have e75 : (llSA m 75 (dvI A)).1 75 = dvI A := by simp [llSA]
    unfold ICl at q ⊢
    rw [e13, e75, SA0_ne (by decide), SA0_ne (by decide), SA0_ne (by decide), SA0_ne (by decide), SA0_ne (by decide), SA0_ne (by decide)] at q
    exact ⟨q.1, q.2.1, q.2.2.1, q.2.2.2.1, q.2.2.2.2.1, q.2.2.2.2.2.1, q.2.2.2.2.2.2.1, q.2.2.2.2.2.2.2.1, q.2.2.2.2.2.2.2.2.1, q.2.2.2.2.2.2.2.2.2.1, q.2.2.2.2.2.2.2.2.2.2.1, h13 c hc, h75 c hc, q.2.2.2.2.2.2.2.2.2.2.2.2.2⟩
  · have q := h.p.2.2.2.2.2.2.2.2.2
    unfold IMi at q ⊢
    rw [SA0_ne (by decide)] at q
    exact q
/-- what was found of a level stays found, where none came and none left -/
theorem nx_ICa {A : Ab} {x m u : llMem} (hp : IPyr A x m) (hc : canE A x = true) (hca : ICa A x) (h60 : u.1 60 = x.1 60) (h54 : u.1 54 = x.1 54) (h55 : u.1 55 = x.1 55) (h53 : ∀ l, u.1 53 l = 0 ∨ u.1 53 l = x.1 53 l) (hz : ∀ c, c < A.nc → ¬ goalI A x c = lvI A c → ∀ l, l < A.nl → (goalI A x c = nI l ∨ lvI A c = nI l) → u.1 53 l = 0) : ICa (nxB A x) u := by
  have hn2 := hp.nlB
  refine ⟨by rw [h60]; exact hca.1, fun l hl => ?_⟩
  have hlA : l < A.nl := hl
  by_cases z : u.1 53 l = 0
  · exact Or.inl z
  · refine Or.inr ?_
    have z1 : ¬ x.1 53 l = 0 := fun q => z (zz (h53 l) q)
    obtain ⟨P, b1, b2, b3⟩ := hca.at hlA z1
    have hrow : rowOf (nxB A x) l = rowOf A l := by
      rw [row_nxB]
      refine List.filter_congr (fun c hcn => ?_)
      have hcA := List.mem_range.mp hcn
      have hst : ∀ l d, A.st c = some (l, d) → l < A.nl := fun l d e => ((hp.cl hcA).2.2.2.2.2.2.2.2.2.2.2.2.2 l d e).1
      rw [decide_eq_decide]
      have e1 : lvI A c = nI l ↔ (A.st c).map Prod.fst = some l := lvI_eq hp hcA (by omega)
      have e2 : goalI A x c = nI l ↔ nxL A x c = some l := by
        rw [← nx_lv (x := x) hst]
        unfold lvI
        rw [nxB_st]
        cases q : nxL A x c with
        | none =>
          refine ⟨fun w => ?_, fun w => by cases w⟩
          exfalso
          have : ∀ b : Bool, ¬ (if b = true then (-2 : Int32) else -1) = nI l := fun b => by
            have hl4 : l = 0 ∨ l = 1 ∨ l = 2 ∨ l = 3 := by omega
            rcases hl4 with r | r | r | r <;> rw [r] <;> cases b <;> decide
          exact this _ w
        | some k =>
          have hk := nx_lvB (canE_nl hc) hst q
          show nI k = nI l ↔ some k = some l
          rw [nI_eq_iff (by omega) (by omega)]
          exact ⟨fun w => by rw [w], fun w => by injection w⟩
      rw [← e1, ← e2]
      by_cases g : goalI A x c = lvI A c
      · rw [g]
      · exact ⟨fun w => absurd (hz c hcA g l hlA (Or.inl w)) z, fun w => absurd (hz c hcA g l hlA (Or.inr w)) z⟩
    obtain ⟨r1, r2⟩ := bestP_congr (A := nxB A x) (B := A) hrow rfl rfl rfl
    refine ⟨P, by rw [r1]; exact b1, ?_, fun a ha => ?_⟩
    · rw [h54, r2]; exact b2
    · rw [h55, hrow]; exact b3 a ha
theorem nx_hd {A : Ab} {x m : llMem} (hp : IPyr A x m) (hc : canE A x = true) : ∀ c l d, c < (nxB A x).nc → (nxB A x).st c = some (l, d) → l < (nxB A x).nl ∧ ∃ a P, a < (nxB A x).dv l * (nxB A x).sz l ∧ bestP (nxB A x) l = some P ∧ (rowOf (nxB A x) l).getD a 0 = c ∧ d = ixP P a := by
  intro c l d hcn hs
  have hcA : c < A.nc := hcn
  obtain ⟨hl, hd⟩ := nx_stB hp hc hcA hs
  obtain ⟨P, b1, b2⟩ := nx_best (x := x) hp hl
  have hL : nxL A x c = some l := by
    rw [nxB_st] at hs
    cases q : nxL A x c with
    | none => rw [q] at hs; cases hs
    | some k =>
      rw [q] at hs
      injection hs with hs
      injection hs with h1 h2
      rw [h1]
  obtain ⟨a, ha, ea⟩ := getD_el (nxR_mem.mpr ⟨hcA, hL⟩)
  have hP : bestP (nxB A x) l = some P := by rw [best_nx]; exact b1
  refine ⟨hl, a, P, ?_, hP, ?_, ?_⟩
  · have := nx_len hp hc hl
    rw [this] at ha; exact ha
  · rw [row_nxB]; exact ea
  · have := nx_dv hP ha
    rw [ea, hs] at this
    injection this with this
    injection this with h1 h2
