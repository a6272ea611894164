/-! a pyramid whose divisions aren't laid yet (while a season closes): cells 13 and 75 aside. -/
def IPy0 (A : Ab) (x m : llMem) : Prop := IPyr A (llSA x 13 (dvI A)) (llSA m 75 (dvI A))
theorem SA0_ne {u : llMem} {c i : Nat} {f : Nat → Int32} (h : i ≠ c) : (llSA u c f).1 i = u.1 i := (llSA_ne i h).1
theorem IPy0.p {A : Ab} {x m : llMem} (h : IPy0 A x m) : IPyr A (llSA x 13 (dvI A)) (llSA m 75 (dvI A)) := h
theorem IPyr.py0 {A : Ab} {x m : llMem} (h : IPyr A x m) : IPy0 A x m := by
  unfold IPy0
  obtain ⟨a1, a2, a3, a4, a5, a6, a7, a8, a9, a10⟩ := h
  refine ⟨a1, by rw [SA0_ne (by decide)]; exact a2, by rw [SA0_ne (by decide)]; exact a3, fun l hl => ?_, a5, by rw [SA0_ne (by decide)]; exact a6, by rw [SA0_ne (by decide)]; exact a7, fun c hc => ?_, a9, ?_⟩
  · have := a4 l hl
    unfold ILv at this ⊢
    rw [SA0_ne (by decide), SA0_ne (by decide), SA0_ne (by decide), SA0_ne (by decide), SA0_ne (by decide)]; exact this
  · have := a8 c hc
    unfold ICl at this ⊢
    have e13 : (llSA x 13 (dvI A)).1 13 = dvI A := by simp [llSA]
    have e75 : (llSA m 75 (dvI A)).1 75 = dvI A := by simp [llSA]
    rw [e13, e75, SA0_ne (by decide), SA0_ne (by decide), SA0_ne (by decide), SA0_ne (by decide), SA0_ne (by decide), SA0_ne (by decide)]
    exact ⟨this.1, this.2.1, this.2.2.1, this.2.2.2.1, this.2.2.2.2.1, this.2.2.2.2.2.1, this.2.2.2.2.2.2.1, this.2.2.2.2.2.2.2.1, this.2.2.2.2.2.2.2.2.1, this.2.2.2.2.2.2.2.2.2.1, this.2.2.2.2.2.2.2.2.2.2.1, rfl, rfl, this.2.2.2.2.2.2.2.2.2.2.2.2.2⟩
  · unfold IMi at a10 ⊢
    rw [SA0_ne (by decide)]; exact a10
theorem IPy0.ncB {A : Ab} {x m : llMem} (h : IPy0 A x m) : A.nc ≤ 30 := h.p.ncB
theorem IPy0.nlB {A : Ab} {x m : llMem} (h : IPy0 A x m) : A.nl ≤ 4 := h.p.nlB
theorem IPy0.lv {A : Ab} {x m : llMem} (h : IPy0 A x m) {l : Nat} (hl : l < A.nl) : ILv A x m l := by
  have := h.p.lv hl
  unfold ILv at this ⊢
  rw [SA0_ne (by decide), SA0_ne (by decide), SA0_ne (by decide), SA0_ne (by decide), SA0_ne (by decide)] at this
  exact this
theorem IPy0.x35 {A : Ab} {x m : llMem} (h : IPy0 A x m) : x.1 3 5 = nI A.nc := by have := h.p.x35; rw [SA0_ne (by decide)] at this; exact this
theorem IPy0.x30 {A : Ab} {x m : llMem} (h : IPy0 A x m) : x.1 3 0 = nI A.nl := by have := h.p.x30; rw [SA0_ne (by decide)] at this; exact this
theorem IPy0.m9 {A : Ab} {x m : llMem} (h : IPy0 A x m) : m.1 69 9 = nI A.nc := by have := h.p.m9; rw [SA0_ne (by decide)] at this; exact this
theorem IPy0.m1 {A : Ab} {x m : llMem} (h : IPy0 A x m) : m.1 69 1 = nI A.nl := by have := h.p.m1; rw [SA0_ne (by decide)] at this; exact this
theorem IPy0.x12 {A : Ab} {x m : llMem} (h : IPy0 A x m) {c : Nat} (hc : c < A.nc) : x.1 12 c = lvI A c := by have := (h.p.cl hc).x12; rw [SA0_ne (by decide)] at this; exact this
theorem IPy0.m74 {A : Ab} {x m : llMem} (h : IPy0 A x m) {c : Nat} (hc : c < A.nc) : m.1 74 c = lvI A c := by have := (h.p.cl hc).m74; rw [SA0_ne (by decide)] at this; exact this
theorem between_0 {A : Ab} {x m : llMem} (h : IPy0 A x m) {a b : Nat} (ha : a < A.nc) (hb : b < A.nc) : fx_X10_between_48 x (nI a) (nI b) = some (nI (A.mi a b)) := by
  have hn := h.ncB
  have := (h.p.2.2.2.2.2.2.2.2.2 a b ha hb).2
  rw [SA0_ne (by decide)] at this
  unfold fx_X10_between_48
  rw [ix30, gI_nI (by omega) (by decide), rI_n (by omega), this]
theorem miles_0 {A : Ab} {x m : llMem} (h : IPy0 A x m) {a b : Nat} (ha : a < A.nc) (hb : b < A.nc) : fx_X12_miles_69 m (nI a) (nI b) = some (nI (A.mi a b)) := by
  have hn := h.ncB
  have := miles_m h.p ha hb
  unfold fx_X12_miles_69 at this ⊢
  simp only [gI_nI (show a < 60 by omega) (show 60 < 2 ^ 31 by decide), gI_nI (show b < 60 by omega) (show 60 < 2 ^ 31 by decide), lt_eq, rI_n (show a < 2 ^ 31 by omega), rI_n (show b < 2 ^ 31 by omega), SA0_ne (show (72 : Nat) ≠ 75 by decide), SA0_ne (show (73 : Nat) ≠ 75 by decide)] at this ⊢
  exact this
theorem gather_560 {A : Ab} {x m : llMem} (h : IPy0 A x m) {l : Nat} (hl : l < A.nl) : ∃ x', fx_X5_gather_3_56 x (nI l) = some (x', nI (rowOf A l).length) ∧ Sm [56] x x' ∧ ∀ i, i < (rowOf A l).length → x'.1 56 i = nI ((rowOf A l).getD i 0) := by
  have hn := h.ncB
  have hn2 := h.nlB
  have key : ∃ e, loop (fx_X5_gather_3_56_l5 (nI l)) llFuel (x, 0, 0) = some e ∧ (e.2 = nI (rowOf A l).length ∧ Sm [56] x e.1 ∧ ∀ i, i < (rowOf A l).length → e.1.1 56 i = nI ((rowOf A l).getD i 0)) := by
    refine loop_inv (fun i s => s.2 = (nI (rowTo A l i).length, nI i) ∧ Sm [56] x s.1 ∧ ∀ j, j < (rowTo A l i).length → s.1.1 56 j = nI ((rowTo A l i).getD j 0)) _ A.nc llFuel (x, 0, 0) ⟨rfl, Sm.refl _ _, fun j hj => by simp [rowTo] at hj⟩ ?_ ?_ (llF (by omega))
    · rintro i ⟨u, v⟩ hi ⟨hv, f1, f2⟩
      dsimp only at hv f1 f2
      subst hv
      have c3 := (f1 3 (by decide)).1
      have c12 := (f1 12 (by decide)).1
      unfold fx_X5_gather_3_56_l5 fx_X5_gather_3_56_j39_b5
      dsimp only
      rw [c3, h.x35, if_neg (nle2 (by omega) (by omega) hi), gI_nI (by omega) (by decide), rI_n (by omega), c12, h.x12 hi, ite_lv h.p hi (by omega)]
      simp only [lt_eq, nI_1]
      by_cases e : (A.st i).map Prod.fst = some l
      · have hs := rowTo_t e
        have hb := rowTo_len h.p hl (i := i + 1) (by omega)
        rw [hs, List.length_append, List.length_singleton] at hb
        rw [if_pos e, if_neg (Lnle 12 (by omega) (by decide) (by omega)), gI_nI (by omega) (by decide), nI_clamp (by omega)]
        refine ⟨_, rfl, ?_, f1.trans (Sm.SI (by simp)), fun j hj => ?_⟩
        · rw [hs, List.length_append, List.length_singleton]
        · rw [hs, List.length_append, List.length_singleton] at hj
          rw [hs, SI_same]
          by_cases ej : j = (rowTo A l i).length
          · rw [ej, upd_same, getD_last]
          · rw [upd_ne ej, getD_left (by omega), f2 j (by omega)]
      · rw [if_neg e, rowTo_f e]
        exact ⟨_, rfl, rfl, f1, f2⟩
    · rintro ⟨u, v⟩ ⟨hv, f1, f2⟩
      dsimp only at hv f1 f2
      subst hv
      have c3 := (f1 3 (by decide)).1
      unfold fx_X5_gather_3_56_l5
      dsimp only
      rw [c3, h.x35, if_pos (le2 (by omega) (by omega) (Nat.le_refl _))]
      exact ⟨_, rfl, rfl, f1, f2⟩
  obtain ⟨⟨e1, e2⟩, h1, h2, h3, h4⟩ := key
  dsimp only at h2 h3 h4
  subst h2
  unfold fx_X5_gather_3_56
  rw [h1]
  exact ⟨e1, rfl, h3, h4⟩
theorem IPy0.ofc {A : Ab} {x m x' m' : llMem} (h : IPy0 A x m) (hx : ∀ c, c ∈ [3, 4, 5, 6, 7, 8, 9, 10, 12, 49] → x'.1 c = x.1 c ∧ x'.2.1 c = x.2.1 c) (h13 : x'.2.1 13 = x.2.1 13) (h75 : m'.2.1 75 = m.2.1 75) (hm : ∀ c, c ∈ [70, 71, 72, 73, 74] → m'.1 c = m.1 c ∧ m'.2.1 c = m.2.1 c) (h1 : m'.1 69 1 = m.1 69 1) (h9 : m'.1 69 9 = m.1 69 9) : IPy0 A x' m' := by
  refine h.p.of (fun c hc => ?_) (fun c hc => ?_) (by rw [SA0_ne (by decide), SA0_ne (by decide)]; exact h1) (by rw [SA0_ne (by decide), SA0_ne (by decide)]; exact h9)
  · by_cases e : c = 13
    · subst e
      exact ⟨by simp [llSA], h13⟩
    · rw [SA0_ne e, SA0_ne e]
      exact hx c (by simp only [List.mem_cons, List.not_mem_nil, or_false] at hc ⊢; omega)
  · by_cases e : c = 75
    · subst e
      exact ⟨by simp [llSA], h75⟩
    · rw [SA0_ne e, SA0_ne e]
      exact hm c (by simp only [List.mem_cons, List.not_mem_nil, or_false] at hc ⊢; omega)
theorem IPy0.sm {A : Ab} {x x' m : llMem} {X : List Nat} (h : IPy0 A x m) (hs : Sm X x x') (hX : ∀ c, c ∈ X → 31 ≤ c ∧ c ≠ 49) : IPy0 A x' m := by
  have k : ∀ c, c < 31 ∨ c = 49 → x'.1 c = x.1 c ∧ x'.2.1 c = x.2.1 c := fun c hc => by
    have := hs c (fun q => by have := hX c q; omega)
    exact ⟨this.1, this.2.1⟩
  exact h.ofc (fun c hc => k c (by simp only [List.mem_cons, List.not_mem_nil, or_false] at hc; omega)) (k 13 (by decide)).2 rfl (fun _ _ => ⟨rfl, rfl⟩) rfl rfl
theorem IPy0.smM {A : Ab} {x m m' : llMem} {X : List Nat} (h : IPy0 A x m) (hs : Sm X m m') (hX : ∀ c, c ∈ X → 81 ≤ c) : IPy0 A x m' := by
  have k : ∀ c, c < 81 → m'.1 c = m.1 c ∧ m'.2.1 c = m.2.1 c := fun c hc => by
    have := hs c (fun q => by have := hX c q; omega)
    exact ⟨this.1, this.2.1⟩
  exact h.ofc (fun _ _ => ⟨rfl, rfl⟩) rfl (k 75 (by decide)).2 (fun c hc => k c (by simp only [List.mem_cons, List.not_mem_nil, or_false] at hc; omega)) (by rw [(k 69 (by decide)).1]) (by rw [(k 69 (by decide)).1])
theorem Bas.py0 {A : Ab} {x u m : llMem} (h : Bas x u) (hp : IPy0 A x m) : IPy0 A u m := hp.ofc (fun c hc => h c (by simp only [List.mem_cons, List.not_mem_nil, or_false] at hc; omega)) (h 13 (by decide)).2 rfl (fun _ _ => ⟨rfl, rfl⟩) rfl rfl
