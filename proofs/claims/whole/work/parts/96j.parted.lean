theorem InvA.pa {A : Ab} {x m x' m' : llMem} {mc : Nat} {ml : Nat → Nat × Nat} {k : Nat} {cj : Nat → Nat} (h : InvA A x m mc ml k cj) (hx : Sm [52, 53, 54, 55, 56, 57, 58, 59, 60, 61, 62] x x') (hc : ICa A x') (hm : QM m m') : InvA A x' m' mc ml k cj := by
  obtain ⟨h1, h2, h3, h4, h5, h6, h7, h8, h9⟩ := h.of (QX.refl x) hm
  have xx : ∀ c, c < 52 → x'.1 c = x.1 c ∧ x'.2.1 c = x.2.1 c := fun c hc => by
    have := hx c (fun q => by simp only [List.mem_cons, List.not_mem_nil, or_false] at q; omega)
    exact ⟨this.1, this.2.1⟩
  refine ⟨h1.of (fun c hc => ?_) (fun _ _ => ⟨rfl, rfl⟩) rfl rfl, h2.of (fun c hc => ?_) (by rw [(xx 14 (by decide)).1]) rfl, h3.of (fun c hc => ?_) (by rw [(xx 26 (by decide)).1]) rfl rfl rfl, hc, ?_, ?_, ?_, ?_, ?_⟩
  · simp only [List.mem_cons, List.not_mem_nil, or_false] at hc
    exact xx c (by omega)
  · simp only [List.mem_cons, List.not_mem_nil, or_false] at hc
    exact (xx c (by omega)).1
  · simp only [List.mem_cons, List.not_mem_nil, or_false] at hc
    exact (xx c (by omega)).1
  · unfold ISh at h5 ⊢
    rw [(xx 43 (by decide)).1, (xx 47 (by decide)).1]; exact h5
  · unfold ITp TX at h6 ⊢
    rw [(xx 1 (by decide)).1, (xx 2 (by decide)).1]; exact h6
  · unfold IFa at h7 ⊢
    rw [(xx 1 (by decide)).1]; exact h7
  · rw [(xx 14 (by decide)).1]; exact h8
  · unfold IRe at h9 ⊢
    rw [(xx 18 (by decide)).1]; exact h9
theorem pa_ox {x x' : llMem} (hx : Sm [52, 53, 54, 55, 56, 57, 58, 59, 60, 61, 62] x x') : OX x x' := fun c hc => by
  have := hx c (fun q => by simp only [List.mem_cons, List.not_mem_nil, or_false] at q; omega)
  exact ⟨this.1, this.2.1⟩
theorem parted_S (a : Int32) : Step (fun u => fx_X11_parted_0 u a) (fun u => fx_X12_parted_69 u a) := by
  rintro x m ⟨A, mc, ml, k, cj, h⟩
  have hp := h.1
  have hn := hp.ncB
  have hn2 := hp.nlB
  dsimp only
  unfold fx_X11_parted_0 fx_X12_parted_69
  rcases plays_B hp a with ⟨c, l, d, hc, rfl, hst, hl, hd, p1, p2⟩ | ⟨p1, p2⟩
  · have e12 : x.1 12 c = nI l := by rw [(hp.cl hc).x12]; unfold lvI; rw [hst]
    have e74 : m.1 74 c = nI l := by rw [(hp.cl hc).m74]; unfold lvI; rw [hst]
    obtain ⟨x', a1, a2, a3, a4, _⟩ := partAnew_x hp.py0 h.2.2.2.1 hl
    obtain ⟨m', P, b1, b2, b3, b4, b5, b6⟩ := laysParts_m hp.py0 hl
    have h12 := row_12 hp hl
    have hlen := row_len hp hl
    obtain ⟨P', q1, q2, q3⟩ := a3.at hl a4
    rw [b3] at q1
    injection q1 with q1
    subst q1
    have hcr : c ∈ rowOf A l := row_mem.mpr ⟨hc, by rw [hst]; rfl⟩
    obtain ⟨j, hj, ej⟩ := getD_el hcr
    have lp : loop (fx_X12_parted_69_l22 m' (nI c)) llFuel 0 = some (nI j) := by
      refine loop_run0 (fun i => nI i) _ j llFuel rfl ?_ ?_ (llF (by omega))
      · intro i hi
        unfold fx_X12_parted_69_l22
        have hir : (rowOf A l).getD i 0 < A.nc := (row_mem.mp (getD_in (show i < (rowOf A l).length by omega))).1
        rw [gI_nI (by omega) (by decide), rI_n (by omega), b5 i (by omega), if_neg (fun z => by
          have := nI_inj (by omega) (by omega) z
          have := row_inj (show i < (rowOf A l).length by omega) hj (this.trans ej.symm)
          omega), lt_eq, nI_1]
      · unfold fx_X12_parted_69_l22
        rw [gI_nI (by omega) (by decide), rI_n (by omega), b5 j hj, ej, if_pos rfl]
    have q3j := q3 j (by omega)
    rw [ej] at q3j
    rw [p1, p2, Option.bind_some, Option.bind_some, if_pos (show ¬ (1 : Int32) = 0 by decide), if_pos (show ¬ (1 : Int32) = 0 by decide), gI_nI (show c < 30 by omega) (by decide), gI_nI (show c < 60 by omega) (by decide), rI_n (show c < 2 ^ 31 by omega), rI_n (show c < 2 ^ 31 by omega), e12, e74, a1, bd_mk, b1, bd_mk, gI_nI (show c < 30 by omega) (by decide), rI_n (show c < 2 ^ 31 by omega), q3j, lp, Option.bind_some, gI_nI (show j < 12 by omega) (by decide), rI_n (show j < 2 ^ 31 by omega), b6 j hj]
    exact ⟨x', m', _, rfl, rfl, ⟨A, mc, ml, k, cj, h.pa a2 a3 b2.q⟩, pa_ox a2, b2.q.om⟩
  · rw [p1, p2, Option.bind_some, Option.bind_some, if_neg (fun z => z rfl), if_neg (fun z => z rfl)]
    exact ⟨x, m, _, rfl, rfl, ⟨A, mc, ml, k, cj, h⟩, OX.refl _, OM.refl _⟩
