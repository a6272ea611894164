/-! pyramid() in step -/
theorem IPyr.ofp {A : Ab} {x m x' m' : llMem} (h : IPyr A x m) (hx : ∀ c, c ∈ [3, 4, 5, 6, 7, 8, 9, 10, 12, 13, 49] → x'.1 c = x.1 c ∧ x'.2.1 c = x.2.1 c) (h70 : ∀ k, k < 16 → m'.1 70 k = m.1 70 k) (hm : ∀ k, k < 30 → m'.2.1 71 k = m.2.1 71 k ∧ m'.1 72 k = m.1 72 k ∧ m'.1 73 k = m.1 73 k ∧ m'.1 74 k = m.1 74 k ∧ m'.1 75 k = m.1 75 k) (h1 : m'.1 69 1 = m.1 69 1) (h9 : m'.1 69 9 = m.1 69 9) : IPyr A x' m' := by
  have hh := h
  obtain ⟨a1, a2, a3, a4, a5, a6, a7, a8, a9, a10⟩ := hh
  refine ⟨a1, by rw [(hx 3 (by simp)).1]; exact a2, by rw [h1]; exact a3, fun l hl => ?_, a5, by rw [(hx 3 (by simp)).1]; exact a6, by rw [h9]; exact a7, fun c hc => ?_, a9, ?_⟩
  · have := a4 l hl
    unfold ILv at this ⊢
    rw [(hx 4 (by simp)).1, (hx 5 (by simp)).1, (hx 6 (by simp)).1, (hx 7 (by simp)).1, h70 _ (by omega), h70 _ (by omega), h70 _ (by omega), h70 _ (by omega)]
    exact this
  · have := a8 c hc
    obtain ⟨q1, q2, q3, q4, q5⟩ := hm c (by omega)
    unfold ICl at this ⊢
    rw [(hx 9 (by simp)).1, (hx 10 (by simp)).1, (hx 8 (by simp)).2, (hx 12 (by simp)).1, (hx 13 (by simp)).1, q1, q2, q3, q4, q5]
    exact this
  · unfold IMi at a10 ⊢
    rw [(hx 49 (by simp)).1]
    exact a10
theorem isRead_m (u : llMem) : fx_X12_isRead_69 u = some (llSI (llSI (llSI u 69 16 0) 69 17 (u.1 69 19)) 69 18 (u.1 69 20), if u.1 69 19 = 0 then 1 else 0) := by
  unfold fx_X12_isRead_69
  simp only [lt_eq, gB_0, gB_1]
  rw [SI_at (k := 16) (j := 19) (by decide), SI_at (k := 17) (j := 20) (by decide), SI_at (k := 16) (j := 20) (by decide), SI_at (k := 18) (j := 19) (by decide), SI_at (k := 17) (j := 19) (by decide), SI_at (k := 16) (j := 19) (by decide)]
  by_cases e : u.1 69 19 = 0
  · rw [if_neg (fun q => q e), if_pos e]
  · rw [if_pos e, if_neg e]
/-- the memory of the reference when a text was read: its tape empty, its fault told -/
def rdM (u : llMem) : llMem := llSI (llSI (llSI u 69 16 0) 69 17 (u.1 69 19)) 69 18 (u.1 69 20)
theorem rdM_ne {u : llMem} {c : Nat} (h : c ≠ 69) : (rdM u).1 c = u.1 c := by unfold rdM; rw [SI_ne h, SI_ne h, SI_ne h]
theorem rdM_2 (u : llMem) : (rdM u).2 = u.2 := rfl
theorem rdM_k {u : llMem} {k : Nat} (h : k ∉ [16, 17, 18]) : (rdM u).1 69 k = u.1 69 k := by
  simp only [List.mem_cons, List.not_mem_nil, or_false] at h
  unfold rdM; rw [SI_at (by omega), SI_at (by omega), SI_at (by omega)]
theorem rdM_16 (u : llMem) : (rdM u).1 69 16 = 0 := by unfold rdM; rw [SI_at (by decide), SI_at (by decide), SI_same, upd_same]
theorem rdM_17 (u : llMem) : (rdM u).1 69 17 = u.1 69 19 := by unfold rdM; rw [SI_at (by decide), SI_same, upd_same]
theorem rdM_18 (u : llMem) : (rdM u).1 69 18 = u.1 69 20 := by unfold rdM; rw [SI_same, upd_same]
theorem TXz {x : llMem} (h : x.1 1 1 = 0) : TX x (fun _ => 0) 0 := ⟨by omega, h, fun k hk => by omega⟩
theorem TMz {x : llMem} (h : x.1 69 16 = 0) : TM x (fun _ => 0) 0 := ⟨by omega, h, fun k hk => by omega⟩
/-- a text that has a fault changes nothing else -/
theorem bad_text {A : Ab} {x m x' m' : llMem} {mc : Nat} {ml : Nat → Nat × Nat} {k : Nat} {cj : Nat → Nat} (h : InvA A x m mc ml k cj) (hX : FrX x x') (hM : FrM m m') (hB : BB x' m') : InvA A (llSI x' 1 1 0) (rdM m') mc ml k cj := by
  obtain ⟨h1, h2, h3, h4, h5, h6, h7, h8, h9⟩ := h
  have xx : ∀ c, c ≠ 1 → c < 31 ∨ 41 < c → (llSI x' 1 1 0).1 c = x.1 c ∧ (llSI x' 1 1 0).2.1 c = x.2.1 c := fun c h1 hc => by
    have := hX.1 c (by simp only [List.mem_cons, List.not_mem_nil, or_false]; omega)
    exact ⟨by rw [SI_ne h1]; exact this.1, this.2.1⟩
  have mm : ∀ c, 76 < c → (rdM m').1 c = m.1 c ∧ (rdM m').2.1 c = m.2.1 c := fun c hc => by
    have := hM.1 c (by simp only [List.mem_cons, List.not_mem_nil, or_false]; omega)
    exact ⟨by rw [rdM_ne (by omega)]; exact this.1, by rw [rdM_2]; exact this.2.1⟩
  have m6 : ∀ k, k ∈ [1, 9, 11, 14, 53] → (rdM m').1 69 k = m.1 69 k := fun k hk => by
    simp only [List.mem_cons, List.not_mem_nil, or_false] at hk
    rw [rdM_k (by simp only [List.mem_cons, List.not_mem_nil, or_false]; omega)]
    exact hM.2.1 k (by simp only [List.mem_cons, List.not_mem_nil, or_false]; omega)
  refine ⟨h1.ofp (fun c hc => ?_) (fun k hk => ?_) (fun k hk => ?_) (m6 1 (by simp)) (m6 9 (by simp)), h2.of (fun c hc => ?_) (by rw [(xx 14 (by decide) (by decide)).1]) (mm 77 (by decide)).1, h3.of (fun c hc => ?_) (by rw [(xx 26 (by decide) (by decide)).1]) (mm 77 (by decide)).1 (mm 78 (by decide)).1 (m6 14 (by simp)), ?_, ?_, ⟨fun _ => 0, 0, TXz (by rw [SI_same, upd_same]), TMz (rdM_16 _)⟩, ?_, ?_, ?_⟩
  · simp only [List.mem_cons, List.not_mem_nil, or_false] at hc
    exact xx c (by omega) (by omega)
  · rw [rdM_ne (by decide)]; exact hM.2.2.1 k hk
  · rw [rdM_2, rdM_ne (by decide), rdM_ne (by decide), rdM_ne (by decide), rdM_ne (by decide)]
    obtain ⟨q1, q2, q3, q4, q5, -⟩ := hM.2.2.2 k hk
    exact ⟨q1, q2, q3, q4, q5⟩
  · simp only [List.mem_cons, List.not_mem_nil, or_false] at hc
    exact (xx c (by omega) (by omega)).1
  · simp only [List.mem_cons, List.not_mem_nil, or_false] at hc
    exact (xx c (by omega) (by omega)).1
  · unfold ICa at h4 ⊢
    rw [(xx 53 (by decide) (by decide)).1, (xx 54 (by decide) (by decide)).1, (xx 55 (by decide) (by decide)).1, (xx 60 (by decide) (by decide)).1]
    exact h4
  · unfold ISh at h5 ⊢
    rw [(xx 43 (by decide) (by decide)).1, (xx 47 (by decide) (by decide)).1, m6 53 (by simp), (mm 100 (by decide)).1]
    exact h5
  · obtain ⟨kk, pl, b1, b2, b3⟩ := hB
    unfold IFa
    rw [SI_at (by decide), SI_at (by decide), rdM_17, rdM_18, b2.1, b2.2, b3.1, b3.2]
    exact ⟨rfl, rfl⟩
  · rw [m6 11 (by simp), (xx 14 (by decide) (by decide)).1]
    exact h8
  · unfold IRe at h9 ⊢
    rw [(xx 18 (by decide) (by decide)).1]
    exact h9
theorem FrX.ox {x x' : llMem} (h : FrX x x') : OX x x' := fun c hc => by
  have := h.1 c (by simp only [List.mem_cons, List.not_mem_nil, or_false]; omega)
  exact ⟨this.1, this.2.1⟩
theorem FrM.om {x x' : llMem} (h : FrM x x') : OM x x' := fun c hc => by
  have := h.1 c (by simp only [List.mem_cons, List.not_mem_nil, or_false]; omega)
  exact ⟨this.1, this.2.1⟩
theorem OX.SI {x x' : llMem} {c k : Nat} {v : Int32} (h : OX x x') (hc : c < 69) : OX x (llSI x' c k v) := fun i hi => ⟨by rw [SI_ne (by omega)]; exact (h i hi).1, (h i hi).2⟩
theorem OM.SI {x x' : llMem} {c k : Nat} {v : Int32} (h : OM x x') (hc : 69 ≤ c) : OM x (llSI x' c k v) := fun i hi => ⟨by rw [SI_ne (by omega)]; exact (h i hi).1, (h i hi).2⟩
theorem OM.rd {x x' : llMem} (h : OM x x') : OM x (rdM x') := ((h.SI (by decide)).SI (by decide)).SI (by decide)
theorem sumW_none {sc : Nat → Int32} {nc c w : Nat} (h : ∀ k, k < 900 → sc k = -1) (hn : nc ≤ 30) (hc : c < 30) : sumW sc nc c w = 0 := by
  rw [sumW_eq]
  have : ∀ n, n ≤ nc → sumI (fun o => cP (sc (30 * c + o)) w + cA (sc (30 * o + c)) w) n = 0 := by
    intro n
    induction n with
    | zero => intro _; rfl
    | succ n ih =>
      intro hn2
      simp only [sumI]
      rw [ih (by omega), h _ (by omega), h _ (by omega)]
      unfold cP cA
      rw [if_pos rfl, if_pos rfl]
      rfl
  exact this nc (Nat.le_refl _)
theorem begin_x {A : Ab} {x : llMem} {mc : Nat} {ml : Nat → Nat × Nat} (hn : A.nc ≤ 30) (hM : IMa A x mc ml) (hS : ISu A x) : ∃ x', fx_X7_begin_14 x = some (x', ()) ∧ (∀ i, i < 14 ∨ 25 < i → x'.1 i = x.1 i) ∧ (∀ i, i ≠ 1 → x'.1 14 i = x.1 14 i) ∧ x'.2 = x.2 ∧ x'.1 14 1 = 0 ∧ (∀ k, k < 30 → x'.1 18 k = 0 ∧ x'.1 19 k = 0 ∧ x'.1 20 k = 0) ∧ (∀ k, k < 900 → x'.1 17 k = -1) ∧ ∀ c w, c < 30 → w < 5 → x'.1 (21 + w) c = 0 := by
  obtain ⟨a, a1, a2, a3, a4, a5, a6, a7⟩ := keepFirst_x hn hM hS (kept := 0) (by omega)
  obtain ⟨b, b1, b2, b3, b4, -⟩ := fill_18 a 0
  obtain ⟨c, c1, c2, c3, c4, -⟩ := fill_19 b 0
  obtain ⟨d, d1, d2, d3, d4, -⟩ := fill_20 c 0
  have h17 : ∀ k, k < 900 → a.1 17 k = -1 := fun k hk => by
    have e : k = 30 * (k / 30) + k % 30 := by omega
    rw [e, a7 (k / 30) (k % 30) (by omega) (by omega)]
    by_cases q : ∃ j, j < mc ∧ 0 ≤ j ∧ ml j = (k / 30, k % 30)
    · rw [if_pos q]
    · rw [if_neg q]
      exact hM.2.2.2.2 _ _ (by omega) (by omega) (fun i hi e2 => q ⟨i, hi, by omega, e2⟩)
  unfold fx_X7_begin_14
  rw [show (0 : Int32) = nI 0 from rfl, a1, bd_mk, show nI 0 = (0 : Int32) from rfl, b1, bd_mk, c1, bd_mk, d1, bd_mk]
  refine ⟨d, rfl, fun i hi => ?_, fun i hi => ?_, ?_, ?_, fun k hk => ⟨?_, ?_, d4 k hk⟩, fun k hk => ?_, fun cc w hc hw => ?_⟩
  · rw [d2 i (by omega), c2 i (by omega), b2 i (by omega), a2 i (by omega) (by omega) (by omega)]
  · rw [d2 14 (by decide), c2 14 (by decide), b2 14 (by decide), a3 i hi]
  · rw [d3, c3, b3, a4]
  · rw [d2 14 (by decide), c2 14 (by decide), b2 14 (by decide), a5]; rfl
  · rw [d2 18 (by decide), c2 18 (by decide), b4 k hk]
  · rw [d2 19 (by decide), c4 k hk]
  · rw [d2 17 (by decide), c2 17 (by decide), b2 17 (by decide), h17 k hk]
  · rw [d2 _ (by omega), c2 _ (by omega), b2 _ (by omega), ISu_iff.mp a6 cc w hc hw, sumW_none h17 hn hc]
