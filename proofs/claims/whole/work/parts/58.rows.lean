/-! the clubs of a level, by number -/
def rowTo (A : Ab) (l i : Nat) : List Nat := (List.range i).filter (fun c => decide ((A.st c).map Prod.fst = some l))
theorem rowTo_t {A : Ab} {l i : Nat} (h : (A.st i).map Prod.fst = some l) : rowTo A l (i + 1) = rowTo A l i ++ [i] := by
  unfold rowTo
  rw [List.range_succ, List.filter_append, List.filter_cons_of_pos (by simpa using h), List.filter_nil]
theorem rowTo_f {A : Ab} {l i : Nat} (h : ¬ (A.st i).map Prod.fst = some l) : rowTo A l (i + 1) = rowTo A l i := by
  unfold rowTo
  rw [List.range_succ, List.filter_append, List.filter_cons_of_neg (by simpa using h), List.filter_nil, List.append_nil]
theorem rowTo_cnt (A : Ab) (l : Nat) : ∀ i, (rowTo A l i).length = inLev A.st l i
  | 0 => rfl
  | i + 1 => by
    have ih := rowTo_cnt A l i
    unfold inLev at ih ⊢
    by_cases e : (A.st i).map Prod.fst = some l
    · rw [rowTo_t e, List.length_append, List.length_singleton, ih, cnt_t e]
    · rw [rowTo_f e, ih, cnt_f e]
theorem inLev_full {A : Ab} {x m : llMem} (h : IPyr A x m) {l : Nat} (hl : l < A.nl) : inLev A.st l A.nc = A.dv l * A.sz l := by
  rw [inLev_sum A.nc (D := A.dv l) (fun c d hc hs => ((h.cl hc).stB l d hs).2)]
  have hF : ∀ d, d < A.dv l → inDiv A.st l d A.nc = A.sz l := fun d hd => h.2.2.2.2.2.2.2.2.1 l d hl hd
  have := (sumN_full (f := fun d => inDiv A.st l d A.nc) (s := A.sz l) (A.dv l) (fun d hd => Nat.le_of_eq (hF d hd))).mpr hF
  have := sumN_le' (f := fun d => inDiv A.st l d A.nc) (s := A.sz l) (A.dv l) (fun d hd => Nat.le_of_eq (hF d hd))
  omega
theorem row_len {A : Ab} {x m : llMem} (h : IPyr A x m) {l : Nat} (hl : l < A.nl) : (rowOf A l).length = A.dv l * A.sz l := (rowTo_cnt A l A.nc).trans (inLev_full h hl)
theorem cnt_mono {p : Nat → Prop} {dp : ∀ i, Decidable (p i)} {a : Nat} : ∀ (b : Nat), a ≤ b → cnt p dp a ≤ cnt p dp b
  | 0, h => by rw [show a = 0 by omega]; exact Nat.le_refl _
  | b + 1, h => by
    by_cases e : a = b + 1
    · rw [e]; exact Nat.le_refl _
    · have := cnt_mono (p := p) (dp := dp) b (show a ≤ b by omega)
      by_cases q : p b
      · rw [cnt_t q]; omega
      · rw [cnt_f q]; omega
theorem rowTo_len {A : Ab} {x m : llMem} (h : IPyr A x m) {l i : Nat} (hl : l < A.nl) (hi : i ≤ A.nc) : (rowTo A l i).length ≤ 12 := by
  have h1 := inLev_full h hl
  have h2 := (h.lv hl).2.2.2.2.2.2.2.2.2.2.2.2.1
  rw [rowTo_cnt]
  have : inLev A.st l i ≤ inLev A.st l A.nc := cnt_mono A.nc hi
  omega
theorem row_12 {A : Ab} {x m : llMem} (h : IPyr A x m) {l : Nat} (hl : l < A.nl) : (rowOf A l).length ≤ 12 := rowTo_len h hl (Nat.le_refl _)
theorem row_mem {A : Ab} {l c : Nat} : c ∈ rowOf A l ↔ c < A.nc ∧ (A.st c).map Prod.fst = some l := by
  unfold rowOf; rw [List.mem_filter, List.mem_range, decide_eq_true_eq]
theorem row_pw (A : Ab) (l : Nat) : (rowOf A l).Pairwise (· < ·) := List.Pairwise.filter _ List.pairwise_lt_range
theorem getD_in {L : List Nat} {i : Nat} (h : i < L.length) : L.getD i 0 ∈ L := by
  rw [List.getD_eq_getElem?_getD, List.getElem?_eq_getElem h]; exact List.getElem_mem h
theorem row_lt {A : Ab} {l i k : Nat} (hi : i < k) (hk : k < (rowOf A l).length) : (rowOf A l).getD i 0 < (rowOf A l).getD k 0 := by
  have := List.pairwise_iff_getElem.mp (row_pw A l) i k (by omega) hk hi
  rw [List.getD_eq_getElem?_getD, List.getElem?_eq_getElem (show i < _ by omega), List.getD_eq_getElem?_getD, List.getElem?_eq_getElem hk]
  exact this
theorem row_st {A : Ab} {x m : llMem} (h : IPyr A x m) {l i : Nat} (hi : i < (rowOf A l).length) : ∃ d, (rowOf A l).getD i 0 < A.nc ∧ A.st ((rowOf A l).getD i 0) = some (l, d) ∧ d < A.dv l := by
  obtain ⟨h1, h2⟩ := row_mem.mp (getD_in hi)
  cases hs : A.st ((rowOf A l).getD i 0) with
  | none => rw [hs] at h2; cases h2
  | some y =>
    obtain ⟨a, d⟩ := y
    rw [hs] at h2
    have e : a = l := by simpa using h2
    subst e
    exact ⟨d, h1, rfl, ((h.cl h1).stB a d hs).2⟩
theorem take_s {L : List Nat} {i : Nat} (h : i < L.length) : L.take (i + 1) = L.take i ++ [L.getD i 0] := by
  rw [List.take_add_one, List.getD_eq_getElem?_getD, List.getElem?_eq_getElem h]; rfl
theorem itr_filter {σ : Type} (P : Nat → Bool) (g : σ → Nat → σ) (a : σ) : ∀ n, itr (fun c s => if P c then g s c else s) a n = ((List.range n).filter P).foldl g a
  | 0 => rfl
  | n + 1 => by
    rw [List.range_succ, List.filter_append, List.foldl_append, ← itr_filter P g a n]
    show (if P n then g _ n else _) = _
    cases e : P n
    · rw [List.filter_cons_of_neg (by rw [e]; decide)]; rfl
    · rw [List.filter_cons_of_pos e]; rfl
theorem IPyr.sm {A : Ab} {x x' m : llMem} {X : List Nat} (h : IPyr A x m) (hs : Sm X x x') (hX : ∀ c, c ∈ X → 31 ≤ c ∧ c ≠ 49) : IPyr A x' m := by
  refine h.of (fun c hc => ?_) (fun _ _ => ⟨rfl, rfl⟩) rfl rfl
  have : c ∉ X := fun q => by
    have := hX c q
    simp only [List.mem_cons, List.not_mem_nil, or_false] at hc
    omega
  exact ⟨(hs c this).1, (hs c this).2.1⟩
theorem QX.sm {x x' : llMem} {X : List Nat} (hs : Sm X x x') (hX : ∀ c, c ∈ X → 31 ≤ c ∧ c < 69 ∧ c ≠ 43 ∧ c ≠ 47 ∧ c ≠ 49 ∧ c ≠ 53 ∧ c ≠ 54 ∧ c ≠ 55 ∧ c ≠ 60) : QX x x' := by
  refine ⟨fun c hc => ?_, ?_⟩
  · have : c ∉ X := fun q => by have := hX c q; omega
    exact ⟨(hs c this).1, (hs c this).2.1⟩
  · rw [(hs 43 (fun q => (hX 43 q).2.2.1 rfl)).1]
theorem getD_last (L : List Nat) (c : Nat) : (L ++ [c]).getD L.length 0 = c := by
  rw [List.getD_eq_getElem?_getD, List.getElem?_append_right (Nat.le_refl _), Nat.sub_self]; rfl
theorem getD_left {L M : List Nat} {j : Nat} (h : j < L.length) : (L ++ M).getD j 0 = L.getD j 0 := by
  rw [List.getD_eq_getElem?_getD, List.getElem?_append_left h, ← List.getD_eq_getElem?_getD]
theorem gather_44 {A : Ab} {x m : llMem} (h : IPyr A x m) {l : Nat} (hl : l < A.nl) : ∃ x', fx_X5_gather_3_44 x (nI l) = some (x', nI (rowOf A l).length) ∧ Sm [44] x x' ∧ ∀ i, i < (rowOf A l).length → x'.1 44 i = nI ((rowOf A l).getD i 0) := by
  have hn := h.ncB
  have hn2 := h.nlB
  have key : ∃ e, loop (fx_X5_gather_3_44_l5 (nI l)) llFuel (x, 0, 0) = some e ∧ (e.2 = nI (rowOf A l).length ∧ Sm [44] x e.1 ∧ ∀ i, i < (rowOf A l).length → e.1.1 44 i = nI ((rowOf A l).getD i 0)) := by
    refine loop_inv (fun i s => s.2 = (nI (rowTo A l i).length, nI i) ∧ Sm [44] x s.1 ∧ ∀ j, j < (rowTo A l i).length → s.1.1 44 j = nI ((rowTo A l i).getD j 0)) _ A.nc llFuel (x, 0, 0) ⟨rfl, Sm.refl _ _, fun j hj => by simp [rowTo] at hj⟩ ?_ ?_ (llF (by omega))
    · rintro i ⟨u, v⟩ hi ⟨hv, f1, f2⟩
      dsimp only at hv f1 f2
      subst hv
      have c3 := (f1 3 (by decide)).1
      have c12 := (f1 12 (by decide)).1
      unfold fx_X5_gather_3_44_l5 fx_X5_gather_3_44_j39_b5
      dsimp only
      rw [c3, h.x35, if_neg (nle2 (by omega) (by omega) hi), gI_nI (by omega) (by decide), rI_n (by omega), c12, (h.cl hi).x12, ite_lv h hi (by omega)]
      simp only [lt_eq, nI_1]
      by_cases e : (A.st i).map Prod.fst = some l
      · have hs := rowTo_t e
        have hb := rowTo_len h hl (i := i + 1) (by omega)
        rw [hs, List.length_append, List.length_singleton] at hb
        rw [if_pos e, if_neg (Lnle 12 (by omega) (by decide) (by omega)), gI_nI (by omega) (by decide), nI_clamp (by omega)]
        refine ⟨_, rfl, ?_, f1.trans (Sm.SI (by simp)), fun j hj => ?_⟩
        · rw [hs, List.length_append, List.length_singleton]
        · rw [hs, List.length_append, List.length_singleton] at hj
          rw [hs, SI_same]
          by_cases ej : j = (rowTo A l i).length
          · rw [ej, upd_same, getD_last]
          · rw [upd_ne ej, getD_left (by omega), f2 j (by omega)]
      · rw [if_neg e, rowTo_f e]
        exact ⟨_, rfl, rfl, f1, f2⟩
    · rintro ⟨u, v⟩ ⟨hv, f1, f2⟩
      dsimp only at hv f1 f2
      subst hv
      have c3 := (f1 3 (by decide)).1
      unfold fx_X5_gather_3_44_l5
      dsimp only
      rw [c3, h.x35, if_pos (le2 (by omega) (by omega) (Nat.le_refl _))]
      exact ⟨_, rfl, rfl, f1, f2⟩
  obtain ⟨⟨e1, e2⟩, h1, h2, h3, h4⟩ := key
  dsimp only at h2 h3 h4
  subst h2
  unfold fx_X5_gather_3_44
  rw [h1]
  exact ⟨e1, rfl, h3, h4⟩
theorem gather_50 {A : Ab} {x m : llMem} (h : IPyr A x m) {l : Nat} (hl : l < A.nl) : ∃ x', fx_X5_gather_3_50 x (nI l) = some (x', nI (rowOf A l).length) ∧ Sm [50] x x' ∧ ∀ i, i < (rowOf A l).length → x'.1 50 i = nI ((rowOf A l).getD i 0) := by
  have hn := h.ncB
  have hn2 := h.nlB
  have key : ∃ e, loop (fx_X5_gather_3_50_l5 (nI l)) llFuel (x, 0, 0) = some e ∧ (e.2 = nI (rowOf A l).length ∧ Sm [50] x e.1 ∧ ∀ i, i < (rowOf A l).length → e.1.1 50 i = nI ((rowOf A l).getD i 0)) := by
    refine loop_inv (fun i s => s.2 = (nI (rowTo A l i).length, nI i) ∧ Sm [50] x s.1 ∧ ∀ j, j < (rowTo A l i).length → s.1.1 50 j = nI ((rowTo A l i).getD j 0)) _ A.nc llFuel (x, 0, 0) ⟨rfl, Sm.refl _ _, fun j hj => by simp [rowTo] at hj⟩ ?_ ?_ (llF (by omega))
    · rintro i ⟨u, v⟩ hi ⟨hv, f1, f2⟩
      dsimp only at hv f1 f2
      subst hv
      have c3 := (f1 3 (by decide)).1
      have c12 := (f1 12 (by decide)).1
      unfold fx_X5_gather_3_50_l5 fx_X5_gather_3_50_j39_b5
      dsimp only
      rw [c3, h.x35, if_neg (nle2 (by omega) (by omega) hi), gI_nI (by omega) (by decide), rI_n (by omega), c12, (h.cl hi).x12, ite_lv h hi (by omega)]
      simp only [lt_eq, nI_1]
      by_cases e : (A.st i).map Prod.fst = some l
      · have hs := rowTo_t e
        have hb := rowTo_len h hl (i := i + 1) (by omega)
        rw [hs, List.length_append, List.length_singleton] at hb
        rw [if_pos e, if_neg (Lnle 12 (by omega) (by decide) (by omega)), gI_nI (by omega) (by decide), nI_clamp (by omega)]
        refine ⟨_, rfl, ?_, f1.trans (Sm.SI (by simp)), fun j hj => ?_⟩
        · rw [hs, List.length_append, List.length_singleton]
        · rw [hs, List.length_append, List.length_singleton] at hj
          rw [hs, SI_same]
          by_cases ej : j = (rowTo A l i).length
          · rw [ej, upd_same, getD_last]
          · rw [upd_ne ej, getD_left (by omega), f2 j (by omega)]
      · rw [if_neg e, rowTo_f e]
        exact ⟨_, rfl, rfl, f1, f2⟩
    · rintro ⟨u, v⟩ ⟨hv, f1, f2⟩
      dsimp only at hv f1 f2
      subst hv
      have c3 := (f1 3 (by decide)).1
      unfold fx_X5_gather_3_50_l5
      dsimp only
      rw [c3, h.x35, if_pos (le2 (by omega) (by omega) (Nat.le_refl _))]
      exact ⟨_, rfl, rfl, f1, f2⟩
  obtain ⟨⟨e1, e2⟩, h1, h2, h3, h4⟩ := key
  dsimp only at h2 h3 h4
  subst h2
  unfold fx_X5_gather_3_50
  rw [h1]
  exact ⟨e1, rfl, h3, h4⟩
theorem gather_56 {A : Ab} {x m : llMem} (h : IPyr A x m) {l : Nat} (hl : l < A.nl) : ∃ x', fx_X5_gather_3_56 x (nI l) = some (x', nI (rowOf A l).length) ∧ Sm [56] x x' ∧ ∀ i, i < (rowOf A l).length → x'.1 56 i = nI ((rowOf A l).getD i 0) := by
  have hn := h.ncB
  have hn2 := h.nlB
  have key : ∃ e, loop (fx_X5_gather_3_56_l5 (nI l)) llFuel (x, 0, 0) = some e ∧ (e.2 = nI (rowOf A l).length ∧ Sm [56] x e.1 ∧ ∀ i, i < (rowOf A l).length → e.1.1 56 i = nI ((rowOf A l).getD i 0)) := by
    refine loop_inv (fun i s => s.2 = (nI (rowTo A l i).length, nI i) ∧ Sm [56] x s.1 ∧ ∀ j, j < (rowTo A l i).length → s.1.1 56 j = nI ((rowTo A l i).getD j 0)) _ A.nc llFuel (x, 0, 0) ⟨rfl, Sm.refl _ _, fun j hj => by simp [rowTo] at hj⟩ ?_ ?_ (llF (by omega))
    · rintro i ⟨u, v⟩ hi ⟨hv, f1, f2⟩
      dsimp only at hv f1 f2
      subst hv
      have c3 := (f1 3 (by decide)).1
      have c12 := (f1 12 (by decide)).1
      unfold fx_X5_gather_3_56_l5 fx_X5_gather_3_56_j39_b5
      dsimp only
      rw [c3, h.x35, if_neg (nle2 (by omega) (by omega) hi), gI_nI (by omega) (by decide), rI_n (by omega), c12, (h.cl hi).x12, ite_lv h hi (by omega)]
      simp only [lt_eq, nI_1]
      by_cases e : (A.st i).map Prod.fst = some l
      · have hs := rowTo_t e
        have hb := rowTo_len h hl (i := i + 1) (by omega)
        rw [hs, List.length_append, List.length_singleton] at hb
        rw [if_pos e, if_neg (Lnle 12 (by omega) (by decide) (by omega)), gI_nI (by omega) (by decide), nI_clamp (by omega)]
        refine ⟨_, rfl, ?_, f1.trans (Sm.SI (by simp)), fun j hj => ?_⟩
        · rw [hs, List.length_append, List.length_singleton]
        · rw [hs, List.length_append, List.length_singleton] at hj
          rw [hs, SI_same]
          by_cases ej : j = (rowTo A l i).length
          · rw [ej, upd_same, getD_last]
          · rw [upd_ne ej, getD_left (by omega), f2 j (by omega)]
      · rw [if_neg e, rowTo_f e]
        exact ⟨_, rfl, rfl, f1, f2⟩
    · rintro ⟨u, v⟩ ⟨hv, f1, f2⟩
      dsimp only at hv f1 f2
      subst hv
      have c3 := (f1 3 (by decide)).1
      unfold fx_X5_gather_3_56_l5
      dsimp only
      rw [c3, h.x35, if_pos (le2 (by omega) (by omega) (Nat.le_refl _))]
      exact ⟨_, rfl, rfl, f1, f2⟩
  obtain ⟨⟨e1, e2⟩, h1, h2, h3, h4⟩ := key
  dsimp only at h2 h3 h4
  subst h2
  unfold fx_X5_gather_3_56
  rw [h1]
  exact ⟨e1, rfl, h3, h4⟩
