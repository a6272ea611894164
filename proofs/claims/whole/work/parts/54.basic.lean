/-! the small questions -/
def StepR {α : Type} (F G : llMem → Option α) : Prop := ∀ x m, Inv x m → ∃ r, F x = some r ∧ G m = some r
theorem i64_0 : (0 : Int64) = Int32.toInt64 0 := by decide
/-- is an argument one of the first k -/
theorem arg_in (a : Int32) {k : Nat} (hk : k ≤ 1000) : (∃ c, c < k ∧ a = nI c ∧ ∀ u, fx_X12_isIn u (Int32.toInt64 a) 0 (Int32.toInt64 (nI k - 1)) = some 1) ∨ ((a < 0 ∨ (¬ a < 0 ∧ nI k ≤ a)) ∧ ∀ u, fx_X12_isIn u (Int32.toInt64 a) 0 (Int32.toInt64 (nI k - 1)) = some 0) := by
  by_cases h : a < 0
  · refine Or.inr ⟨Or.inl h, fun u => ?_⟩
    rw [isIn_eq, if_neg]
    rintro ⟨h1, -⟩
    rw [i64_0, i64_le] at h1
    exact absurd h (Int32.not_lt.mpr h1)
  · obtain ⟨h1, h2⟩ := not_neg_of h
    generalize a.toInt.toNat = c at *
    subst h1
    have h0 : (0 : Int64) ≤ Int32.toInt64 (nI c) := by rw [i64_0, i64_le]; exact Int32.not_lt.mp h
    rcases Nat.lt_or_ge c k with q | q
    · refine Or.inl ⟨c, q, rfl, fun u => ?_⟩
      have h4 : Int32.toInt64 (nI c) ≤ Int32.toInt64 (nI k - 1) := by
        rw [i64_le]
        cases k with
        | zero => omega
        | succ k => rw [show nI (k + 1) - 1 = nI k from pk_sub (show 1 ≤ k + 1 by omega)]; exact le2 (by omega) (by omega) (by omega)
      rw [isIn_eq, if_pos ⟨h0, h4⟩]
    · refine Or.inr ⟨Or.inr ⟨h, le2 (by omega) (by omega) q⟩, fun u => ?_⟩
      rw [isIn_eq, if_neg]
      rintro ⟨-, h3⟩
      rw [i64_le] at h3
      cases k with
      | zero =>
        rw [Int32.le_iff_toInt_le, nI_toInt h2] at h3
        revert h3
        show ¬ ((c : Nat) : Int) ≤ -1
        omega
      | succ k =>
        rw [show nI (k + 1) - 1 = nI k from pk_sub (show 1 ≤ k + 1 by omega)] at h3
        have := (nI_leI h2 (by omega)).mp h3
        omega
theorem IPyr.nlB {A : Ab} {x m : llMem} (h : IPyr A x m) : A.nl ≤ 4 := h.1
theorem IPyr.ncB {A : Ab} {x m : llMem} (h : IPyr A x m) : A.nc ≤ 30 := h.2.2.2.2.1
theorem IPyr.lv {A : Ab} {x m : llMem} (h : IPyr A x m) {l : Nat} (hl : l < A.nl) : ILv A x m l := h.2.2.2.1 l hl
theorem IPyr.cl {A : Ab} {x m : llMem} (h : IPyr A x m) {c : Nat} (hc : c < A.nc) : ICl A x m c := h.2.2.2.2.2.2.2.1 c hc
theorem IPyr.x35 {A : Ab} {x m : llMem} (h : IPyr A x m) : x.1 3 5 = nI A.nc := h.2.2.2.2.2.1
theorem IPyr.m9 {A : Ab} {x m : llMem} (h : IPyr A x m) : m.1 69 9 = nI A.nc := h.2.2.2.2.2.2.1
theorem IPyr.x30 {A : Ab} {x m : llMem} (h : IPyr A x m) : x.1 3 0 = nI A.nl := h.2.1
theorem IPyr.m1 {A : Ab} {x m : llMem} (h : IPyr A x m) : m.1 69 1 = nI A.nl := h.2.2.1
theorem ICl.x12 {A : Ab} {x m : llMem} {c : Nat} (h : ICl A x m c) : x.1 12 c = lvI A c := h.2.2.2.2.2.2.2.2.2.1
theorem ICl.m74 {A : Ab} {x m : llMem} {c : Nat} (h : ICl A x m c) : m.1 74 c = lvI A c := h.2.2.2.2.2.2.2.2.2.2.1
theorem ICl.x13 {A : Ab} {x m : llMem} {c : Nat} (h : ICl A x m c) : x.1 13 c = dvI A c := h.2.2.2.2.2.2.2.2.2.2.2.1
theorem ICl.m75 {A : Ab} {x m : llMem} {c : Nat} (h : ICl A x m c) : m.1 75 c = dvI A c := h.2.2.2.2.2.2.2.2.2.2.2.2.1
theorem ICl.stB {A : Ab} {x m : llMem} {c : Nat} (h : ICl A x m c) : ∀ l d, A.st c = some (l, d) → l < A.nl ∧ d < A.dv l := h.2.2.2.2.2.2.2.2.2.2.2.2.2
theorem isClub_B {A : Ab} {x m : llMem} (h : IPyr A x m) (a : Int32) : (∃ c, c < A.nc ∧ a = nI c ∧ fx_X5_isClub_3 x a = some 1 ∧ fx_X12_isClub_69 m a = some 1) ∨ (fx_X5_isClub_3 x a = some 0 ∧ fx_X12_isClub_69 m a = some 0) := by
  have hn := h.ncB
  unfold fx_X5_isClub_3 fx_X12_isClub_69
  rw [h.x35, h.m9]
  rcases arg_in a (k := A.nc) (by omega) with ⟨c, h1, h2, h3⟩ | ⟨h1, h3⟩
  · refine Or.inl ⟨c, h1, h2, ?_, ?_⟩
    · subst h2
      rw [if_neg (nI_nneg (by omega)), if_neg (nle2 (by omega) (by omega) h1), gB_1]
    · rw [h3, Option.bind_some, gB_1]
  · refine Or.inr ⟨?_, ?_⟩
    · rcases h1 with h1 | ⟨h1, h2⟩
      · rw [if_pos h1, gB_0]
      · rw [if_neg h1, if_pos h2, gB_0]
    · rw [h3, Option.bind_some, gB_0]
theorem hasLevel_B {A : Ab} {x m : llMem} (h : IPyr A x m) (a : Int32) : (∃ l, l < A.nl ∧ a = nI l ∧ fx_X5_hasLevel_3 x a = some 1 ∧ fx_X12_isLevel_69 m a = some 1) ∨ (fx_X5_hasLevel_3 x a = some 0 ∧ fx_X12_isLevel_69 m a = some 0) := by
  have hn := h.nlB
  unfold fx_X5_hasLevel_3 fx_X12_isLevel_69
  rw [h.x30, h.m1]
  rcases arg_in a (k := A.nl) (by omega) with ⟨c, h1, h2, h3⟩ | ⟨h1, h3⟩
  · refine Or.inl ⟨c, h1, h2, ?_, ?_⟩
    · subst h2
      rw [if_neg (nI_nneg (by omega)), if_neg (nle2 (by omega) (by omega) h1), gB_1]
    · rw [h3, Option.bind_some, gB_1]
  · refine Or.inr ⟨?_, ?_⟩
    · rcases h1 with h1 | ⟨h1, h2⟩
      · rw [if_pos h1, gB_0]
      · rw [if_neg h1, if_pos h2, gB_0]
    · rw [h3, Option.bind_some, gB_0]
theorem hasLevel_y {A : Ab} {x m : llMem} (h : IPyr A x m) {l : Nat} (hl : l < A.nl) : fx_X5_hasLevel_3 x (nI l) = some 1 := by
  have hn := h.nlB
  unfold fx_X5_hasLevel_3
  rw [h.x30, if_neg (nI_nneg (by omega)), if_neg (nle2 (by omega) (by omega) hl), gB_1]
theorem hasDivision_B {A : Ab} {x m : llMem} (h : IPyr A x m) (a b : Int32) : (∃ l d, l < A.nl ∧ d < A.dv l ∧ a = nI l ∧ b = nI d ∧ fx_X5_hasDivision_3 x a b = some 1 ∧ fx_X12_isDivision_69 m a b = some 1) ∨ (fx_X5_hasDivision_3 x a b = some 0 ∧ fx_X12_isDivision_69 m a b = some 0) := by
  have hn := h.nlB
  unfold fx_X5_hasDivision_3 fx_X12_isDivision_69
  rcases hasLevel_B h a with ⟨l, h1, h2, h3, h4⟩ | ⟨h3, h4⟩
  · subst h2
    have hl := h.lv h1
    have e4 : (4 : Int32) * nI l + 0 = nI (4 * l) := by rw [show (4 : Int32) = nI 4 from rfl, pk_mul]; exact nI_add _ 0
    rw [h3, h4, Option.bind_some, Option.bind_some, if_neg one_ne, if_neg one_ne, e4, gI_nI (i := l) (by omega) (by decide), rI_n (k := l) (by omega), hl.1, gI_nI (by omega) (by decide), rI_n (by omega), hl.2.2.2.2.1]
    rcases arg_in b (k := A.dv l) (by have := hl.2.2.2.2.2.2.2.2.2.1; omega) with ⟨d, g1, g2, g3⟩ | ⟨g1, g3⟩
    · refine Or.inl ⟨l, d, h1, g1, rfl, g2, ?_, ?_⟩
      · subst g2
        have := hl.2.2.2.2.2.2.2.2.2.1
        rw [if_neg (nI_nneg (by omega)), if_neg (nle2 (by omega) (by omega) g1), gB_1]
      · rw [g3, Option.bind_some, if_neg (by decide), gB_1]
    · refine Or.inr ⟨?_, ?_⟩
      · rcases g1 with g1 | ⟨g1, g2⟩
        · rw [if_pos g1, gB_0]
        · rw [if_neg g1, if_pos g2, gB_0]
      · rw [g3, Option.bind_some, if_pos rfl, gB_0]
  · rw [h3, h4, Option.bind_some, Option.bind_some, if_pos rfl, if_pos rfl, gB_0]
    exact Or.inr ⟨rfl, rfl⟩
/-- where a club stands, by its numbers -/
theorem lvI_some {A : Ab} {c l d : Nat} (h : A.st c = some (l, d)) : lvI A c = nI l ∧ dvI A c = nI d := by unfold lvI dvI; rw [h]; exact ⟨rfl, rfl⟩
theorem lvI_none {A : Ab} {c : Nat} (h : A.st c = none) : (lvI A c = -1 ∨ lvI A c = -2) ∧ lvI A c < 0 ∧ dvI A c = -1 := by
  unfold lvI dvI; rw [h]
  cases A.gone c
  · exact ⟨Or.inl rfl, by decide, rfl⟩
  · exact ⟨Or.inr rfl, by decide, rfl⟩
theorem lvI_eq {A : Ab} {x m : llMem} (h : IPyr A x m) {c : Nat} (hc : c < A.nc) {l : Nat} (hl : l < 1000) : lvI A c = nI l ↔ (A.st c).map Prod.fst = some l := by
  cases hs : A.st c with
  | none =>
    have q := (lvI_none hs).2.1
    refine ⟨fun e => ?_, fun e => by cases e⟩
    rw [e] at q
    exact absurd q (nI_nneg (by omega))
  | some y =>
    obtain ⟨a, b⟩ := y
    have := ((h.cl hc).stB a b hs).1
    have := h.nlB
    rw [(lvI_some hs).1, nI_eq (by omega) (by omega)]
    simp
theorem st_eq {A : Ab} {x m : llMem} (h : IPyr A x m) {c : Nat} (hc : c < A.nc) {l d : Nat} (hl : l < 1000) (hd : d < 1000) : (lvI A c = nI l ∧ dvI A c = nI d) ↔ A.st c = some (l, d) := by
  rw [lvI_eq h hc hl]
  cases hs : A.st c with
  | none => simp
  | some y =>
    obtain ⟨a, b⟩ := y
    have q := (h.cl hc).stB a b hs
    have := (h.lv q.1).2.2.2.2.2.2.2.2.2.1
    rw [(lvI_some hs).2, nI_eq (by omega) (by omega)]
    simp
theorem plays_c {A : Ab} {x m : llMem} (h : IPyr A x m) {c : Nat} (hc : c < A.nc) : fx_X5_plays_3 x (nI c) = some (if (A.st c).isSome then 1 else 0) ∧ fx_X12_plays_69 m (nI c) = some (if (A.st c).isSome then 1 else 0) := by
  have hn := h.ncB
  unfold fx_X5_plays_3 fx_X12_plays_69
  rcases isClub_B h (nI c) with ⟨c', h1, h2, h3, h4⟩ | ⟨h3, h4⟩
  · rw [h3, h4, Option.bind_some, Option.bind_some, if_neg one_ne, if_neg one_ne, gI_nI (by omega) (by decide), gI_nI (by omega) (by decide), rI_n (by omega), rI_n (by omega), (h.cl hc).x12, (h.cl hc).m74]
    cases hs : A.st c with
    | none =>
      have q := lvI_none hs
      refine ⟨?_, ?_⟩
      · unfold fx_X5_hasLevel_3
        rw [if_pos q.2.1, gB_0, Option.bind_some]; rfl
      · rw [if_pos q.2.1, gB_0]; rfl
    | some y =>
      obtain ⟨l, d⟩ := y
      have q := (h.cl hc).stB l d hs
      have := h.nlB
      rw [(lvI_some hs).1, hasLevel_y h q.1, Option.bind_some, if_neg one_ne, gB_1, if_neg (nI_nneg (by omega))]
      exact ⟨rfl, rfl⟩
  · exfalso
    unfold fx_X5_isClub_3 at h3
    rw [h.x35, if_neg (nI_nneg (by omega)), if_neg (nle2 (by omega) (by omega) hc), gB_1] at h3
    revert h3; decide
theorem plays_B {A : Ab} {x m : llMem} (h : IPyr A x m) (a : Int32) : (∃ c l d, c < A.nc ∧ a = nI c ∧ A.st c = some (l, d) ∧ l < A.nl ∧ d < A.dv l ∧ fx_X5_plays_3 x a = some 1 ∧ fx_X12_plays_69 m a = some 1) ∨ (fx_X5_plays_3 x a = some 0 ∧ fx_X12_plays_69 m a = some 0) := by
  rcases isClub_B h a with ⟨c, h1, h2, h3, h4⟩ | ⟨h3, h4⟩
  · subst h2
    obtain ⟨g1, g2⟩ := plays_c h h1
    rw [g1, g2]
    cases hs : A.st c with
    | none => exact Or.inr ⟨rfl, rfl⟩
    | some y =>
      obtain ⟨l, d⟩ := y
      have q := (h.cl h1).stB l d hs
      exact Or.inl ⟨c, l, d, h1, rfl, hs, q.1, q.2, rfl, rfl⟩
  · refine Or.inr ⟨?_, ?_⟩
    · unfold fx_X5_plays_3; rw [h3, Option.bind_some, if_pos rfl, gB_0]
    · unfold fx_X12_plays_69; rw [h4, Option.bind_some, if_pos rfl, gB_0]
theorem standsIn_3 {u : llMem} {i : Nat} (hi : i < 30) (a b : Int32) : fx_X5_standsIn_3 u (nI i) a b = some (if u.1 12 i = a ∧ u.1 13 i = b then 1 else 0) := by
  unfold fx_X5_standsIn_3
  rw [gI_nI hi (by decide), gI_nI hi (by decide), rI_n (by omega), rI_n (by omega)]
  by_cases h1 : u.1 12 i = a
  · by_cases h2 : u.1 13 i = b
    · rw [if_neg (fun q => q h1), if_neg (fun q => q h2), gB_1, if_pos ⟨h1, h2⟩]
    · rw [if_neg (fun q => q h1), if_pos h2, gB_0, if_neg (fun q => h2 q.2)]
  · rw [if_pos h1, gB_0, if_neg (fun q => h1 q.1)]
theorem stands_x {A : Ab} {x m : llMem} (h : IPyr A x m) {c : Nat} (hc : c < A.nc) {l d : Nat} (hl : l < 1000) (hd : d < 1000) : fx_X5_standsIn_3 x (nI c) (nI l) (nI d) = some (if A.st c = some (l, d) then 1 else 0) := by
  have hn := h.ncB
  rw [standsIn_3 (by omega), (h.cl hc).x12, (h.cl hc).x13]
  by_cases e : A.st c = some (l, d)
  · rw [if_pos ((st_eq h hc hl hd).mpr e), if_pos e]
  · rw [if_neg (fun q => e ((st_eq h hc hl hd).mp q)), if_neg e]
theorem together_x {A : Ab} {x m : llMem} (h : IPyr A x m) {a b : Nat} (ha : a < A.nc) (hb : b < A.nc) : fx_X5_together_3 x (nI a) (nI b) = some (if (A.st a).isSome ∧ A.st a = A.st b then 1 else 0) := by
  have hn := h.ncB
  unfold fx_X5_together_3
  rw [(plays_c h ha).1, Option.bind_some, gI_nI (by omega) (by decide), gI_nI (by omega) (by decide), rI_n (by omega), rI_n (by omega), (h.cl ha).x12, (h.cl ha).x13]
  cases hs : A.st a with
  | none => simp [gB_0]
  | some y =>
    obtain ⟨l, d⟩ := y
    have q := (h.cl ha).stB l d hs
    have := (h.lv q.1).2.2.2.2.2.2.2.2.2.1
    have := h.nlB
    rw [(lvI_some hs).1, (lvI_some hs).2, stands_x h hb (by omega) (by omega)]
    simp only [Option.isSome_some, if_true, Option.bind_some]
    rw [if_neg (by decide)]
    by_cases e : A.st b = some (l, d)
    · rw [if_pos e, if_neg (by decide), gB_1, if_pos ⟨trivial, e.symm⟩]
    · rw [if_neg e, if_pos rfl, gB_0, if_neg (fun q => e q.2.symm)]
theorem together_m {A : Ab} {x m : llMem} (h : IPyr A x m) {a b : Nat} (ha : a < A.nc) (hb : b < A.nc) : fx_X12_areTogether_69 m (nI a) (nI b) = some (if (A.st a).isSome ∧ A.st a = A.st b then 1 else 0) := by
  have hn := h.ncB
  unfold fx_X12_areTogether_69
  simp only [gI_nI (show a < 60 by omega) (show 60 < 2 ^ 31 by decide), gI_nI (show b < 60 by omega) (show 60 < 2 ^ 31 by decide)]
  rw [(plays_c h ha).2, (plays_c h hb).2, Option.bind_some, Option.bind_some, rI_n (by omega), rI_n (by omega), rI_n (by omega), rI_n (by omega), (h.cl ha).m74, (h.cl hb).m74, (h.cl ha).m75, (h.cl hb).m75]
  cases hs : A.st a with
  | none => simp [gB_0]
  | some y =>
    obtain ⟨l, d⟩ := y
    have q := (h.cl ha).stB l d hs
    have := (h.lv q.1).2.2.2.2.2.2.2.2.2.1
    have := h.nlB
    rw [(lvI_some hs).1, (lvI_some hs).2]
    have e := st_eq h hb (l := l) (d := d) (by omega) (by omega)
    cases hb2 : A.st b with
    | none => simp [gB_0]
    | some z =>
      rw [hb2] at e
      simp only [Option.isSome_some, if_true]
      rw [if_neg one_ne, if_neg one_ne]
      by_cases e1 : nI l = lvI A b
      · by_cases e2 : nI d = dvI A b
        · rw [if_neg (fun q => q e1), if_neg (fun q => q e2), gB_1, if_pos ⟨trivial, (e.mp ⟨e1.symm, e2.symm⟩).symm⟩]
        · rw [if_neg (fun q => q e1), if_pos e2, gB_0, if_neg (fun q => e2 (e.mpr q.2.symm).2.symm)]
      · rw [if_pos e1, gB_0, if_neg (fun q => e1 (e.mpr q.2.symm).1.symm)]
