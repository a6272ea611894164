/-! ranks, both sides -/
def apI (x : llMem) (c : Nat) : Int32 := if Sn x 0 c = 0 then 0 else ptI x c
def mxN (x : llMem) (c : Nat) : Nat := if Sn x 0 c = 0 then 1 else Sn x 0 c
theorem apI_ok {A : Ab} {x m : llMem} {mc : Nat} {ml : Nat → Nat × Nat} (hp : IPyr A x m) (hs : ISea A x m mc ml) {c : Nat} (hc : c < A.nc) : (-999 ≤ (apI x c).toInt ∧ (apI x c).toInt ≤ 40) ∧ 1 ≤ mxN x c ∧ mxN x c ≤ 10 := by
  obtain ⟨a1, a2, _⟩ := PI_ok hp hs hc
  obtain ⟨_, _, _, _, _, b, _⟩ := SnB hp hs hc
  unfold apI mxN
  by_cases e : Sn x 0 c = 0
  · rw [if_pos e, if_pos e]; exact ⟨by decide, by omega, by omega⟩
  · rw [if_neg e, if_neg e]; exact ⟨⟨a1, a2⟩, by omega, by omega⟩
theorem averageOf_m {A : Ab} {x m : llMem} {mc : Nat} {ml : Nat → Nat × Nat} (hp : IPyr A x m) (hs : ISea A x m mc ml) {c : Nat} (hc : c < A.nc) : fx_X12_averageOf_69 m (nI c) = some (avF (apI x c) (nI (mxN x c))) := by
  obtain ⟨a0, _, _, _, _, b, _⟩ := SnB hp hs hc
  have h1 := apI_ok hp hs hc
  unfold fx_X12_averageOf_69
  rw [show fx_X12_sumOf_69 m (nI c) 0 = some (x.1 21 c) from sumOf_e hp hs hc (w := 0) (by decide), Option.bind_some, a0, pointsOf_m hp hs hc, Option.bind_some]
  by_cases e : Sn x 0 c = 0
  · rw [if_neg (fun q => q (by rw [e]; rfl))]
    unfold apI mxN
    rw [if_pos e, if_pos e, avF_0]
  · rw [if_pos (nI_ne0 (by omega) (by omega))]
    have e1 : apI x c = ptI x c := by unfold apI; rw [if_neg e]
    have e2 : mxN x c = Sn x 0 c := by unfold mxN; rw [if_neg e]
    rw [e1, e2] at h1
    rw [e1, e2]
    exact avF_g h1.1 h1.2 _
theorem IPyr.smM {A : Ab} {x m m' : llMem} {X : List Nat} (h : IPyr A x m) (hs : Sm X m m') (hX : ∀ c, c ∈ X → 81 ≤ c) : IPyr A x m' := by
  refine h.of (fun _ _ => ⟨rfl, rfl⟩) (fun c hc => ?_) ?_ ?_
  · have : c ∉ X := fun q => by
      have := hX c q
      simp only [List.mem_cons, List.not_mem_nil, or_false] at hc
      omega
    exact ⟨(hs c this).1, (hs c this).2.1⟩
  · rw [(hs 69 (fun q => by have := hX 69 q; omega)).1]
  · rw [(hs 69 (fun q => by have := hX 69 q; omega)).1]
theorem ISea.smM {A : Ab} {x m m' : llMem} {mc : Nat} {ml : Nat → Nat × Nat} {X : List Nat} (h : ISea A x m mc ml) (hs : Sm X m m') (hX : ∀ c, c ∈ X → 81 ≤ c) : ISea A x m' mc ml := h.of (fun _ _ => rfl) rfl (hs 77 (fun q => by have := hX 77 q; omega)).1
theorem SF_same (u : llMem) (c k : Nat) (v : UInt32) : (llSF u c k v).2.2 c k = v := by simp [llSF, vf_upd]
theorem SF_at {u : llMem} {c k j : Nat} {v : UInt32} (h : j ≠ k) : (llSF u c k v).2.2 c j = u.2.2 c j := by simp [llSF, vf_upd, h]
theorem SF_1 (u : llMem) (c k : Nat) (v : UInt32) : (llSF u c k v).1 = u.1 := rfl
/-- how many are ahead of a club in its division, and it -/
def rkP (A : Ab) (x : llMem) (c o : Nat) : Bool := decide ((A.st c).isSome ∧ A.st c = A.st o) && ahd x o c
def rkN (A : Ab) (x : llMem) (c : Nat) : Nat := 1 + ((List.range A.nc).filter (rkP A x c)).length
theorem rkN_le (A : Ab) (x : llMem) (c : Nat) : rkN A x c ≤ 1 + A.nc := by
  have := List.length_filter_le (rkP A x c) (List.range A.nc)
  rw [List.length_range] at this
  unfold rkN; omega
theorem filt_t {P : Nat → Bool} {n : Nat} (h : P n = true) : (List.range (n + 1)).filter P = (List.range n).filter P ++ [n] := by
  rw [List.range_succ, List.filter_append, List.filter_cons_of_pos h, List.filter_nil]
theorem filt_f {P : Nat → Bool} {n : Nat} (h : P n = false) : (List.range (n + 1)).filter P = (List.range n).filter P := by
  rw [List.range_succ, List.filter_append, List.filter_cons_of_neg (by rw [h]; decide), List.filter_nil, List.append_nil]
def RkM (A : Ab) (x m m' : llMem) : Prop := Sm [81, 82, 83, 84, 85] m m' ∧ ∀ c, c < A.nc → m'.1 84 c = nI (rkN A x c) ∧ m'.2.2 85 c = avF (apI x c) (nI (mxN x c))
theorem laysRanks_m {A : Ab} {x m : llMem} {mc : Nat} {ml : Nat → Nat × Nat} (hp : IPyr A x m) (hs : ISea A x m mc ml) : ∃ m', fx_X12_laysRanks_69 m = some (m', ()) ∧ RkM A x m m' := by
  have hn := hp.ncB
  obtain ⟨m1, a1, a2, a3⟩ := loop_inv (body := fx_X12_laysRanks_69_l2) (fun i s => s.2 = nI i ∧ Sm [81, 82, 83, 84, 85] m s.1 ∧ ∀ c, c < i → (s.1.1 81 c = ptI x c ∧ s.1.1 82 c = x.1 24 c - x.1 25 c ∧ s.1.1 83 c = x.1 24 c) ∧ s.1.2.2 85 c = avF (apI x c) (nI (mxN x c))) (fun e => Sm [81, 82, 83, 84, 85] m e ∧ ∀ c, c < A.nc → (e.1 81 c = ptI x c ∧ e.1 82 c = x.1 24 c - x.1 25 c ∧ e.1 83 c = x.1 24 c) ∧ e.2.2 85 c = avF (apI x c) (nI (mxN x c))) A.nc llFuel (m, 0) ⟨rfl, Sm.refl _ _, fun c hc => by omega⟩ (by
      rintro i ⟨s, v⟩ hi ⟨hv, f1, f2⟩
      dsimp only at hv f1 f2
      subst hv
      have lb : ∀ c, c ∈ [81, 82, 83, 84, 85] → 81 ≤ c := fun c hc => by simp at hc; omega
      have m9 : s.1 69 9 = nI A.nc := by rw [(f1 69 (by decide)).1]; exact hp.m9
      have s1 : Sm [81, 82, 83, 84, 85] s (llSI s 81 i (ptI x i)) := Sm.SI (by simp)
      have s2 := s1.trans (Sm.SI (X := [81, 82, 83, 84, 85]) (u := llSI s 81 i (ptI x i)) (c := 83) (k := i) (v := x.1 24 i) (by simp))
      have s3 := s2.trans (Sm.SI (X := [81, 82, 83, 84, 85]) (c := 82) (k := i) (v := x.1 24 i - x.1 25 i) (by simp))
      have p0 := hp.smM f1 lb
      have q0 := hs.smM f1 lb
      have p1 := p0.smM s1 lb
      have q1 := q0.smM s1 lb
      have p2 := p0.smM s2 lb
      have q2 := q0.smM s2 lb
      have p3 := p0.smM s3 lb
      have q3 := q0.smM s3 lb
      unfold fx_X12_laysRanks_69_l2
      dsimp only
      rw [m9, if_neg (nle2 (by omega) (by omega) hi)]
      simp only [gI_nI (show i < 30 by omega) (show 30 < 2 ^ 31 by decide), nI_clamp (show i < 2 ^ 31 by omega), rI_n (show i < 2 ^ 31 by omega)]
      rw [pointsOf_m p0 q0 hi, Option.bind_some, lt_eq, show fx_X12_sumOf_69 (llSI s 81 i (ptI x i)) (nI i) 3 = some (x.1 24 i) from sumOf_e p1 q1 hi (w := 3) (by decide), Option.bind_some, lt_eq, show fx_X12_sumOf_69 (llSI (llSI s 81 i (ptI x i)) 83 i (x.1 24 i)) (nI i) 4 = some (x.1 25 i) from sumOf_e p2 q2 hi (w := 4) (by decide), Option.bind_some, SI_same (llSI s 81 i (ptI x i)) 83, upd_same, lt_eq, averageOf_m p3 q3 hi, Option.bind_some, lt_eq, lt_eq, nI_1]
      refine ⟨_, rfl, rfl, (f1.trans s3).trans (Sm.SF (by simp)), fun c hc => ?_⟩
      by_cases e : c = i
      · subst e
        refine ⟨⟨?_, ?_, ?_⟩, SF_same _ _ _ _⟩
        · rw [SF_1, SI_ne (by decide), SI_ne (by decide), SI_same, upd_same]
        · rw [SF_1, SI_same, upd_same]
        · rw [SF_1, SI_ne (by decide), SI_same, upd_same]
      · obtain ⟨⟨g1, g2, g3⟩, g4⟩ := f2 c (by omega)
        refine ⟨⟨?_, ?_, ?_⟩, ?_⟩
        · rw [SF_1, SI_at e, SI_at e, SI_at e]; exact g1
        · rw [SF_1, SI_at e, SI_at e, SI_at e]; exact g2
        · rw [SF_1, SI_at e, SI_at e, SI_at e]; exact g3
        · rw [SF_at e]; exact g4) (by
      rintro ⟨s, v⟩ ⟨hv, f1, f2⟩
      dsimp only at hv f1 f2
      subst hv
      have m9 : s.1 69 9 = nI A.nc := by rw [(f1 69 (by decide)).1]; exact hp.m9
      unfold fx_X12_laysRanks_69_l2
      dsimp only
      rw [m9, if_pos (le2 (by omega) (by omega) (Nat.le_refl _))]
      exact ⟨_, rfl, f1, f2⟩) (llF (by omega))
  have lb : ∀ c, c ∈ [84] → 81 ≤ c := fun c hc => by simp at hc; omega
  have hp1 : IPyr A x m1 := hp.smM a2 (fun c hc => by simp at hc; omega)
  have hs1 : ISea A x m1 mc ml := hs.smM a2 (fun c hc => by simp at hc; omega)
  -- the ranks
  have inner : ∀ (c : Nat) (u : llMem), c < A.nc → Sm [84] m1 u → ∃ e, loop (fx_X12_laysRanks_69_l88_b71 (nI c)) llFuel (llSI u 84 c 1, 0) = some e ∧ (Sm [84] m1 e ∧ e.1 84 c = nI (rkN A x c) ∧ ∀ k, k ≠ c → e.1 84 k = u.1 84 k) := by
    intro c u hc hu
    refine loop_inv (fun o s => s.2 = nI o ∧ Sm [84] m1 s.1 ∧ s.1.1 84 c = nI (1 + ((List.range o).filter (rkP A x c)).length) ∧ ∀ k, k ≠ c → s.1.1 84 k = u.1 84 k) _ A.nc llFuel (llSI u 84 c 1, 0) ⟨rfl, hu.trans (Sm.SI (by simp)), by rw [SI_same, upd_same]; rfl, fun k hk => by rw [SI_at hk]⟩ ?_ ?_ (llF (by omega))
    · rintro o ⟨s, v⟩ ho ⟨hv, f1, f2, f3⟩
      dsimp only at hv f1 f2 f3
      subst hv
      have p0 := hp1.smM f1 lb
      have m9 : s.1 69 9 = nI A.nc := p0.m9
      have ah := isAhead_m (u := s) hp hs ho hc (fun k hk => by
        rw [(f1 81 (by decide)).1, (f1 82 (by decide)).1, (f1 83 (by decide)).1]
        exact (a3 k hk).1)
      unfold fx_X12_laysRanks_69_l88_b71 fx_X12_laysRanks_69_j130_b88_b71 fx_X12_laysRanks_69_j131_b88_b71
      dsimp only
      rw [m9, if_neg (nle2 (by omega) (by omega) ho), gI_nI (by omega) (by decide), rI_n (by omega), f2, together_m p0 hc ho, ah]
      simp only [one_0, one_1, Option.bind_some, gI_nI (show c < 30 by omega) (show 30 < 2 ^ 31 by decide), nI_clamp (show c < 2 ^ 31 by omega), lt_eq, nI_1, i32_add_zero]
      have fin : ∀ b : Bool, rkP A x c o = b → ∃ s', (some (Sum.inl (llSI s 84 c (nI (1 + ((List.range o).filter (rkP A x c)).length) + b01 b), nI (o + 1))) : Option ((llMem × Int32) ⊕ llMem)) = some (Sum.inl s') ∧ (s'.2 = nI (o + 1) ∧ Sm [84] m1 s'.1 ∧ s'.1.1 84 c = nI (1 + ((List.range (o + 1)).filter (rkP A x c)).length) ∧ ∀ k, k ≠ c → s'.1.1 84 k = u.1 84 k) := by
        intro b hb
        refine ⟨_, rfl, rfl, f1.trans (Sm.SI (by simp)), ?_, fun k hk => by rw [SI_at hk]; exact f3 k hk⟩
        rw [SI_same, upd_same]
        cases b
        · rw [filt_f hb, b01_f, i32_add_zero]
        · rw [filt_t hb, b01_t, nI_1, List.length_append, List.length_singleton, Nat.add_assoc]
      have fin0 := fin false
      have fin1 := fin true
      rw [b01_f, i32_add_zero] at fin0
      rw [b01_t, nI_1] at fin1
      by_cases e0 : o = c
      · rw [if_pos (by rw [e0])]
        refine fin0 ?_
        unfold rkP
        rw [e0, ahd_4 rfl rfl rfl, decide_eq_false (show ¬ c < c by omega), Bool.and_false]
      · rw [if_neg (fun q => e0 (nI_inj (by omega) (by omega) q))]
        by_cases e1 : (A.st c).isSome ∧ A.st c = A.st o
        · rw [if_pos e1, if_neg one_ne]
          cases e2 : ahd x o c
          · rw [b01_f, if_pos rfl]
            exact fin0 (by unfold rkP; rw [e2, Bool.and_false])
          · rw [b01_t, if_neg one_ne]
            exact fin1 (by unfold rkP; rw [e2, decide_eq_true e1]; rfl)
        · rw [if_neg e1, if_pos rfl]
          exact fin0 (by unfold rkP; rw [decide_eq_false e1, Bool.false_and])
    · rintro ⟨s, v⟩ ⟨hv, f1, f2, f3⟩
      dsimp only at hv f1 f2 f3
      subst hv
      have m9 : s.1 69 9 = nI A.nc := (hp1.smM f1 lb).m9
      unfold fx_X12_laysRanks_69_l88_b71
      dsimp only
      rw [m9, if_pos (le2 (by omega) (by omega) (Nat.le_refl _))]
      exact ⟨_, rfl, f1, f2, f3⟩
  obtain ⟨m2, b1, b2, b3⟩ := loop_inv (body := fx_X12_laysRanks_69_l71) (fun i s => s.2 = nI i ∧ Sm [84] m1 s.1 ∧ ∀ c, c < i → s.1.1 84 c = nI (rkN A x c)) (fun e => Sm [84] m1 e ∧ ∀ c, c < A.nc → e.1 84 c = nI (rkN A x c)) A.nc llFuel (m1, 0) ⟨rfl, Sm.refl _ _, fun c hc => by omega⟩ (by
      rintro i ⟨s, v⟩ hi ⟨hv, f1, f2⟩
      dsimp only at hv f1 f2
      subst hv
      have m9 : s.1 69 9 = nI A.nc := (hp1.smM f1 lb).m9
      obtain ⟨e, e1, e2, e3, e4⟩ := inner i s hi f1
      unfold fx_X12_laysRanks_69_l71
      dsimp only
      rw [m9, if_neg (nle2 (by omega) (by omega) hi), gI_nI (by omega) (by decide), nI_clamp (by omega), lt_eq, e1, Option.bind_some, lt_eq, nI_1]
      refine ⟨_, rfl, rfl, e2, fun c hc => ?_⟩
      by_cases e0 : c = i
      · subst e0; exact e3
      · rw [e4 c e0]; exact f2 c (by omega)) (by
      rintro ⟨s, v⟩ ⟨hv, f1, f2⟩
      dsimp only at hv f1 f2
      subst hv
      have m9 : s.1 69 9 = nI A.nc := (hp1.smM f1 lb).m9
      unfold fx_X12_laysRanks_69_l71
      dsimp only
      rw [m9, if_pos (le2 (by omega) (by omega) (Nat.le_refl _))]
      exact ⟨_, rfl, f1, f2⟩) (llF (by omega))
  unfold fx_X12_laysRanks_69
  rw [a1, Option.bind_some, b1]
  refine ⟨m2, rfl, a2.trans (b2.mono (by simp)), fun c hc => ⟨b3 c hc, ?_⟩⟩
  rw [(b2 85 (by decide)).2.2]
  exact (a3 c hc).2
