/-! the reference: the end of a season -/
def fl (A : Ab) (F : Nat → List Nat) (k c : Nat) : Int32 := match A.st c with
  | some (l, _) => b01 (decide (l < k) && (F l).contains c)
  | none => 0
theorem allB_iff {p : Nat → Bool} {n : Nat} : allB p n = true ↔ ∀ i, i < n → p i = true := by
  induction n with
  | zero => exact ⟨fun _ i hi => by omega, fun _ => rfl⟩
  | succ n ih =>
    show (allB p n && p n) = true ↔ _
    rw [Bool.and_eq_true, ih]
    refine ⟨fun h i hi => ?_, fun h => ⟨fun i hi => h i (by omega), h n (by omega)⟩⟩
    by_cases e : i = n
    · rw [e]; exact h.2
    · exact h.1 i (by omega)
theorem fl_step {A : Ab} {F : Nat → List Nat} {k c : Nat} {v : Int32} (hF : ∀ c, c ∈ F k → (A.st c).map Prod.fst = some k) (hv : v = fl A F k c) : (if c ∈ F k then 1 else v) = fl A F (k + 1) c := by
  rw [hv]
  unfold fl
  by_cases e : c ∈ F k
  · have := hF c e
    rw [if_pos e]
    cases hs : A.st c with
    | none => rw [hs] at this; cases this
    | some y =>
      obtain ⟨l, d⟩ := y
      rw [hs] at this
      have : l = k := by injection this
      subst this
      dsimp only
      rw [decide_eq_true (show l < l + 1 by omega), List.contains_iff_mem.mpr e]; rfl
  · rw [if_neg e]
    cases hs : A.st c with
    | none => rfl
    | some y =>
      obtain ⟨l, d⟩ := y
      dsimp only
      by_cases e2 : l = k
      · subst e2
        have : (F l).contains c = false := by
          cases q : (F l).contains c
          · rfl
          · exact absurd (List.contains_iff_mem.mp q) e
        rw [this, Bool.and_false, Bool.and_false]
      · have : decide (l < k + 1) = decide (l < k) := by rw [decide_eq_decide]; omega
        rw [this]
theorem fl_at {A : Ab} {F : Nat → List Nat} {k l c : Nat} (h : (A.st c).map Prod.fst = some l) : fl A F k c = b01 (decide (l < k) && (F l).contains c) := by
  obtain ⟨d, hd⟩ := lv_some h
  unfold fl
  rw [hd]
theorem fl_zero (A : Ab) (F : Nat → List Nat) (c : Nat) : fl A F 0 c = 0 := by
  unfold fl
  cases A.st c with
  | none => rfl
  | some y => obtain ⟨l, d⟩ := y; dsimp only; rw [decide_eq_false (by omega)]; rfl
theorem fl_ex {A : Ab} {F : Nat → List Nat} {k c : Nat} (h : F k = []) : fl A F (k + 1) c = fl A F k c := by
  have := fl_step (A := A) (F := F) (k := k) (c := c) (v := fl A F k c) (fun c hc => by rw [h] at hc; simp at hc) rfl
  rw [h, if_neg (by simp)] at this
  exact this.symm
def p1 (A : Ab) (x : llMem) (l : Nat) : Bool := decide (l = 0) || decide ((upL A x l).length = riN A x (l - 1))
def p2 (A : Ab) (x : llMem) (l : Nat) : Bool := decide (falN A x l ≤ (styL A x l).length)
/-- one level up -/
theorem ups_m {A : Ab} {x m : llMem} {mc : Nat} {ml : Nat → Nat × Nat} (hp : IPyr A x m) (hs : ISea A x m mc ml) {k : Nat} (hk : k + 1 < A.nl) (hO : OM2 A x m (k + 1)) (h0 : m.1 97 (k + 1) = 0) (hf : ∀ c, c ∈ ordL A x (k + 1) → m.1 92 c = 0) :
    ∃ m1 m', fx_X12_picks_69 m (nI (k + 1)) (nI (riN A x k)) 1 = some (m1, ()) ∧ fx_X12_picks_69 m1 (nI (k + 1)) (nI (riN A x k)) 0 = some (m', ()) ∧ Sm [92, 96, 97] m m1 ∧ GL m' (k + 1) (upL A x (k + 1)) ∧ Sm [92, 96, 97] m m' ∧ (∀ j, j ≠ k + 1 → m'.1 97 j = m.1 97 j) ∧ (∀ j, j / 12 ≠ k + 1 → m'.1 96 j = m.1 96 j) ∧ ∀ c, m'.1 92 c = if c ∈ upL A x (k + 1) then 1 else m.1 92 c := by
  have hW := (riN_le (x := x) hp (show k < A.nl by omega)).2
  have hq := upQ_len (x := x) hp hk
  obtain ⟨m1, a1, a2, a3, a4, a5, a6⟩ := picks_m hp hs hk hO hW (Q := []) ⟨h0, fun i hi => by simp at hi⟩ (by simp) true (by rw [f1_eq]; simp; omega) (fun c hc => by rw [hf c hc]; rfl) (fun c hc => by simp at hc)
  rw [f1_eq, List.nil_append] at a2 a6
  have hl2 : (((ordL A x (k + 1)).filter (mayB A x)).take (riN A x k)).length ≤ ((ordL A x (k + 1)).filter (mayB A x)).length := by rw [List.length_take]; omega
  have p1' := hp.smM a3 (fun c hc => by simp at hc; omega)
  have s1' := hs.smM a3 (fun c hc => by simp at hc; omega)
  obtain ⟨m2, b1, b2, b3, b4, b5, b6⟩ := picks_m p1' s1' hk (hO.sm a3 (by decide)) hW a2 (by rw [List.length_take]; omega) false (by rw [f2_eq]; omega) (fun c hc => by
      rw [a6 c, List.length_nil, List.drop_zero]
      by_cases e : c ∈ ((ordL A x (k + 1)).filter (mayB A x)).take (riN A x k)
      · rw [if_pos e, List.contains_iff_mem.mpr e]; rfl
      · rw [if_neg e, hf c hc]
        have : (((ordL A x (k + 1)).filter (mayB A x)).take (riN A x k)).contains c = false := by
          cases q : (((ordL A x (k + 1)).filter (mayB A x)).take (riN A x k)).contains c
          · rfl
          · exact absurd (List.contains_iff_mem.mp q) e
        rw [this]; rfl) (fun c hc => by
      have := (List.mem_filter.mp (List.mem_of_mem_take hc)).2
      rw [this]; cases rs x c <;> rfl)
  rw [f2_eq, take_take_app] at b2 b6
  have eU : upL A x (k + 1) = ((ordL A x (k + 1)).filter (mayB A x) ++ (ordL A x (k + 1)).filter (fun c => !rs x c && !mayB A x c)).take (riN A x k) := by
    unfold upL; rw [if_neg (by omega)]; rfl
  rw [← eU] at b2 b6
  refine ⟨m1, m2, a1, b1, a3, b2, a3.trans b3, fun j hj => (b4 j hj).trans (a4 j hj), fun j hj => (b5 j hj).trans (a5 j hj), fun c => ?_⟩
  rw [b6 c, a6 c]
  have tk : (upL A x (k + 1)).take (((ordL A x (k + 1)).filter (mayB A x)).take (riN A x k)).length = ((ordL A x (k + 1)).filter (mayB A x)).take (riN A x k) := by
    rw [eU, List.take_take, List.length_take, Nat.min_eq_left (by omega), List.take_append_of_le_length (by omega)]
    by_cases z : riN A x k ≤ ((ordL A x (k + 1)).filter (mayB A x)).length
    · rw [Nat.min_eq_left z]
    · rw [Nat.min_eq_right (by omega), List.take_of_length_le (Nat.le_refl _), List.take_of_length_le (by omega)]
  by_cases c1 : c ∈ (upL A x (k + 1)).drop (((ordL A x (k + 1)).filter (mayB A x)).take (riN A x k)).length
  · rw [if_pos c1, if_pos (List.mem_of_mem_drop c1)]
  · rw [if_neg c1, List.length_nil, List.drop_zero]
    by_cases c2 : c ∈ ((ordL A x (k + 1)).filter (mayB A x)).take (riN A x k)
    · rw [if_pos c2, if_pos]
      rw [← tk] at c2
      exact List.mem_of_mem_take c2
    · rw [if_neg c2, if_neg]
      intro z
      rw [← List.take_append_drop (((ordL A x (k + 1)).filter (mayB A x)).take (riN A x k)).length (upL A x (k + 1))] at z
      rcases List.mem_append.mp z with z | z
      · rw [tk] at z; exact c2 z
      · exact c1 z
theorem upL_st {A : Ab} {x : llMem} {l c : Nat} (h : c ∈ upL A x l) : (A.st c).map Prod.fst = some l := (ordL_mem.mp (upL_mem h).2.1).2
theorem dwnL_st {A : Ab} {x : llMem} {l c : Nat} (h : c ∈ dwnL A x l) : (A.st c).map Prod.fst = some l := (ordL_mem.mp (dwnL_mem h).2.1).2
theorem sprL_st {A : Ab} {x : llMem} {l c : Nat} (h : c ∈ sprL A x l) : (A.st c).map Prod.fst = some l := (ordL_mem.mp (sprL_mem h).2.1).2
def EndM (A : Ab) (x m m' : llMem) : Prop := Sm [81, 82, 83, 84, 85, 86, 87, 92, 93, 94, 95, 96, 97, 98, 99] m m' ∧ (∀ l, l < A.nl → OM2 A x m' l ∧ GL m' l (upL A x l)) ∧ ∀ c, c < A.nc → m'.1 92 c = fl A (upL A x) A.nl c ∧ m'.1 93 c = fl A (dwnL A x) A.nl c ∧ m'.1 94 c = b01 ((comL A x).contains c) ∧ m'.1 95 c = fl A (sprL A x) A.nl c
