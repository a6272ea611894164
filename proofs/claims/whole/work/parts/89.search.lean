/-! the search for the best parting: lists -/
def up1 {α : Type} (c : α → Nat) (b : Option α) (p : α) : Option α := match b with
  | none => some p
  | some q => if c p < c q then some p else some q
theorem up1_fold {α : Type} (c : α → Nat) (L : List α) (p : α) : L.foldl (up1 c) (some p) = some (L.foldl (fun b q => if c q < c b then q else b) p) := by
  induction L generalizing p with
  | nil => rfl
  | cons q L ih =>
    rw [List.foldl_cons, List.foldl_cons]
    have : up1 c (some p) q = some (if c q < c p then q else p) := by
      show (if c q < c p then some q else some p) = _
      by_cases e : c q < c p
      · rw [if_pos e, if_pos e]
      · rw [if_neg e, if_neg e]
    rw [this]; exact ih _
theorem up1_first {α : Type} (c : α → Nat) (L : List α) : L.foldl (up1 c) none = firstMin c L := by
  cases L with
  | nil => rfl
  | cons p L => exact up1_fold c L p
theorem up1_prune {α : Type} {c : α → Nat} {q : α} {L : List α} (h : ∀ p, p ∈ L → c q ≤ c p) : L.foldl (up1 c) (some q) = some q := by
  induction L with
  | nil => rfl
  | cons p L ih =>
    rw [List.foldl_cons]
    have : up1 c (some q) p = some q := by
      show (if c p < c q then some p else some q) = _
      have := h p (List.mem_cons_self ..)
      rw [if_neg (by omega)]
    rw [this]
    exact ih (fun p hp => h p (List.mem_cons_of_mem _ hp))
theorem combos_sub : ∀ {L : List Nat} {k : Nat} {b : List Nat}, b ∈ combos k L → b.Sublist L ∧ b.length = k
  | L, 0, b, h => by
    unfold combos at h
    rw [List.mem_singleton] at h
    subst h
    exact ⟨List.nil_sublist _, rfl⟩
  | [], k + 1, b, h => by
    unfold combos at h
    simp at h
  | a :: L, k + 1, b, h => by
    unfold combos at h
    rcases List.mem_append.mp h with h | h
    · obtain ⟨b', h1, rfl⟩ := List.mem_map.mp h
      obtain ⟨h2, h3⟩ := combos_sub h1
      exact ⟨h2.cons_cons a, by rw [List.length_cons, h3]⟩
    · obtain ⟨h2, h3⟩ := combos_sub h
      exact ⟨h2.cons a, h3⟩
theorem combos_none : ∀ {L : List Nat} {k : Nat}, L.length < k → combos k L = []
  | L, 0, h => by omega
  | [], k + 1, _ => by unfold combos; rfl
  | a :: L, k + 1, h => by
    rw [List.length_cons] at h
    unfold combos
    rw [combos_none (by omega), combos_none (by omega)]; rfl
theorem combos_full : ∀ (L : List Nat), combos L.length L = [L]
  | [] => rfl
  | a :: L => by
    rw [List.length_cons]
    unfold combos
    rw [combos_full L, combos_none (by omega)]; rfl
theorem all_cg {b : List Nat} {p q : Nat → Bool} (h : ∀ z, z ∈ b → p z = q z) : b.all p = b.all q := by
  induction b with
  | nil => rfl
  | cons a b ih =>
    rw [List.all_cons, List.all_cons, h a (List.mem_cons_self ..), ih (fun z hz => h z (List.mem_cons_of_mem _ hz))]
theorem combos_filter {t L : List Nat} (h : t.Sublist L) : L.Nodup → ∀ k, (combos k L).filter (fun b => b.all (fun z => t.contains z)) = combos k t := by
  induction h with
  | slnil =>
    intro _ k
    cases k with
    | zero => rfl
    | succ k => rfl
  | @cons t L a h ih =>
    intro hn k
    rw [List.nodup_cons] at hn
    cases k with
    | zero => unfold combos; rfl
    | succ k =>
      have e : combos (k + 1) (a :: L) = (combos k L).map (fun b => a :: b) ++ combos (k + 1) L := by
        rw [combos]
      rw [e, List.filter_append, ih hn.2, List.filter_eq_nil_iff.mpr, List.nil_append]
      intro b hb
      obtain ⟨b', _, rfl⟩ := List.mem_map.mp hb
      rw [List.all_cons, contains_f (fun q => hn.1 (h.subset q)), Bool.false_and]
      decide
  | @cons_cons t L a h ih =>
    intro hn k
    rw [List.nodup_cons] at hn
    cases k with
    | zero => unfold combos; rfl
    | succ k =>
      have e : ∀ M, combos (k + 1) (a :: M) = (combos k M).map (fun b => a :: b) ++ combos (k + 1) M := fun M => by
        rw [combos]
      have same : ∀ j b, b ∈ combos j L → b.all (fun z => (a :: t).contains z) = b.all (fun z => t.contains z) := fun j b hb => by
        refine all_cg (fun z hz => ?_)
        have : z ≠ a := fun q => hn.1 (q ▸ (combos_sub hb).1.subset hz)
        rw [List.contains_eq_mem, List.contains_eq_mem, decide_eq_decide, List.mem_cons]
        exact ⟨fun y => by rcases y with y | y; exact absurd y this; exact y, Or.inr⟩
      rw [e, e, List.filter_append, List.filter_map]
      congr 1
      · rw [← ih hn.2 k]
        congr 1
        refine List.filter_congr (fun b hb => ?_)
        show (a :: b).all _ = _
        rw [List.all_cons, contains_t (List.mem_cons_self ..), Bool.true_and]
        exact same k b hb
      · rw [← ih hn.2 (k + 1)]
        exact List.filter_congr (fun b hb => same _ b hb)
theorem costP_app (f : Nat → Nat → Nat) (P Q : List (List Nat)) : costP f (P ++ Q) = costP f P + costP f Q := by
  unfold costP
  rw [List.map_append, List.sum_append]
theorem blocks_one {s : Nat} {R : List Nat} (h : R.length = s) (hs : 0 < s) : blocks s 1 R = [[R]] := by
  cases R with
  | nil => simp at h; omega
  | cons a t =>
    rw [List.length_cons] at h
    rw [blocks, show s - 1 = t.length by omega, combos_full]
    simp [blocks]
