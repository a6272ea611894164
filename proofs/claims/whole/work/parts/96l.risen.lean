/-! close: how many have risen -/
theorem risen_x {A : Ab} {x u : llMem} (hn : A.nl ≤ 4) (h30 : u.1 3 0 = nI A.nl) (h : ∀ l, l < A.nl → WL u (4 * l) (upL A x l)) : fx_X3_risenInAll_63 u = some (nI (sumN (fun l => (upL A x l).length) A.nl)) := by
  unfold fx_X3_risenInAll_63
  have lp : loop (fx_X3_risenInAll_63_l4 u) llFuel (0, 0) = some (nI (sumN (fun l => (upL A x l).length) A.nl)) := by
    refine loop_sumN (fun l => (upL A x l).length) A.nl ?_ ?_ (llF (by omega))
    · intro i a hi
      unfold fx_X3_risenInAll_63_l4
      dsimp only
      rw [h30, if_neg (nle2 (by omega) (by omega) hi), countOf_x (w := 0) (W := 0) (h i hi) (by omega) (by decide) rfl, Option.bind_some, lt_eq, lt_eq, nI_1, nI_add]
    · intro a
      unfold fx_X3_risenInAll_63_l4
      dsimp only
      rw [h30, if_pos (le2 (by omega) (by omega) (Nat.le_refl _))]
  rw [lp]; rfl
