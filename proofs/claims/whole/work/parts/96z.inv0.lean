/-! the start: nothing told; the law's loop -/
theorem inv0 : Inv llU0 llU0 := by
  refine ⟨(0, 0, fun _ => 0, fun _ => 0, fun _ => 0, fun _ => 0, fun _ => 0, fun _ => 0, fun _ => [], fun _ => none, fun _ => false, fun _ _ => 0), 0, fun _ => (0, 0), 0, fun _ => 0, ?_, ?_, ?_, ?_, ?_, ?_, ?_, ?_, ?_⟩
  · exact ⟨Nat.zero_le _, rfl, rfl, fun l hl => absurd hl (Nat.not_lt_zero l), Nat.zero_le _, rfl, rfl, fun c hc => absurd hc (Nat.not_lt_zero c), fun l d hl => absurd hl (Nat.not_lt_zero l), fun a b ha => absurd ha (Nat.not_lt_zero a)⟩
  · have s17 : ∀ k, k < 900 → llU0.1 17 k = -1 := fun k hk => by
      show cFl 900 (-1) (fun _ => 0) k = -1
      unfold cFl
      rw [if_pos hk]
    refine ⟨fun c hc => absurd hc (Nat.not_lt_zero c), fun k hk => ?_, ⟨Nat.zero_le _, rfl, fun i hi => absurd hi (Nat.not_lt_zero i), fun i j hi => absurd hi (Nat.not_lt_zero i), fun h a hh ha _ => s17 _ (by omega)⟩, fun c hc => ⟨rfl, rfl, rfl, rfl, rfl⟩⟩
    rw [s17 k hk]
    show cNow 900 (120 + k) = -1
    unfold cNow
    rw [if_pos ⟨by omega, by omega⟩]
  · exact ⟨Nat.zero_le _, rfl, rfl, rfl, fun j hj => absurd hj (Nat.not_lt_zero j)⟩
  · exact ⟨rfl, fun l hl => absurd hl (Nat.not_lt_zero l)⟩
  · exact ⟨0, Nat.zero_le _, rfl, rfl, fun k hk => absurd hk (Nat.not_lt_zero k)⟩
  · exact ⟨fun _ => 0, 0, TXz rfl, TMz rfl⟩
  · exact ⟨rfl, rfl⟩
  · rfl
  · exact fun c hc => absurd hc (Nat.not_lt_zero c)
theorem law_pure (L : Nat) (xs : Nat → Int32) (hL : L ≤ 3072) : ∃ r, loop (fx_L_law_l18 L xs) llFuel (llU0, 0) = some r := by
  obtain ⟨e, h1, _⟩ := loop_inv (body := fx_L_law_l18 L xs) (fun k s => s.2 = nI (6 * k) ∧ Inv s.1 s.1) (fun _ => True) (L / 6) llFuel (llU0, 0) ⟨rfl, inv0⟩ (by
    rintro k ⟨s, v⟩ hk ⟨hv, hI⟩
    dsimp only at hv hI
    subst hv
    obtain ⟨u', g1, g2⟩ := law_step (xs := xs) (i := 6 * k) hI hL (by omega)
    exact ⟨_, g1, nI_add (6 * k) 6, g2⟩) (by
    rintro ⟨s, v⟩ ⟨hv, hI⟩
    dsimp only at hv hI
    subst hv
    unfold fx_L_law_l18
    dsimp only
    rw [if_pos ((law_lt hL (show 6 * (L / 6) ≤ 3072 by omega)).mpr (by omega))]
    exact ⟨_, rfl, trivial⟩) (llF (by omega))
  exact ⟨e, h1⟩
theorem whole_start {p : Program} {e : Env} {s : State} {m : MethodId} {below : List Frame} {meth : Method} {c : Code} (l : Launch) (hflags : l.flags = flags0) {b L : Nat} {xs : Nat → Int32} (hL : L ≤ 3072) (C0 : lw_At p s m meth c b L xs) : W p l e room_1 s m #[Value.ref b] below meth c s.heap [] 0 0 (lw_Z below #[Value.ref b] s) (entryFrame m ([Value.ref b] : List Value).toArray 4) := whole_start_open law_pure l hL C0
