/-! close: the class's steps -/
theorem forgetLevel_x {A : Ab} {m u : llMem} (hp : IPyr A u m) (a : Int32) : ∃ u', fx_X4_forgetLevel_52 u a = some (u', ()) ∧ Sm [53] u u' ∧ (∀ l, u'.1 53 l = 0 ∨ u'.1 53 l = u.1 53 l) ∧ ∀ l, l < A.nl → a = nI l → u'.1 53 l = 0 := by
  have hn := hp.nlB
  unfold fx_X4_forgetLevel_52
  rcases hasLevel_B hp a with ⟨k, hk, rfl, p1, _⟩ | ⟨p1, _⟩
  · rw [p1, Option.bind_some, if_neg (show ¬ (1 : Int32) = 0 by decide), gI_nI (by omega) (by decide), nI_clamp (by omega), lt_eq]
    refine ⟨_, rfl, Sm.SI (by decide), fun l => ?_, fun l hl e => ?_⟩
    · rw [SI_same]
      by_cases e : l = k
      · rw [e, upd_same]; exact Or.inl rfl
      · rw [upd_ne e]; exact Or.inr rfl
    · have := nI_inj (by omega) (by omega) e
      rw [← this, SI_same, upd_same]
  · rw [p1, Option.bind_some, if_pos rfl]
    refine ⟨u, rfl, Sm.refl _ _, fun l => Or.inr rfl, fun l hl e => ?_⟩
    rw [e, hasLevel_y hp hl] at p1
    injection p1 with p1
    exact absurd p1 (by decide)
theorem zz {a b : Int32} (h : b = 0 ∨ b = a) (h0 : a = 0) : b = 0 := by
  rcases h with h | h
  · exact h
  · rw [h, h0]
theorem zzz {a b c : Int32} (h1 : b = 0 ∨ b = a) (h2 : c = 0 ∨ c = b) : c = 0 ∨ c = a := by
  rcases h2 with h | h
  · exact Or.inl h
  · rw [h]; exact h1
theorem forgetChanged_x {A : Ab} {m u : llMem} (hp : IPyr A u m) (g : Nat → Int32) (hg : ∀ c, c < A.nc → u.1 68 c = g c) : ∃ u', fx_X4_forgetChanged_52_68 u = some (u', ()) ∧ Sm [53] u u' ∧ (∀ l, u'.1 53 l = 0 ∨ u'.1 53 l = u.1 53 l) ∧ ∀ c, c < A.nc → ¬ g c = lvI A c → ∀ l, l < A.nl → (g c = nI l ∨ lvI A c = nI l) → u'.1 53 l = 0 := by
  have hn := hp.ncB
  unfold fx_X4_forgetChanged_52_68
  obtain ⟨e, k1, k2, k3, k4⟩ := loop_inv (body := fx_X4_forgetChanged_52_68_l2) (fun i s => s.2 = nI i ∧ Sm [53] u s.1 ∧ (∀ l, s.1.1 53 l = 0 ∨ s.1.1 53 l = u.1 53 l) ∧ ∀ c, c < i → ¬ g c = lvI A c → ∀ l, l < A.nl → (g c = nI l ∨ lvI A c = nI l) → s.1.1 53 l = 0) (fun e => Sm [53] u e ∧ (∀ l, e.1 53 l = 0 ∨ e.1 53 l = u.1 53 l) ∧ ∀ c, c < A.nc → ¬ g c = lvI A c → ∀ l, l < A.nl → (g c = nI l ∨ lvI A c = nI l) → e.1 53 l = 0) A.nc llFuel (u, 0) ⟨rfl, Sm.refl _ _, fun _ => Or.inr rfl, fun c h => by omega⟩ (by
    rintro i ⟨s, v⟩ hi ⟨hv, f1, f2, f3⟩
    dsimp only at hv f1 f2 f3
    subst hv
    have ps : IPyr A s m := hp.sm f1 (fun c hc => by simp at hc; omega)
    unfold fx_X4_forgetChanged_52_68_l2 fx_X4_forgetChanged_52_68_j54_b2
    dsimp only
    simp only [gI_nI (show i < 30 by omega) (show 30 < 2 ^ 31 by decide), rI_n (show i < 2 ^ 31 by omega)]
    rw [ps.x35, if_neg (nle2 (by omega) (by omega) hi), if_neg (Lnle 30 (by omega) (by decide) (by omega)), (f1 68 (by decide)).1, hg i hi, (ps.cl hi).x12]
    by_cases e : g i = lvI A i
    · rw [if_pos e, lt_eq, nI_1]
      refine ⟨_, rfl, rfl, f1, f2, fun c hc ne => ?_⟩
      by_cases q : c = i
      · rw [q] at ne; exact absurd e ne
      · exact f3 c (by omega) ne
    · obtain ⟨u2, a1, a2, a3, a4⟩ := forgetLevel_x ps (g i)
      have p2 : IPyr A u2 m := ps.sm a2 (fun c hc => by simp at hc; omega)
      obtain ⟨u3, b1, b2, b3, b4⟩ := forgetLevel_x p2 (lvI A i)
      rw [if_neg e, a1, bd_mk, (p2.cl hi).x12, b1, bd_mk, lt_eq, nI_1]
      refine ⟨_, rfl, rfl, (f1.trans a2).trans b2, fun l => zzz (zzz (f2 l) (a3 l)) (b3 l), fun c hc ne l hl h => ?_⟩
      by_cases q : c = i
      · rw [q] at h
        rcases h with h | h
        · exact zz (b3 l) (a4 l hl h)
        · exact b4 l hl h
      · exact zz (b3 l) (zz (a3 l) (f3 c (by omega) ne l hl h))) (by
    rintro ⟨s, v⟩ ⟨hv, f1, f2, f3⟩
    dsimp only at hv f1 f2 f3
    subst hv
    have ps : IPyr A s m := hp.sm f1 (fun c hc => by simp at hc; omega)
    unfold fx_X4_forgetChanged_52_68_l2
    dsimp only
    rw [ps.x35, if_pos (le2 (by omega) (by omega) (Nat.le_refl _))]
    exact ⟨_, rfl, f1, f2, f3⟩) (llF (by omega))
  rw [k1, Option.bind_some]
  exact ⟨e, rfl, k2, k3, k4⟩
theorem moveClubs_x {u : llMem} {n : Nat} (hn : n ≤ 30) (h35 : u.1 3 5 = nI n) : ∃ u', fx_X3_moveClubs_63 u = some (u', ()) ∧ Sm [12] u u' ∧ ∀ c, c < n → u'.1 12 c = u.1 68 c := by
  unfold fx_X3_moveClubs_63
  obtain ⟨e, k1, k2, k3⟩ := loop_inv (body := fx_X3_moveClubs_63_l2) (fun i s => s.2 = nI i ∧ Sm [12] u s.1 ∧ ∀ c, c < i → s.1.1 12 c = u.1 68 c) (fun e => Sm [12] u e ∧ ∀ c, c < n → e.1 12 c = u.1 68 c) n llFuel (u, 0) ⟨rfl, Sm.refl _ _, fun c h => by omega⟩ (by
    rintro i ⟨s, v⟩ hi ⟨hv, f1, f2⟩
    dsimp only at hv f1 f2
    subst hv
    unfold fx_X3_moveClubs_63_l2
    dsimp only
    rw [(f1 3 (by decide)).1, h35, if_neg (nle2 (by omega) (by omega) hi), gI_nI (by omega) (by decide), gI_nI (by omega) (by decide), nI_clamp (by omega), rI_n (by omega), (f1 68 (by decide)).1, lt_eq, lt_eq, nI_1]
    refine ⟨_, rfl, rfl, f1.trans (Sm.SI (by decide)), fun c hc => ?_⟩
    dsimp only
    rw [SI_same]
    by_cases e : c = i
    · rw [e, upd_same]
    · rw [upd_ne e]; exact f2 c (by omega)) (by
    rintro ⟨s, v⟩ ⟨hv, f1, f2⟩
    dsimp only at hv f1 f2
    subst hv
    unfold fx_X3_moveClubs_63_l2
    dsimp only
    rw [(f1 3 (by decide)).1, h35, if_pos (le2 (by omega) (by omega) (Nat.le_refl _))]
    exact ⟨_, rfl, f1, f2⟩) (llF (by omega))
  rw [k1, Option.bind_some]
  exact ⟨e, rfl, k2, k3⟩
theorem plays_0 {A : Ab} {x m : llMem} (h : IPy0 A x m) {c : Nat} (hc : c < A.nc) : fx_X5_plays_3 x (nI c) = some (if (A.st c).isSome then 1 else 0) := by
  have hn := h.ncB
  have := (plays_c h.p hc).1
  unfold fx_X5_plays_3 fx_X5_isClub_3 fx_X5_hasLevel_3 at this ⊢
  simp only [rI_n (show c < 2 ^ 31 by omega), SA0_ne (show (3 : Nat) ≠ 13 by decide), SA0_ne (show (12 : Nat) ≠ 13 by decide)] at this ⊢
  exact this
/-- only cell c, of ints, has changed -/
def On (c : Nat) (u u' : llMem) : Prop := (∀ i, i ≠ c → u'.1 i = u.1 i) ∧ u'.2 = u.2
theorem On.refl (c : Nat) (u : llMem) : On c u u := ⟨fun _ _ => rfl, rfl⟩
theorem On.trans {c : Nat} {u v w : llMem} (h1 : On c u v) (h2 : On c v w) : On c u w := ⟨fun i hi => (h2.1 i hi).trans (h1.1 i hi), h2.2.trans h1.2⟩
theorem On.SI (c : Nat) (u : llMem) (k : Nat) (v : Int32) : On c u (llSI u c k v) := ⟨fun i hi => SI_ne hi, rfl⟩
theorem On.sm {c : Nat} {u v : llMem} (h : On c u v) : Sm [c] u v := fun i hi => ⟨h.1 i (fun q => hi (by rw [q]; exact List.mem_singleton.mpr rfl)), by rw [h.2], by rw [h.2]⟩
theorem IPy0.on13 {A : Ab} {x x' m : llMem} (h : IPy0 A x m) (hs : On 13 x x') : IPy0 A x' m := h.ofc (fun c hc => by
  simp only [List.mem_cons, List.not_mem_nil, or_false] at hc
  exact ⟨hs.1 c (by omega), by rw [hs.2]⟩) (by rw [hs.2]) rfl (fun _ _ => ⟨rfl, rfl⟩) rfl rfl
theorem IPy0.on75 {A : Ab} {x m m' : llMem} (h : IPy0 A x m) (hs : On 75 m m') : IPy0 A x m' := h.ofc (fun _ _ => ⟨rfl, rfl⟩) rfl (by rw [hs.2]) (fun c hc => by
  simp only [List.mem_cons, List.not_mem_nil, or_false] at hc
  exact ⟨hs.1 c (by omega), by rw [hs.2]⟩) (by rw [hs.1 69 (by decide)]) (by rw [hs.1 69 (by decide)])
theorem settle_x {A : Ab} {m u : llMem} (h : IPy0 A u m) (hca : ICa A u) (hd : ∀ c l d, c < A.nc → A.st c = some (l, d) → l < A.nl ∧ ∃ a P, a < A.dv l * A.sz l ∧ bestP A l = some P ∧ (rowOf A l).getD a 0 = c ∧ d = ixP P a) : ∃ u', fx_X4_settle_52 u = some (u', ()) ∧ Sm [13, 52, 53, 54, 55, 56, 57, 58, 59, 60, 61, 62] u u' ∧ ICa A u' ∧ (∀ c, c < A.nc → u'.1 13 c = dvI A c) ∧ u'.2.1 13 = u.2.1 13 := by
  have hn := h.ncB
  have hn2 := h.nlB
  unfold fx_X4_settle_52
  obtain ⟨e, k1, k2, k3, k4⟩ := loop_inv (body := fx_X4_settle_52_l2) (fun l s => s.2 = nI l ∧ Sm [52, 53, 54, 55, 56, 57, 58, 59, 60, 61, 62] u s.1 ∧ ICa A s.1 ∧ ∀ k, k < l → ¬ s.1.1 53 k = 0) (fun e => Sm [52, 53, 54, 55, 56, 57, 58, 59, 60, 61, 62] u e ∧ ICa A e ∧ ∀ k, k < A.nl → ¬ e.1 53 k = 0) A.nl llFuel (u, 0) ⟨rfl, Sm.refl _ _, hca, fun k h => by omega⟩ (by
    rintro l ⟨s, v⟩ hl ⟨hv, f1, f2, f3⟩
    dsimp only at hv f1 f2 f3
    subst hv
    have ps : IPy0 A s m := h.sm f1 (fun c hc => by simp only [List.mem_cons, List.not_mem_nil, or_false] at hc; omega)
    obtain ⟨s', a1, a2, a3, a4, a5⟩ := partAnew_x ps f2 hl
    unfold fx_X4_settle_52_l2
    dsimp only
    rw [ps.x30, if_neg (nle2 (by omega) (by omega) hl), a1, bd_mk, lt_eq, nI_1]
    refine ⟨_, rfl, rfl, f1.trans a2, a3, fun k hk => ?_⟩
    by_cases e : k = l
    · rw [e]; exact a4
    · exact a5 k (f3 k (by omega))) (by
    rintro ⟨s, v⟩ ⟨hv, f1, f2, f3⟩
    dsimp only at hv f1 f2 f3
    subst hv
    have ps : IPy0 A s m := h.sm f1 (fun c hc => by simp only [List.mem_cons, List.not_mem_nil, or_false] at hc; omega)
    unfold fx_X4_settle_52_l2
    dsimp only
    rw [ps.x30, if_pos (le2 (by omega) (by omega) (Nat.le_refl _))]
    exact ⟨_, rfl, f1, f2, f3⟩) (llF (by omega))
  rw [k1, Option.bind_some]
  have pe : IPy0 A e m := h.sm k2 (fun c hc => by simp only [List.mem_cons, List.not_mem_nil, or_false] at hc; omega)
  have d55 : ∀ c l d, c < A.nc → A.st c = some (l, d) → e.1 55 c = nI d := fun c l d hc hs => by
    obtain ⟨hl, a, P, ha, hP, hg, hdx⟩ := hd c l d hc hs
    obtain ⟨P', q1, q2, q3⟩ := k3.at hl (k4 l hl)
    rw [hP] at q1
    injection q1 with q1
    subst q1
    rw [← hg, hdx]; exact q3 a ha
  obtain ⟨e2, j1, j2, j3⟩ := loop_inv (body := fx_X4_settle_52_l26) (fun i s => s.2 = nI i ∧ On 13 e s.1 ∧ ∀ c, c < i → s.1.1 13 c = dvI A c) (fun t => On 13 e t ∧ ∀ c, c < A.nc → t.1 13 c = dvI A c) A.nc llFuel (e, 0) ⟨rfl, On.refl _ _, fun c h => by omega⟩ (by
    rintro i ⟨s, v⟩ hi ⟨hv, f1, f2⟩
    dsimp only at hv f1 f2
    subst hv
    have ps : IPy0 A s m := pe.on13 f1
    have fin : ∀ t : Int32, t = dvI A i → ∃ s' : llMem × Int32, gI (nI i) 30 (lt (llSI s 13 (Int32.toNatClampNeg (nI i)) t) (fun u5 => lt (nI i + 1) (fun v1_6 => some (Sum.inl (u5, v1_6) : (llMem × Int32) ⊕ llMem)))) = some (Sum.inl s' : (llMem × Int32) ⊕ llMem) ∧ (s'.2 = nI (i + 1) ∧ On 13 e s'.1 ∧ ∀ c, c < i + 1 → s'.1.1 13 c = dvI A c) := by
      intro t ht
      rw [gI_nI (by omega) (by decide), nI_clamp (by omega), lt_eq, lt_eq, nI_1]
      refine ⟨_, rfl, rfl, f1.trans (On.SI 13 s i t), fun c hc => ?_⟩
      dsimp only
      rw [SI_same]
      by_cases q : c = i
      · rw [q, upd_same, ht]
      · rw [upd_ne q]; exact f2 c (by omega)
    unfold fx_X4_settle_52_l26 fx_X4_settle_52_j66_b26
    dsimp only
    rw [ps.x35, if_neg (nle2 (by omega) (by omega) hi), plays_0 ps hi, Option.bind_some]
    cases hs : A.st i with
    | none =>
      rw [if_pos (show (if (none : Option (Nat × Nat)).isSome = true then (1 : Int32) else 0) = 0 from rfl)]
      exact fin (-1) (lvI_none hs).2.2.symm
    | some y =>
      obtain ⟨l, d⟩ := y
      have n1 : ¬ (if (some (l, d) : Option (Nat × Nat)).isSome = true then (1 : Int32) else 0) = 0 := by
        rw [if_pos (show (some (l, d) : Option (Nat × Nat)).isSome = true from rfl)]; decide
      rw [if_neg n1, gI_nI (show i < 30 by omega) (by decide), rI_n (by omega), f1.1 55 (by decide), d55 i l d hi hs]
      exact fin (nI d) (lvI_some hs).2.symm) (by
    rintro ⟨s, v⟩ ⟨hv, f1, f2⟩
    dsimp only at hv f1 f2
    subst hv
    have ps : IPy0 A s m := pe.on13 f1
    unfold fx_X4_settle_52_l26
    dsimp only
    rw [ps.x35, if_pos (le2 (by omega) (by omega) (Nat.le_refl _))]
    exact ⟨_, rfl, f1, f2⟩) (llF (by omega))
  rw [j1, Option.bind_some]
  refine ⟨e2, rfl, (k2.mono (by decide)).trans (j2.sm.mono (by decide)), ?_, j3, by rw [j2.2]; exact (k2 13 (by decide)).2.1⟩
  unfold ICa at k3 ⊢
  rw [j2.1 53 (by decide), j2.1 54 (by decide), j2.1 55 (by decide), j2.1 60 (by decide)]
  exact k3
