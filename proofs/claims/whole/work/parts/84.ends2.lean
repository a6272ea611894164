theorem ends_m {A : Ab} {x m : llMem} {mc : Nat} {ml : Nat → Nat × Nat} (hp : IPyr A x m) (hs : ISea A x m mc ml) :
    ∃ m', fx_X12_ends_69 m = some (m', b01 (canE A x)) ∧ Sm [81, 82, 83, 84, 85, 86, 87, 92, 93, 94, 95, 96, 97, 98, 99] m m' ∧ (0 < A.nl → EndM A x m m') := by
  have hn := hp.ncB
  have hn2 := hp.nlB
  unfold fx_X12_ends_69
  rw [hp.m1]
  by_cases z0 : A.nl = 0
  · rw [z0, if_neg (show ¬ ¬ nI 0 = 0 from fun z => z rfl), gB_0]
    have hc : canE A x = false := by unfold canE; rw [decide_eq_false (by omega), Bool.false_and, Bool.false_and]
    exact ⟨m, by rw [hc]; rfl, Sm.refl _ _, fun q => by omega⟩
  · have hnz : ¬ nI A.nl = 0 := fun q => z0 (nI_inj (by omega) (by decide) (q.trans rfl))
    rw [if_pos hnz]
    obtain ⟨u1, a1, a2, a3, a4⟩ := laysOrders_m hp hs
    have pu1 := hp.smM a2 (fun c hc => by simp at hc; omega)
    have su1 := hs.smM a2 (fun c hc => by simp at hc; omega)
    obtain ⟨u2, b1, b2, b3⟩ := laysWanting_m (m := u1) pu1 su1
    have pu2 := pu1.smM b2 (fun c hc => by simp at hc; omega)
    have su2 := su1.smM b2 (fun c hc => by simp at hc; omega)
    rw [a1, bd_mk, b1, bd_mk]
    -- no flag yet
    obtain ⟨e8, c1, c2, c3⟩ := loop_inv (body := fx_X12_ends_69_l19) (fun i s => s.2 = nI i ∧ Sm [92, 93, 94, 95] u2 s.1 ∧ ∀ c, c < i → s.1.1 92 c = 0 ∧ s.1.1 93 c = 0 ∧ s.1.1 94 c = 0 ∧ s.1.1 95 c = 0) (fun e => Sm [92, 93, 94, 95] u2 e ∧ ∀ c, c < A.nc → e.1 92 c = 0 ∧ e.1 93 c = 0 ∧ e.1 94 c = 0 ∧ e.1 95 c = 0) A.nc llFuel (u2, 0) ⟨rfl, Sm.refl _ _, fun c hc => by omega⟩ (by
      rintro i ⟨s, v⟩ hi ⟨hv, f1, f2⟩
      dsimp only at hv f1 f2
      subst hv
      unfold fx_X12_ends_69_l19
      dsimp only
      rw [(f1 69 (by decide)).1, pu2.m9, if_neg (nle2 (by omega) (by omega) hi)]
      simp only [gI_nI (show i < 30 by omega) (show 30 < 2 ^ 31 by decide), nI_clamp (show i < 2 ^ 31 by omega), lt_eq, nI_1, nar_0]
      refine ⟨_, rfl, rfl, f1.trans ((((Sm.SI (by decide)).trans (Sm.SI (by decide))).trans (Sm.SI (by decide))).trans (Sm.SI (by decide))), fun c hc => ?_⟩
      dsimp only
      simp only [SI_same, SI_ne (show (92 : Nat) ≠ 93 by decide), SI_ne (show (92 : Nat) ≠ 94 by decide), SI_ne (show (92 : Nat) ≠ 95 by decide), SI_ne (show (93 : Nat) ≠ 92 by decide), SI_ne (show (93 : Nat) ≠ 94 by decide), SI_ne (show (93 : Nat) ≠ 95 by decide), SI_ne (show (94 : Nat) ≠ 92 by decide), SI_ne (show (94 : Nat) ≠ 93 by decide), SI_ne (show (94 : Nat) ≠ 95 by decide), SI_ne (show (95 : Nat) ≠ 92 by decide), SI_ne (show (95 : Nat) ≠ 93 by decide), SI_ne (show (95 : Nat) ≠ 94 by decide)]
      by_cases ec : c = i
      · rw [ec]; simp only [upd_same]; exact ⟨trivial, trivial, trivial, trivial⟩
      · simp only [upd_ne ec]; exact f2 c (by omega)) (by
      rintro ⟨s, v⟩ ⟨hv, f1, f2⟩
      dsimp only at hv f1 f2
      subst hv
      unfold fx_X12_ends_69_l19
      dsimp only
      rw [(f1 69 (by decide)).1, pu2.m9, if_pos (le2 (by omega) (by omega) (Nat.le_refl _))]
      exact ⟨_, rfl, f1, f2⟩) (llF (by omega))
    obtain ⟨e12, d1, d2, d3⟩ := loop_inv (body := fx_X12_ends_69_l65 1) (fun i s => s.2 = nI i ∧ Sm [97, 99] e8 s.1 ∧ ∀ l, l < i → s.1.1 97 l = 0) (fun e => Sm [97, 99] e8 e ∧ ∀ l, l < 4 → e.1 97 l = 0) 4 llFuel (e8, 0) ⟨rfl, Sm.refl _ _, fun c hc => by omega⟩ (by
      rintro i ⟨s, v⟩ hi ⟨hv, f1, f2⟩
      dsimp only at hv f1 f2
      subst hv
      unfold fx_X12_ends_69_l65
      dsimp only
      rw [if_neg (Lnle 4 (by omega) (by decide) hi)]
      simp only [gI_nI hi (show 4 < 2 ^ 31 by decide), nI_clamp (show i < 2 ^ 31 by omega), lt_eq, nI_1]
      refine ⟨_, rfl, rfl, f1.trans ((Sm.SI (by decide)).trans (Sm.SI (by decide))), fun l hl => ?_⟩
      dsimp only
      rw [SI_ne (by decide), SI_same]
      by_cases ec : l = i
      · rw [ec, upd_same]
      · rw [upd_ne ec]; exact f2 l (by omega)) (by
      rintro ⟨s, v⟩ ⟨hv, f1, f2⟩
      dsimp only at hv f1 f2
      subst hv
      unfold fx_X12_ends_69_l65
      dsimp only
      rw [if_pos (Lle 4 (by decide) (by decide) (Nat.le_refl _))]
      exact ⟨_, rfl, f1, f2⟩) (llF (by decide))
    have S12 : Sm [92, 93, 94, 95, 97, 99] u2 e12 := (c2.mono (by decide)).trans (d2.mono (by decide))
    have pe := pu2.smM S12 (fun c hc => by simp at hc; omega)
    have se := su2.smM S12 (fun c hc => by simp at hc; omega)
    have Oe : ∀ l, l < A.nl → OM2 A x e12 l := fun l hl => by
      have h1 : OM2 A x u1 l := a4 l hl
      exact (h1.sm b2 (by decide)).sm S12 (by decide)
    have w98 : ∀ l, l < A.nl → e12.1 98 l = nI (wanB A x (l + 1)) := fun l hl => by rw [(S12 98 (by decide)).1]; exact b3 l hl
    have fe : ∀ c, c < A.nc → e12.1 92 c = 0 ∧ e12.1 93 c = 0 ∧ e12.1 94 c = 0 ∧ e12.1 95 c = 0 := fun c hc => by
      rw [(d2 92 (by decide)).1, (d2 93 (by decide)).1, (d2 94 (by decide)).1, (d2 95 (by decide)).1]; exact c3 c hc
    rw [c1, Option.bind_some, d1, Option.bind_some]
    -- up
    obtain ⟨⟨e18, v18⟩, g1, g2, g3, g4, g5, g6⟩ := loop_inv (body := fx_X12_ends_69_l92) (fun k s => s.2 = (b01 (allB (p1 A x) (k + 1)), nI k) ∧ Sm [92, 96, 97, 99] e12 s.1 ∧ (∀ l, l ≤ k → GL s.1 l (upL A x l)) ∧ (∀ l, k < l → l < 4 → s.1.1 97 l = 0) ∧ (∀ l, l < k → s.1.1 99 l = nI (riN A x l)) ∧ ∀ c, c < A.nc → s.1.1 92 c = fl A (upL A x) (k + 1) c) (fun e => e.2 = b01 (allB (p1 A x) A.nl) ∧ Sm [92, 96, 97, 99] e12 e.1 ∧ (∀ l, l < A.nl → GL e.1 l (upL A x l)) ∧ (∀ l, l + 1 < A.nl → e.1.1 99 l = nI (riN A x l)) ∧ ∀ c, c < A.nc → e.1.1 92 c = fl A (upL A x) A.nl c) (A.nl - 1) llFuel (e12, 1, 0) ⟨rfl, Sm.refl _ _, fun l hl => by
        rw [show l = 0 by omega]
        exact ⟨d3 0 (by decide), fun i hi => by unfold upL at hi; rw [if_pos rfl] at hi; simp at hi⟩, fun l _ hl => d3 l hl, fun l hl => by omega, fun c hc => by
        rw [fl_ex (by unfold upL; rw [if_pos rfl]), fl_zero]; exact (fe c hc).1⟩ (by
      rintro k ⟨s, v⟩ hk ⟨hv, f1, f2, f3, f4, f5⟩
      dsimp only at hv f1 f2 f3 f4 f5
      subst hv
      have pS := pe.smM f1 (fun c hc => by simp at hc; omega)
      have sS := se.smM f1 (fun c hc => by simp at hc; omega)
      have hm2 : (4 : Int32) * nI k + 2 = nI (4 * k + 2) := ix4 k 2
      have h98 : s.1 98 k = nI (wanB A x (k + 1)) := by rw [(f1 98 (by decide)).1]; exact w98 k (by omega)
      have h70 := (pS.lv (show k < A.nl by omega)).2.2.2.2.2.2.1
      have hdn := (pS.lv (show k < A.nl by omega)).2.2.2.2.2.2.2.2.2.2.2.2.2.1
      have hwb := wanB_le A x (k + 1)
      have hmb := mayN_le A x (k + 1)
      have hri : riN A x k ≤ 30 := (riN_le (x := x) hp (show k < A.nl by omega)).2
      unfold fx_X12_ends_69_l92 fx_X12_ends_69_j199_b92 fx_X12_ends_69_j200_b92
      dsimp only
      rw [pS.m1, nI_1, if_neg (nle2 (by omega) (by omega) (by omega)), hm2, mayFrom_m pS sS (by omega)]
      simp only [gI_nI (show k < 4 by omega) (show 4 < 2 ^ 31 by decide), gI_nI (show 4 * k + 2 < 32 by omega) (show 32 < 2 ^ 31 by decide), rI_n (show k < 2 ^ 31 by omega), rI_n (show 4 * k + 2 < 2 ^ 31 by omega), nI_clamp (show k < 2 ^ 31 by omega), h70, h98, Option.bind_some, lt_eq, nI_max (show A.dn k < 2 ^ 31 by omega) (show wanB A x (k + 1) < 2 ^ 31 by omega), nI_min (show mayN A x (k + 1) < 2 ^ 31 by omega) (show max (A.dn k) (wanB A x (k + 1)) < 2 ^ 31 by omega), nI_max (show wanB A x (k + 1) < 2 ^ 31 by omega) (show min (mayN A x (k + 1)) (max (A.dn k) (wanB A x (k + 1))) < 2 ^ 31 by omega)]
      have eR : max (wanB A x (k + 1)) (min (mayN A x (k + 1)) (max (A.dn k) (wanB A x (k + 1)))) = riN A x k := by unfold riN; omega
      rw [eR]
      have f99 : (llSI s 99 k (nI (riN A x k))).1 99 k = nI (riN A x k) := by rw [SI_same, upd_same]
      have f1' : Sm [92, 96, 97, 99] e12 (llSI s 99 k (nI (riN A x k))) := f1.trans (Sm.SI (by decide))
      have pS' := pe.smM f1' (fun c hc => by simp at hc; omega)
      have sS' := se.smM f1' (fun c hc => by simp at hc; omega)
      obtain ⟨m1, m2, q1, q2, q3, q4, q5, q6, q7, q8⟩ := ups_m pS' sS' (show k + 1 < A.nl by omega) ((Oe (k + 1) (by omega)).sm f1' (by decide)) (by rw [SI_ne (by decide)]; exact f3 (k + 1) (by omega) (by omega)) (fun c hc => by
        obtain ⟨z1, z2⟩ := ordL_mem.mp hc
        rw [SI_ne (by decide), f5 c z1, fl_at z2, decide_eq_false (by omega)]; rfl)
      rw [f99, q1, bd_mk, (q3 99 (by decide)).1, f99, q2, bd_mk, gI_nI (by omega) (by decide), rI_n (by omega), q4.1, (q5 99 (by decide)).1, f99]
      have hul := upL_len (x := x) hp (show k + 1 < A.nl by omega)
      have eP : allB (p1 A x) (k + 1 + 1) = (allB (p1 A x) (k + 1) && decide ((upL A x (k + 1)).length = riN A x k)) := by
        show (allB (p1 A x) (k + 1) && p1 A x (k + 1)) = _
        unfold p1
        rw [decide_eq_false (show ¬ k + 1 = 0 by omega), Bool.false_or]; rfl
      have res : ∀ t, t = b01 (allB (p1 A x) (k + 1 + 1)) → ∃ s', (some (Sum.inl (m2, t, nI (k + 1))) : Option ((llMem × Int32 × Int32) ⊕ (llMem × Int32))) = some (.inl s') ∧ s'.2 = (b01 (allB (p1 A x) (k + 1 + 1)), nI (k + 1)) ∧ Sm [92, 96, 97, 99] e12 s'.1 ∧ (∀ l, l ≤ k + 1 → GL s'.1 l (upL A x l)) ∧ (∀ l, k + 1 < l → l < 4 → s'.1.1 97 l = 0) ∧ (∀ l, l < k + 1 → s'.1.1 99 l = nI (riN A x l)) ∧ ∀ c, c < A.nc → s'.1.1 92 c = fl A (upL A x) (k + 1 + 1) c := by
        intro t ht
        refine ⟨_, rfl, by rw [ht], f1'.trans (q5.mono (by decide)), fun l hl => ?_, fun l hl h4 => ?_, fun l hl => ?_, fun c hc => ?_⟩
        · by_cases el : l = k + 1
          · rw [el]; exact q4
          · have hl' := f2 l (by omega)
            have ul := upL_len (x := x) hp (show l < A.nl by omega)
            refine ⟨?_, fun i hi => ?_⟩
            · rw [q6 l el, SI_ne (by decide)]; exact hl'.1
            · rw [q7 _ (by omega), SI_ne (by decide)]; exact hl'.2 i hi
        · rw [q6 l (by omega), SI_ne (by decide)]; exact f3 l (by omega) h4
        · rw [(q5 99 (by decide)).1, SI_same]
          by_cases el : l = k
          · rw [el, upd_same]
          · rw [upd_ne el]; exact f4 l (by omega)
        · rw [q8 c, SI_ne (by decide)]
          exact fl_step (fun c hc => upL_st hc) (f5 c hc)
      cases qa : allB (p1 A x) (k + 1)
      · rw [if_pos (show b01 false = 0 from rfl)]
        exact res _ (by rw [eP, qa]; rfl)
      · rw [if_neg (show ¬ b01 true = 0 by decide)]
        by_cases el : (upL A x (k + 1)).length = riN A x k
        · rw [el, if_neg (fun z => z rfl)]
          exact res _ (by rw [eP, qa, el, decide_eq_true rfl]; rfl)
        · rw [if_pos (fun z => el (nI_inj (by omega) (by omega) z))]
          exact res _ (by rw [eP, qa, decide_eq_false el]; rfl)) (by
      rintro ⟨s, v⟩ ⟨hv, f1, f2, f3, f4, f5⟩
      dsimp only at hv f1 f2 f3 f4 f5
      subst hv
      have pS := pe.smM f1 (fun c hc => by simp at hc; omega)
      unfold fx_X12_ends_69_l92
      dsimp only
      rw [show A.nl - 1 + 1 = A.nl by omega] at f5 ⊢
      rw [pS.m1, nI_1, if_pos (le2 (by omega) (by omega) (by omega))]
      exact ⟨_, rfl, rfl, f1, fun l hl => f2 l (by omega), fun l hl => f4 l (by omega), f5⟩) (llF (by omega))
    dsimp only at g2 g3 g4 g5 g6
    rw [g1, Option.bind_some]
    dsimp only
    subst g2
    have p18 := pe.smM g3 (fun c hc => by simp at hc; omega)
    have s18 := se.smM g3 (fun c hc => by simp at hc; omega)
    -- down
    obtain ⟨⟨e30, v30⟩, i1, i2, i3, i4⟩ := loop_inv (body := fx_X12_ends_69_l209) (fun k s => s.2 = (b01 (allB (p1 A x) A.nl && allB (p2 A x) k), nI k) ∧ Sm [93, 95] e18 s.1 ∧ ∀ c, c < A.nc → s.1.1 93 c = fl A (dwnL A x) k c ∧ s.1.1 95 c = fl A (sprL A x) k c) (fun e => e.2 = b01 (allB (p1 A x) A.nl && allB (p2 A x) (A.nl - 1)) ∧ Sm [93, 95] e18 e.1 ∧ ∀ c, c < A.nc → e.1.1 93 c = fl A (dwnL A x) A.nl c ∧ e.1.1 95 c = fl A (sprL A x) A.nl c) (A.nl - 1) llFuel (e18, b01 (allB (p1 A x) A.nl), 0) ⟨by rw [show allB (p2 A x) 0 = true from rfl, Bool.and_true]; rfl, Sm.refl _ _, fun c hc => by
        rw [fl_zero, fl_zero]
        dsimp only
        rw [(g3 93 (by decide)).1, (g3 95 (by decide)).1]
        exact ⟨(fe c hc).2.1, (fe c hc).2.2.2⟩⟩ (by
      rintro k ⟨s, v⟩ hk ⟨hv, f1, f2⟩
      dsimp only at hv f1 f2
      subst hv
      have pS := p18.smM f1 (fun c hc => by simp at hc; omega)
      have sS := s18.smM f1 (fun c hc => by simp at hc; omega)
      have hm2 : (4 : Int32) * nI k + 2 = nI (4 * k + 2) := ix4 k 2
      have h98 : s.1 98 k = nI (wanB A x (k + 1)) := by rw [(f1 98 (by decide)).1, (g3 98 (by decide)).1]; exact w98 k (by omega)
      have h99 : s.1 99 k = nI (riN A x k) := by rw [(f1 99 (by decide)).1]; exact g5 k (by omega)
      have h70 := (pS.lv (show k < A.nl by omega)).2.2.2.2.2.2.1
      have hri := (riN_le (x := x) hp (show k < A.nl by omega))
      have h87 : OM2 A x s k := ((Oe k (by omega)).sm g3 (by decide)).sm f1 (by decide)
      obtain ⟨⟨e, ve⟩, q1, q2, q3, q4, q5⟩ := falls_m pS sS (show k + 1 < A.nl by omega) h87 (fun c hc => by
        obtain ⟨z1, z2⟩ := ordL_mem.mp hc
        rw [(f1 92 (by decide)).1, g6 c z1, fl_at z2, decide_eq_true (show k < A.nl by omega), Bool.true_and]) (fun c hc => by
        obtain ⟨z1, z2⟩ := ordL_mem.mp hc
        rw [(f2 c z1).1, (f2 c z1).2, fl_at z2, fl_at z2, decide_eq_false (by omega)]; exact ⟨rfl, rfl⟩) (b01 (allB (p1 A x) A.nl && allB (p2 A x) k))
      unfold fx_X12_ends_69_l209 fx_X12_ends_69_j362_b209 fx_X12_ends_69_j363_b209
      dsimp only
      rw [pS.m1, nI_1, if_neg (nle2 (by omega) (by omega) (by omega)), hm2]
      simp only [gI_nI (show k < 4 by omega) (show 4 < 2 ^ 31 by decide), gI_nI (show 4 * k + 2 < 32 by omega) (show 32 < 2 ^ 31 by decide), rI_n (show k < 2 ^ 31 by omega), rI_n (show 4 * k + 2 < 2 ^ 31 by omega), h70, h98, h99, h87.1, lt_eq]
      have eF : nI (riN A x k) - nI (wanB A x (k + 1)) = nI (falN A x k) := by rw [pk_sub hri.1]; rfl
      rw [eF, q1, Option.bind_some]
      dsimp only
      dsimp only at q2 q3 q4 q5
      rw [q2]
      have hst : (styL A x k).length ≤ 12 := by
        have := List.length_filter_le (fun c => !rs x c && !(upL A x k).contains c) (ordL A x k)
        have h1 := ordL_len A x k
        have h2 := row_12 hp (show k < A.nl by omega)
        unfold styL; omega
      have hfa : falN A x k ≤ 30 := by unfold falN; omega
      have eP : allB (p2 A x) (k + 1) = (allB (p2 A x) k && decide (falN A x k ≤ (styL A x k).length)) := rfl
      have res : ∀ t, t = b01 (allB (p1 A x) A.nl && allB (p2 A x) (k + 1)) → ∃ s', (some (Sum.inl (e, t, nI (k + 1))) : Option ((llMem × Int32 × Int32) ⊕ (llMem × Int32))) = some (.inl s') ∧ s'.2 = (b01 (allB (p1 A x) A.nl && allB (p2 A x) (k + 1)), nI (k + 1)) ∧ Sm [93, 95] e18 s'.1 ∧ ∀ c, c < A.nc → s'.1.1 93 c = fl A (dwnL A x) (k + 1) c ∧ s'.1.1 95 c = fl A (sprL A x) (k + 1) c := by
        intro t ht
        refine ⟨_, rfl, by rw [ht], f1.trans q3, fun c hc => ⟨?_, ?_⟩⟩
        · rw [q4 c]; exact fl_step (fun c hc => dwnL_st hc) (f2 c hc).1
        · rw [q5 c]; exact fl_step (fun c hc => sprL_st hc) (f2 c hc).2
      cases qa : (allB (p1 A x) A.nl && allB (p2 A x) k)
      · rw [if_pos (show b01 false = 0 from rfl)]
        exact res _ (by rw [eP, ← Bool.and_assoc, qa]; rfl)
      · rw [if_neg (show ¬ b01 true = 0 by decide)]
        by_cases el : falN A x k ≤ (styL A x k).length
        · rw [if_neg (fun z => by have := (vd_lt (by omega) (by omega)).mp z; omega)]
          exact res _ (by rw [eP, ← Bool.and_assoc, qa, decide_eq_true el]; rfl)
        · rw [if_pos ((vd_lt (by omega) (by omega)).mpr (by omega))]
          exact res _ (by rw [eP, ← Bool.and_assoc, qa, decide_eq_false el]; rfl)) (by
      rintro ⟨s, v⟩ ⟨hv, f1, f2⟩
      dsimp only at hv f1 f2
      subst hv
      have pS := p18.smM f1 (fun c hc => by simp at hc; omega)
      unfold fx_X12_ends_69_l209
      dsimp only
      rw [pS.m1, nI_1, if_pos (le2 (by omega) (by omega) (by omega))]
      refine ⟨_, rfl, rfl, f1, fun c hc => ?_⟩
      have ed : fl A (dwnL A x) A.nl c = fl A (dwnL A x) (A.nl - 1) c := by
        have := fl_ex (A := A) (F := dwnL A x) (k := A.nl - 1) (c := c) (by unfold dwnL; rw [if_neg (by omega)])
        rw [show A.nl - 1 + 1 = A.nl by omega] at this; exact this
      have es : fl A (sprL A x) A.nl c = fl A (sprL A x) (A.nl - 1) c := by
        have := fl_ex (A := A) (F := sprL A x) (k := A.nl - 1) (c := c) (by unfold sprL; rw [if_neg (by omega)])
        rw [show A.nl - 1 + 1 = A.nl by omega] at this; exact this
      rw [ed, es]; exact f2 c hc) (llF (by omega))
    dsimp only at i2 i3 i4
    rw [i1, Option.bind_some]
    dsimp only
    subst i2
    have p30 := p18.smM i3 (fun c hc => by simp at hc; omega)
    have h98 : e30.1 98 (A.nl - 1) = nI (wanB A x A.nl) := by
      rw [(i3 98 (by decide)).1, (g3 98 (by decide)).1]
      have := w98 (A.nl - 1) (by omega)
      rw [show A.nl - 1 + 1 = A.nl by omega] at this; exact this
    rw [p30.m1, pk_m1' (by omega), gI_nI (by omega) (by decide), rI_n (by omega), h98, lt_eq]
    -- who comes
    have hW := wanB_le A x A.nl
    have hC : comL A x = ((List.range A.nc).filter (waiB A)).take (wanB A x A.nl) := rfl
    generalize hW0 : wanB A x A.nl = W at *
    obtain ⟨⟨e35, v35⟩, j1, j2, j3, j4⟩ := loop_meas (body := fx_X12_ends_69_l384 (b01 (allB (p1 A x) A.nl && allB (p2 A x) (A.nl - 1)))) (fun s => ∃ i, s.2 = (nI (W - (((List.range i).filter (waiB A)).take W).length), nI i) ∧ i ≤ A.nc ∧ Sm [94] e30 s.1 ∧ ∀ c, c < A.nc → s.1.1 94 c = b01 ((((List.range i).filter (waiB A)).take W).contains c)) (fun s => A.nc - s.2.2.toNatClampNeg) (fun e => e.2 = nI (W - (comL A x).length) ∧ Sm [94] e30 e.1 ∧ ∀ c, c < A.nc → e.1.1 94 c = b01 ((comL A x).contains c)) llFuel (e30, nI W, 0) ⟨0, by simp; rfl, by omega, Sm.refl _ _, fun c hc => by
        dsimp only
        rw [(i3 94 (by decide)).1, (g3 94 (by decide)).1, (fe c hc).2.2.1]; simp; rfl⟩ (by
      rintro ⟨s, v⟩ ⟨i, hv, hin, f1, f2⟩
      dsimp only at hv f1 f2
      subst hv
      have pS := p30.smM f1 (fun c hc => by simp at hc; omega)
      have hlen : ((List.range i).filter (waiB A)).length ≤ i := by
        have := List.length_filter_le (waiB A) (List.range i)
        rw [List.length_range] at this; exact this
      unfold fx_X12_ends_69_l384 fx_X12_ends_69_j419_b384
      dsimp only
      rw [pS.m9]
      by_cases e0 : i = A.nc
      · rw [if_pos (le2 (by omega) (by omega) (by omega))]
        rw [e0, ← hC] at f2 ⊢
        exact Or.inr ⟨_, rfl, rfl, f1, f2⟩
      · have hi : i < A.nc := by omega
        rw [if_neg (nle2 (by omega) (by omega) hi)]
        by_cases e1 : W ≤ ((List.range i).filter (waiB A)).length
        · obtain ⟨R, hR⟩ := rfil_pre (waiB A) (Nat.le_of_lt hi)
          have eq : comL A x = ((List.range i).filter (waiB A)).take W := by
            rw [hC, hR, List.take_append_of_le_length e1]
          have : W - (((List.range i).filter (waiB A)).take W).length = 0 := by rw [List.length_take]; omega
          rw [this, if_pos (by decide)]
          rw [← eq] at f2
          exact Or.inr ⟨_, rfl, by rw [eq, this], f1, f2⟩
        · rw [List.take_of_length_le (by omega)] at f2 ⊢
          have e01 : ¬ nI (W - ((List.range i).filter (waiB A)).length) ≤ 0 := by
            have := nle2 (a := W - ((List.range i).filter (waiB A)).length) (b := 0) (by omega) (by omega) (by omega); exact this
          rw [if_neg e01, gI_nI (by omega) (by decide), rI_n (by omega), (pS.cl hi).m74, gI_nI (by omega) (by decide), nI_clamp (by omega), lt_eq, lt_eq, lt_eq, lt_eq, nI_1, nar_1]
          have hw := wai_iff (A := A) (c := i) (fun l d e => by have := ((hp.cl hi).2.2.2.2.2.2.2.2.2.2.2.2.2 l d e).1; omega)
          have meas : ∀ (z : llMem) (y : Int32), A.nc - ((z, y, nI (i + 1)) : llMem × Int32 × Int32).2.2.toNatClampNeg < A.nc - i := fun z y => by
            dsimp only
            rw [nI_clamp (by omega)]; omega
          cases q : waiB A i
          · rw [if_neg (fun z => by rw [hw.mp z] at q; cases q)]
            have ft : ((List.range (i + 1)).filter (waiB A)).take W = (List.range i).filter (waiB A) := by
              rw [rfil_s, q, if_neg (by decide), List.append_nil, List.take_of_length_le (by omega)]
            exact Or.inl ⟨_, rfl, ⟨i + 1, by rw [ft], by omega, f1, fun c hc => by rw [ft]; exact f2 c hc⟩, meas _ _⟩
          · rw [if_pos (hw.mpr q)]
            have ft : ((List.range (i + 1)).filter (waiB A)).take W = (List.range i).filter (waiB A) ++ [i] := by
              rw [rfil_s, q, if_pos rfl, List.take_of_length_le (by rw [List.length_append, List.length_singleton]; omega)]
            refine Or.inl ⟨_, rfl, ⟨i + 1, ?_, by omega, f1.trans (Sm.SI (by decide)), fun c hc => ?_⟩, meas _ _⟩
            · rw [ft, List.length_append, List.length_singleton]
              dsimp only
              rw [show W - (((List.range i).filter (waiB A)).length + 1) = W - ((List.range i).filter (waiB A)).length - 1 by omega, ← pk_m1' (by omega), show ∀ z : Int32, z + (-1) = z - 1 from fun z => by grind]
            · dsimp only
              rw [ft, SI_same]
              by_cases ec : c = i
              · rw [ec, upd_same, List.contains_iff_mem.mpr (by simp)]; rfl
              · rw [upd_ne ec, f2 c hc]
                congr 1
                rw [List.contains_eq_mem, List.contains_eq_mem, decide_eq_decide, List.mem_append, List.mem_singleton]
                exact ⟨Or.inl, fun z => by rcases z with z | z; exact z; exact absurd z ec⟩) (by show A.nc - (0 : Int32).toNatClampNeg < llFuel; exact llF (by omega))
    dsimp only at j2 j3 j4
    rw [j1, Option.bind_some]
    dsimp only
    subst j2
    have hcl := comL_len (x := x) hp
    have hcW : (comL A x).length ≤ W := by rw [hC, List.length_take]; omega
    have SS : Sm [81, 82, 83, 84, 85, 86, 87, 92, 93, 94, 95, 96, 97, 98, 99] m e35 := (((((a2.mono (by decide)).trans (b2.mono (by decide))).trans (S12.mono (by decide))).trans (g3.mono (by decide))).trans (i3.mono (by decide))).trans (j3.mono (by decide))
    have hcan : canE A x = ((allB (p1 A x) A.nl && allB (p2 A x) (A.nl - 1)) && decide ((comL A x).length = W)) := by
      unfold canE
      rw [hW0, decide_eq_true (show 0 < A.nl by omega), Bool.true_and]
      congr 1
      rw [Bool.eq_iff_iff, Bool.and_eq_true, allB_iff, allB_iff, allB_iff]
      refine ⟨fun h => ⟨fun i hi => ?_, fun i hi => ?_⟩, fun h i hi => ?_⟩
      · have := h i hi
        unfold cL at this
        rw [Bool.and_eq_true] at this
        exact this.1
      · have := h i (by omega)
        unfold cL at this
        rw [Bool.and_eq_true, decide_eq_false (show ¬ i + 1 = A.nl by omega), Bool.false_or] at this
        exact this.2
      · unfold cL
        rw [Bool.and_eq_true]
        refine ⟨h.1 i hi, ?_⟩
        by_cases e : i + 1 = A.nl
        · rw [decide_eq_true e, Bool.true_or]
        · rw [decide_eq_false e, Bool.false_or]; exact h.2 i (by omega)
    refine ⟨e35, ?_, SS, fun _ => ⟨SS, fun l hl => ⟨?_, ?_⟩, fun c hc => ?_⟩⟩
    · rw [hcan]
      cases qa : (allB (p1 A x) A.nl && allB (p2 A x) (A.nl - 1))
      · rw [if_pos (show b01 false = 0 from rfl), gB_0]; rfl
      · rw [if_neg (show ¬ b01 true = 0 by decide), Bool.true_and]
        by_cases el : (comL A x).length = W
        · rw [el, Nat.sub_self, if_neg (show ¬ ¬ nI 0 = 0 from fun z => z rfl), gB_1, decide_eq_true rfl]; rfl
        · rw [if_pos (fun z => by have := nI_inj (b := 0) (by omega) (by decide) z; omega), gB_0, decide_eq_false el]; rfl
    · exact (((Oe l hl).sm g3 (by decide)).sm i3 (by decide)).sm j3 (by decide)
    · unfold GL
      rw [(j3 96 (by decide)).1, (j3 97 (by decide)).1, (i3 96 (by decide)).1, (i3 97 (by decide)).1]
      exact g4 l hl
    · rw [(j3 92 (by decide)).1, (j3 93 (by decide)).1, (j3 95 (by decide)).1, (i3 92 (by decide)).1]
      exact ⟨g6 c hc, (i4 c hc).1, j4 c hc, (i4 c hc).2⟩
