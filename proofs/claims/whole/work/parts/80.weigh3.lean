/-! the class weighs the end of a season: the whole -/
def Wei (A : Ab) (x u : llMem) (k : Nat) : Prop := Bas x u ∧ (∀ l, l + 1 < A.nl → u.1 64 l = nI (riN A x l) ∧ u.1 65 l = nI (falN A x l)) ∧ (∀ l, l < k → WL u (4 * l) (upL A x l) ∧ WL u (4 * l + 1) (dwnL A x l) ∧ WL u (4 * l + 2) (sprL A x l) ∧ WL u (4 * l + 3) []) ∧ (∀ l w, k ≤ l → l < 4 → w < 4 → u.1 66 (4 * l + w) = 0) ∧ (∀ c, c < A.nc → u.1 68 c = gS A x k c) ∧ Sm [43, 44, 45, 46, 64, 65, 66, 67, 68] x u ∧ u.1 43 6 = x.1 43 6
theorem allB_false {p : Nat → Bool} {k n : Nat} (hk : k < n) (h : p k = false) : allB p n = false := by
  induction n with
  | zero => omega
  | succ n ih =>
    show (allB p n && p n) = false
    by_cases e : k = n
    · rw [← e, h, Bool.and_false]
    · rw [ih (by omega), Bool.false_and]
theorem ord_st {A : Ab} {x : llMem} {l c : Nat} (h : c ∈ ordL A x l) : c < A.nc ∧ ∃ d, A.st c = some (l, d) := by
  obtain ⟨h1, h2⟩ := ordL_mem.mp h
  exact ⟨h1, lv_some h2⟩
theorem gS_step {A : Ab} {x : llMem} {k c : Nat} : (if c ∈ dwnL A x k then nI (k + 1) else if c ∈ upL A x k then nI (k - 1) else gS A x k c) = gS A x (k + 1) c := by
  by_cases e1 : c ∈ dwnL A x k
  · obtain ⟨_, h1, h2, h3⟩ := dwnL_mem e1
    obtain ⟨_, d, hd⟩ := ord_st h1
    rw [if_pos e1]
    unfold gS
    rw [h2, if_neg (by decide), hd]
    dsimp only
    rw [if_pos (by omega), if_neg h3, if_pos e1]
  · rw [if_neg e1]
    by_cases e2 : c ∈ upL A x k
    · obtain ⟨_, h1, h2⟩ := upL_mem e2
      obtain ⟨_, d, hd⟩ := ord_st h1
      rw [if_pos e2]
      unfold gS
      rw [h2, if_neg (by decide), hd]
      dsimp only
      rw [if_pos (by omega), if_pos e2]
    · rw [if_neg e2]
      unfold gS
      cases q : rs x c
      · rw [if_neg (by decide), if_neg (by decide)]
        cases hd : A.st c with
        | none => rfl
        | some y =>
          obtain ⟨l, d⟩ := y
          dsimp only
          by_cases z1 : l < k
          · rw [if_pos z1]; symm; rw [if_pos (show l < k + 1 by omega)]
          · rw [if_neg z1]
            by_cases z2 : l = k
            · rw [if_pos (by omega), z2, if_neg e2, if_neg e1]
            · rw [if_neg (by omega)]
      · rw [if_pos rfl, if_pos rfl]
theorem gS_zero {A : Ab} {x m : llMem} {mc : Nat} {ml : Nat → Nat × Nat} (hp : IPyr A x m) (hs : ISea A x m mc ml) {c : Nat} (hc : c < A.nc) : (if x.1 18 c = 0 then x.1 12 c else -2) = gS A x 0 c := by
  rw [(hp.cl hc).x12]
  unfold gS
  rcases rs_cases hs hc with ⟨r1, r2⟩ | ⟨r1, r2⟩
  · rw [r1, if_neg (show ¬ false = true by decide), if_pos r2]
    unfold lvI
    cases A.st c with
    | none => rfl
    | some y => obtain ⟨l, d⟩ := y; dsimp only; rw [if_neg (by omega)]
  · rw [r1, if_pos rfl, if_neg (by rw [r2]; decide)]
theorem weigh_x {A : Ab} {x m : llMem} {mc : Nat} {ml : Nat → Nat × Nat} (hp : IPyr A x m) (hs : ISea A x m mc ml) (hr : IRe A x) :
    ∃ u, fx_X3_weigh_63 x = some (u, b01 (canE A x)) ∧ Sm [43, 44, 45, 46, 64, 65, 66, 67, 68] x u ∧ u.1 43 6 = x.1 43 6 ∧ (canE A x = true → (∀ l, l < A.nl → WL u (4 * l) (upL A x l) ∧ WL u (4 * l + 1) (dwnL A x l) ∧ WL u (4 * l + 2) (sprL A x l) ∧ WL u (4 * l + 3) (if l + 1 = A.nl then comL A x else [])) ∧ ∀ c, c < A.nc → u.1 68 c = goalI A x c) := by
  have hn := hp.ncB
  have hn2 := hp.nlB
  obtain ⟨u1, a1, a2, a3, a4, a5⟩ := fill_66 x 0
  have s1 : Sm [66] x u1 := fun c hc => by
    have : c ≠ 66 := fun q => hc (by rw [q]; decide)
    exact ⟨a2 c this, by rw [a3], by rw [a3]⟩
  unfold fx_X3_weigh_63
  rw [a1, bd_mk]
  -- the goals as they stand
  obtain ⟨u2, b1, b2, b3⟩ := loop_inv (body := fx_X3_weigh_63_l10) (fun i s => s.2 = nI i ∧ Sm [68] u1 s.1 ∧ ∀ c, c < i → s.1.1 68 c = gS A x 0 c) (fun e => Sm [68] u1 e ∧ ∀ c, c < A.nc → e.1 68 c = gS A x 0 c) A.nc llFuel (u1, 0) ⟨rfl, Sm.refl _ _, fun c hc => by omega⟩ (by
    rintro i ⟨s, v⟩ hi ⟨hv, f1, f2⟩
    dsimp only at hv f1 f2
    subst hv
    have e12 : s.1 12 = x.1 12 := by rw [(f1 12 (by decide)).1, (s1 12 (by decide)).1]
    have e18 : s.1 18 = x.1 18 := by rw [(f1 18 (by decide)).1, (s1 18 (by decide)).1]
    unfold fx_X3_weigh_63_l10 fx_X3_weigh_63_j52_b10
    dsimp only
    rw [(f1 3 (by decide)).1, (s1 3 (by decide)).1, hp.x35, if_neg (nle2 (by omega) (by omega) hi)]
    simp only [gI_nI (show i < 30 by omega) (show 30 < 2 ^ 31 by decide), rI_n (show i < 2 ^ 31 by omega), nI_clamp (show i < 2 ^ 31 by omega), e12, e18, lt_eq, nI_1]
    have g := gS_zero hp hs hi
    have done : ∀ t, t = gS A x 0 i → ∃ s', (some (Sum.inl (llSI s 68 i t, nI (i + 1))) : Option ((llMem × Int32) ⊕ llMem)) = some (.inl s') ∧ s'.2 = nI (i + 1) ∧ Sm [68] u1 s'.1 ∧ ∀ c, c < i + 1 → s'.1.1 68 c = gS A x 0 c := fun t ht => by
      refine ⟨_, rfl, rfl, f1.trans (Sm.SI (by decide)), fun c hc => ?_⟩
      dsimp only
      rw [SI_same]
      by_cases ec : c = i
      · rw [ec, upd_same, ht]
      · rw [upd_ne ec]; exact f2 c (by omega)
    by_cases r : x.1 18 i = 0
    · rw [if_pos r] at g ⊢
      exact done _ g
    · rw [if_neg r] at g ⊢
      exact done _ g) (by
    rintro ⟨s, v⟩ ⟨hv, f1, f2⟩
    dsimp only at hv f1 f2
    subst hv
    unfold fx_X3_weigh_63_l10
    dsimp only
    rw [(f1 3 (by decide)).1, (s1 3 (by decide)).1, hp.x35, if_pos (le2 (by omega) (by omega) (Nat.le_refl _))]
    exact ⟨_, rfl, f1, f2⟩) (llF (by omega))
  rw [b1, Option.bind_some]
  have s2 : Sm [66, 68] x u2 := (s1.mono (by decide)).trans (b2.mono (by decide))
  have B2 : Bas x u2 := (Bas.refl x).sm s2 (fun c hc => by simp at hc; omega)
  -- the numbers
  have s3 : ∃ u3, loop fx_X3_weigh_63_l61 llFuel (u2, 0) = some u3 ∧ Sm [64, 65] u2 u3 ∧ ∀ l, l + 1 < A.nl → u3.1 64 l = nI (riN A x l) ∧ u3.1 65 l = nI (falN A x l) := by
    by_cases z0 : A.nl = 0
    · refine ⟨u2, loop_run0 (fun _ => (u2, 0)) u2 0 llFuel rfl (fun i hi => by omega) ?_ (by decide), Sm.refl _ _, fun l hl => by omega⟩
      unfold fx_X3_weigh_63_l61
      dsimp only
      rw [(B2.pyr hp).x30, z0, if_pos (by decide)]
    · refine loop_inv (body := fx_X3_weigh_63_l61) (fun i s => s.2 = nI i ∧ Sm [64, 65] u2 s.1 ∧ ∀ l, l < i → s.1.1 64 l = nI (riN A x l) ∧ s.1.1 65 l = nI (falN A x l)) _ (A.nl - 1) llFuel (u2, 0) ⟨rfl, Sm.refl _ _, fun l hl => by omega⟩ ?_ ?_ (llF (by omega))
      · rintro i ⟨s, v⟩ hi ⟨hv, f1, f2⟩
        dsimp only at hv f1 f2
        subst hv
        have Bs := B2.sm f1 (fun c hc => by simp at hc; omega)
        obtain ⟨s', k1, k2, k3, k4⟩ := setNumbers_x hp hs Bs (show i < A.nl by omega)
        unfold fx_X3_weigh_63_l61
        dsimp only
        rw [(Bs.pyr hp).x30, pk_m1' (by omega), if_neg (nle2 (by omega) (by omega) hi), k1, bd_mk, lt_eq, nI_1]
        refine ⟨_, rfl, rfl, f1.trans k2, fun l hl => ?_⟩
        dsimp only
        rw [k3, k4]
        by_cases ec : l = i
        · rw [ec, upd_same, upd_same]; exact ⟨rfl, rfl⟩
        · rw [upd_ne ec, upd_ne ec]; exact f2 l (by omega)
      · rintro ⟨s, v⟩ ⟨hv, f1, f2⟩
        dsimp only at hv f1 f2
        subst hv
        have Bs := B2.sm f1 (fun c hc => by simp at hc; omega)
        unfold fx_X3_weigh_63_l61
        dsimp only
        rw [(Bs.pyr hp).x30, pk_m1' (by omega), if_pos (le2 (by omega) (by omega) (Nat.le_refl _))]
        exact ⟨_, rfl, f1, fun l hl => f2 l (by omega)⟩
  obtain ⟨u3, c1, c2, c3⟩ := s3
  rw [c1, Option.bind_some]
  have W0 : Wei A x u3 0 := by
    refine ⟨B2.sm c2 (fun c hc => by simp at hc; omega), c3, fun l hl => by omega, fun l w _ h1 h2 => ?_, fun c hc => ?_, (s2.mono (by decide)).trans (c2.mono (by decide)), ?_⟩
    · rw [(c2 66 (by decide)).1, (b2 66 (by decide)).1]; exact a4 _ (by omega)
    · rw [(c2 68 (by decide)).1]; exact b3 c hc
    · rw [(c2 43 (by decide)).1, (s2 43 (by decide)).1]
  obtain ⟨e, d1, d2⟩ := loop_meas (body := fx_X3_weigh_63_l87) (fun s => ∃ k, s.2 = nI k ∧ k ≤ A.nl ∧ allB (cL A x) k = true ∧ Wei A x s.1 k) (fun s => A.nl - s.2.toNatClampNeg) (fun e => match e with
      | .inl u => allB (cL A x) A.nl = true ∧ Wei A x u A.nl
      | .inr (u, v) => v = 0 ∧ allB (cL A x) A.nl = false ∧ Sm [43, 44, 45, 46, 64, 65, 66, 67, 68] x u ∧ u.1 43 6 = x.1 43 6) llFuel (u3, 0) ⟨0, rfl, by omega, rfl, W0⟩ (by
    rintro ⟨s, v⟩ ⟨k, hv, hk, hb, w1, w2, w3, w4, w5, w6, w7⟩
    dsimp only at hv w1 w2 w3 w4 w5 w6 w7
    subst hv
    unfold fx_X3_weigh_63_l87
    dsimp only
    rw [(w1.pyr hp).x30]
    by_cases e0 : k = A.nl
    · rw [if_pos (le2 (by omega) (by omega) (by omega))]
      rw [e0] at hb w3 w4 w5
      exact Or.inr ⟨_, rfl, hb, w1, w2, w3, w4, w5, w6, w7⟩
    · have hk' : k < A.nl := by omega
      obtain ⟨s8, g1, g2⟩ := arrange_x hp hs hk' w1
      have gs := g2.1
      have B8 := w1.sm gs (fun c hc => by simp at hc; omega)
      rw [if_neg (nle2 (by omega) (by omega) hk'), g1, bd_mk]
      have n66 : s8.1 66 = s.1 66 := (gs 66 (by decide)).1
      have n67 : s8.1 67 = s.1 67 := (gs 67 (by decide)).1
      have n68 : s8.1 68 = s.1 68 := (gs 68 (by decide)).1
      have n64 : s8.1 64 = s.1 64 := (gs 64 (by decide)).1
      have n65 : s8.1 65 = s.1 65 := (gs 65 (by decide)).1
      obtain ⟨s9, i1, i2, i3, i4, i5⟩ := sendUp_x hp hs B8 hk' g2.tab (fun q => by rw [n64]; exact (w2 (k - 1) (by omega)).1) (WL.zero (by rw [n66]; exact w4 k 0 (Nat.le_refl _) (by omega) (by decide)))
      have B9 := B8.sm i4 (fun c hc => by simp at hc; omega)
      have Z9 : Sm [43, 44, 45, 46, 64, 65, 66, 67, 68] x s9 := (w6.trans (gs.mono (by decide))).trans (i4.mono (by decide))
      have y9 : s9.1 43 6 = x.1 43 6 := by rw [(i4 43 (by decide)).1, g2.2.1, w7]
      rw [i1, bd_mk]
      cases q1 : (decide (k = 0) || decide ((upL A x k).length = riN A x (k - 1)))
      · rw [if_pos (show b01 false = 0 from rfl), gB_0]
        exact Or.inr ⟨_, rfl, rfl, allB_false hk' (by unfold cL; rw [q1, Bool.false_and]), Z9, y9⟩
      · rw [if_neg (by decide)]
        obtain ⟨s11, j1, j2, j3, j4, j5, j6, j7⟩ := sendDown_x hp hs B9 hk' (g2.tab.sm i4 (by decide)) (fun q => by rw [(i4 65 (by decide)).1, n65]; exact (w2 k q).2) (WL.zero (by rw [i3.1 _ (by omega), n66]; exact w4 k 1 (Nat.le_refl _) (by omega) (by decide))) (WL.zero (by rw [i3.1 _ (by omega), n66]; exact w4 k 2 (Nat.le_refl _) (by omega) (by decide))) (fun c hc => by
          obtain ⟨h1, d, hd⟩ := ord_st hc
          rw [i5 c, n68, w5 c h1]
          by_cases em : c ∈ upL A x k
          · have k0 := (upL_mem em).1
            rw [if_pos em]
            simp only [List.contains_eq_mem, em, decide_true, Bool.not_true, Bool.and_false, Bool.false_eq_true, false_iff]
            intro q
            have := nI_inj (by omega) (by omega) q
            omega
          · rw [if_neg em]
            simp only [List.contains_eq_mem, em, decide_false, Bool.not_false, Bool.and_true]
            unfold gS
            cases q : rs x c
            · simp [hd]
            · simp only [Bool.not_true, Bool.false_eq_true, if_true, false_iff]
              intro z
              have : k = 0 ∨ k = 1 ∨ k = 2 ∨ k = 3 := by omega
              rcases this with r | r | r | r <;> (rw [r] at z; exact absurd z (by decide)))
        have Z11 : Sm [43, 44, 45, 46, 64, 65, 66, 67, 68] x s11 := Z9.trans (j6.mono (by decide))
        have y11 : s11.1 43 6 = x.1 43 6 := by rw [(j6 43 (by decide)).1, y9]
        rw [j1, bd_mk]
        cases q2 : (decide (k + 1 = A.nl) || decide (falN A x k ≤ (styL A x k).length))
        · rw [if_neg (fun z => z rfl), gB_0]
          exact Or.inr ⟨_, rfl, rfl, allB_false hk' (by unfold cL; rw [q2, Bool.and_false]), Z11, y11⟩
        · rw [if_pos (by decide), lt_eq, nI_1]
          have hu := upL_len (x := x) hp hk'
          have keepW : ∀ j L, j / 4 ≠ k → L.length ≤ 30 → WL s j L → WL s11 j L := fun j L hj hL hw => by
            refine ⟨?_, fun i hi => ?_⟩
            · rw [j4 j (by omega) (by omega), i3.1 j (by omega), n66]; exact hw.1
            · rw [j5 _ (by omega) (by omega), i3.2 _ (by omega), n67]; exact hw.2 i hi
          refine Or.inl ⟨_, rfl, ⟨k + 1, rfl, by omega, ?_, B9.sm j6 (fun c hc => by simp at hc; omega), fun l hl => ?_, fun l hl => ?_, fun l w h1 h2 h3 => ?_, fun c hc => ?_, Z11, y11⟩, ?_⟩
          · show (allB (cL A x) k && cL A x k) = true
            rw [hb, Bool.true_and]; unfold cL; rw [q1, q2]; rfl
          · dsimp only
            rw [(j6 64 (by decide)).1, (j6 65 (by decide)).1, (i4 64 (by decide)).1, (i4 65 (by decide)).1, n64, n65]; exact w2 l hl
          · by_cases el : l = k
            · subst el
              refine ⟨⟨?_, fun i hi => ?_⟩, j2, j3, WL.zero ?_⟩
              · dsimp only
                rw [j4 _ (by omega) (by omega)]; exact i2.1
              · dsimp only
                rw [j5 _ (by omega) (by omega)]; exact i2.2 i hi
              · dsimp only
                rw [j4 _ (by omega) (by omega), i3.1 _ (by omega), n66]; exact w4 l 3 (Nat.le_refl _) (by omega) (by decide)
            · obtain ⟨t1, t2, t3, t4⟩ := w3 l (by omega)
              have l1 := upL_len (x := x) hp (show l < A.nl by omega)
              have l2 := dwnL_len (x := x) hp (show l < A.nl by omega)
              have l3 := sprL_len (x := x) hp (show l < A.nl by omega)
              exact ⟨keepW _ _ (by omega) (by omega) t1, keepW _ _ (by omega) (by omega) t2, keepW _ _ (by omega) (by omega) t3, keepW _ _ (by omega) (by simp) t4⟩
          · dsimp only
            rw [j4 _ (by omega) (by omega), i3.1 _ (by omega), n66]; exact w4 l w (by omega) h2 h3
          · dsimp only
            rw [j7 c, i5 c, n68, w5 c hc]; exact gS_step
          · dsimp only
            rw [nI_clamp (by omega), nI_clamp (by omega)]; omega) (by show A.nl - (0 : Int32).toNatClampNeg < llFuel; exact llF (by omega))
  rw [d1, Option.bind_some]
  cases e with
  | inr v =>
    obtain ⟨u, v⟩ := v
    obtain ⟨h1, h2, h3, h4⟩ := d2
    have hc : canE A x = false := by unfold canE; rw [h2, Bool.and_false, Bool.false_and]
    refine ⟨u, ?_, h3, h4, fun q => by rw [hc] at q; cases q⟩
    rw [h1, hc]; rfl
  | inl u =>
    obtain ⟨hb, w1, w2, w3, w4, w5, w6, w7⟩ := d2
    dsimp only [Sum.elim_inl]
    rw [(w1.pyr hp).x30]
    by_cases z0 : A.nl = 0
    · have hc : canE A x = false := by unfold canE; rw [decide_eq_false (by omega), Bool.false_and, Bool.false_and]
      rw [z0, if_pos (by decide), gB_0]
      exact ⟨u, by rw [hc]; rfl, w6, w7, fun q => by rw [hc] at q; cases q⟩
    · obtain ⟨u', k1, k2, k3, k4, k5⟩ := bringIn_x hp hs w1 (by omega) (w3 (A.nl - 1) (by omega)).2.2.2
      rw [if_neg (by have := nle2 (a := A.nl) (b := 0) (by omega) (by omega) (by omega); exact this), pk_m1' (by omega), k1, bd_mk]
      have hc : canE A x = decide ((comL A x).length = wanB A x A.nl) := by unfold canE; rw [decide_eq_true (show 0 < A.nl by omega), hb, Bool.true_and, Bool.true_and]
      rw [← hc]
      refine ⟨u', ?_, w6.trans (k4.mono (by decide)), by rw [(k4 43 (by decide)).1, w7], fun hq => ⟨fun l hl => ?_, fun c hc => ?_⟩⟩
      · cases canE A x
        · rw [if_pos (show b01 false = 0 from rfl), gB_0]; rfl
        · rw [if_neg (by decide), gB_1]; rfl
      · obtain ⟨t1, t2, t3, t4⟩ := w3 l hl
        have l1 := upL_len (x := x) hp hl
        have l2 := dwnL_len (x := x) hp hl
        have l3 := sprL_len (x := x) hp hl
        refine ⟨k3.wl (by omega) (by omega) t1, k3.wl (by omega) (by omega) t2, k3.wl (by omega) (by omega) t3, ?_⟩
        by_cases el : l + 1 = A.nl
        · rw [if_pos el, show l = A.nl - 1 by omega]; exact k2
        · rw [if_neg el]; exact k3.wl (by omega) (by simp) t4
      · rw [k5 c, w5 c hc]; rfl
