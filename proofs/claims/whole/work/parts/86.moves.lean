def mvR (D : List Nat) (a : Int32) : Int32 := if a = -1 then nI D.length else if a < 0 then -1 else if nI D.length ≤ a then -1 else nI (D.getD a.toNatClampNeg 0)
theorem mvR_hit {D : List Nat} {j : Nat} (hj : j < D.length) (hD : D.length ≤ 30) : mvR D (nI j) = nI (D.getD j 0) := by
  unfold mvR
  rw [if_neg (fun q => by rcases nI_sub0 j with z | z; exact z q; omega), if_neg (by have := nlt2 (a := j) (b := 0) (by omega) (by omega) (by omega); exact this), if_neg (nle2 (by omega) (by omega) hj), nI_clamp (by omega)]
theorem mvR_miss {D : List Nat} {a : Int32} (hD : D.length ≤ 30) (h : ∀ j, j < D.length → a ≠ nI j) : mvR D a = if a = -1 then nI D.length else -1 := by
  unfold mvR
  rcases arg_in a (k := D.length) (by omega) with ⟨c, h1, rfl, h3⟩ | ⟨h1, h3⟩
  · exact absurd rfl (h c h1)
  · by_cases e : a = -1
    · rw [if_pos e, if_pos e]
    · rw [if_neg e, if_neg e]
      rcases h1 with q | ⟨q1, q2⟩
      · rw [if_pos q]
      · rw [if_neg q1, if_pos q2]
theorem moves_x {u : llMem} {l w : Nat} {D : List Nat} (h : WL u (4 * l + w) D) (hl : l < 4) (hw : w < 4) (hD : D.length ≤ 30) (a2 : Int32) :
    (fx_X3_countOf_63 u (nI l) (nI w)).bind (fun r4 => (if ¬ a2 = ((-1)) then (if a2 < 0 then some (u, (-1)) else (if r4 ≤ a2 then some (u, (-1)) else (fx_X3_mover_63 u (nI l) (nI w) a2).bind (fun r5 => some (u, r5)))) else some (u, r4))) = some (u, mvR D a2) := by
  rw [countOf_x h hl hw rfl, Option.bind_some]
  by_cases e : a2 = -1
  · rw [if_neg (fun z => z e)]; unfold mvR; rw [if_pos e]
  · rw [if_pos e]
    rcases arg_in a2 (k := D.length) (by omega) with ⟨j, h1, rfl, h3⟩ | ⟨h1, h3⟩
    · rw [if_neg (by have := nlt2 (a := j) (b := 0) (by omega) (by omega) (by omega); exact this), if_neg (nle2 (by omega) (by omega) h1), mvR_hit h1 hD]
      have ix : ((nI l * 4) + nI w) * 30 + nI j = nI (30 * (4 * l + w) + j) := by
        rw [show (4 : Int32) = nI 4 from rfl, show (30 : Int32) = nI 30 from rfl, pk_mul, nI_add, pk_mul, nI_add, Nat.mul_comm l 4, Nat.mul_comm _ 30]
      unfold fx_X3_mover_63
      rw [ix, gI_nI (by omega) (by decide), rI_n (by omega), h.2 j h1]; rfl
    · unfold mvR
      rw [if_neg e]
      rcases h1 with q | ⟨q1, q2⟩
      · rw [if_pos q, if_pos q]
      · rw [if_neg q1, if_neg q1, if_pos q2, if_pos q2]
theorem dwnL_sub (A : Ab) (x : llMem) (l : Nat) : (dwnL A x l).Sublist (ordL A x l) := by
  unfold dwnL
  split
  · exact (List.drop_sublist _ _).trans (List.filter_sublist)
  · exact List.nil_sublist _
theorem sprL_sub (A : Ab) (x : llMem) (l : Nat) : (sprL A x l).Sublist (ordL A x l) := by
  unfold sprL
  split
  · exact ((List.drop_sublist _ _).trans (List.take_sublist _ _)).trans (List.filter_sublist)
  · exact List.nil_sublist _
theorem comL_sub (A : Ab) (x : llMem) : (comL A x).Sublist (List.range A.nc) := by
  unfold comL
  exact (List.take_sublist _ _).trans (List.filter_sublist)
theorem scan_end {u : llMem} {D : List Nat} {a2 : Int32} {body : Int32 × Int32 → Option ((Int32 × Int32) ⊕ (Int32 ⊕ (llMem × Int32)))} (hD : D.length ≤ 30) (h : (∃ j, j < D.length ∧ a2 = nI j ∧ loop body llFuel (0, 0) = some (.inr (u, nI (D.getD j 0)))) ∨ ((∀ j, j < D.length → a2 ≠ nI j) ∧ loop body llFuel (0, 0) = some (.inl (nI D.length)))) :
    (loop body llFuel (0, 0)).bind (Sum.elim (fun e8 => (if ¬ a2 = ((-1)) then some (u, (-1)) else some (u, e8))) (fun v => some ((fun v => v) v))) = some (u, mvR D a2) := by
  rcases h with ⟨j, h1, rfl, h3⟩ | ⟨h1, h3⟩
  · rw [h3, Option.bind_some, mvR_hit h1 hD]; rfl
  · rw [h3, Option.bind_some, mvR_miss hD h1]
    dsimp only [Sum.elim_inl]
    by_cases e : a2 = -1
    · rw [if_neg (fun z => z e), if_pos e]
    · rw [if_pos e, if_neg e]
theorem moves_m {A : Ab} {x m u : llMem} {mc : Nat} {ml : Nat → Nat × Nat} (h : EndM A x m u) (hp : IPyr A x m) (hs : ISea A x m mc ml) {l : Nat} (hl : l < A.nl) {w : Nat} (hw : w = 1 ∨ w = 2) (a2 : Int32) :
    (loop (fx_X12_moves_69_l157 u (nI l) (nI w) a2) llFuel (0, 0)).bind (Sum.elim (fun e8 => (if ¬ a2 = ((-1)) then some (u, (-1)) else some (u, e8))) (fun v => some ((fun v => v) v))) = some (u, mvR (if w = 1 then dwnL A x l else sprL A x l) a2) := by
  have hn := hp.ncB
  have hn2 := hp.nlB
  have h12 := row_12 hp hl
  have hol := ordL_len A x l
  obtain ⟨o1, o2⟩ := (h.2.1 l hl).1
  generalize hDd : (if w = 1 then dwnL A x l else sprL A x l) = D
  have hDs : D.Sublist (ordL A x l) := by
    rw [← hDd]; split
    · exact dwnL_sub A x l
    · exact sprL_sub A x l
  have hDl : D.length ≤ 30 := by have := hDs.length_le; omega
  have hf := sub_filter hDs (ordL_nodup A x l)
  have sc := scan (body := fx_X12_moves_69_l157 u (nI l) (nI w) a2) (ordL A x l) (fun c => D.contains c) u a2 (by omega) (by
    intro a i hi
    obtain ⟨c1, c2⟩ := ordL_mem.mp (getD_in hi)
    obtain ⟨f1, f2, f3, f4⟩ := h.2.2 _ c1
    rw [fl_at c2, decide_eq_true hl, Bool.true_and] at f2 f4
    unfold fx_X12_moves_69_l157 fx_X12_moves_69_j213_b157 fx_X12_moves_69_j225_b157
    dsimp only
    rw [gI_nI (by omega) (by decide), rI_n (by omega), o1, if_neg (nle2 (by omega) (by omega) (by omega)), ix12, gI_nI (by omega) (by decide), rI_n (by omega), o2 i (by omega)]
    simp only [lt_eq, gI_nI (show (ordL A x l).getD i 0 < 30 by omega) (show 30 < 2 ^ 31 by decide), rI_n (show (ordL A x l).getD i 0 < 2 ^ 31 by omega), nI_1, f2, f4]
    have ite : ∀ (b : Bool) (p q : Option ((Int32 × Int32) ⊕ (Int32 ⊕ (llMem × Int32)))), (if ¬ b01 b = 0 then p else q) = if b = true then p else q := fun b p q => by cases b <;> rfl
    have ite2 : ∀ (p q : Option ((Int32 × Int32) ⊕ (Int32 ⊕ (llMem × Int32)))), (if ¬ nI a = a2 then q else p) = if nI a = a2 then p else q := fun p q => by
      by_cases e : nI a = a2
      · rw [if_neg (fun z => z e), if_pos e]
      · rw [if_pos e, if_neg e]
    rcases hw with rfl | rfl
    · rw [if_neg (show ¬ ¬ nI 1 = 1 from fun z => z rfl), ite, ite2, ← hDd, if_pos rfl]
    · rw [if_pos (show ¬ nI 2 = 1 by decide), ite, ite2, ← hDd, if_neg (show ¬ (2 : Nat) = 1 by decide)]) (by
    intro a
    unfold fx_X12_moves_69_l157
    dsimp only
    rw [gI_nI (by omega) (by decide), rI_n (by omega), o1, hol, if_pos (le2 (by omega) (by omega) (Nat.le_refl _))])
  rw [hf] at sc
  exact scan_end hDl sc
theorem movesC_m {A : Ab} {x m u : llMem} {mc : Nat} {ml : Nat → Nat × Nat} (h : EndM A x m u) (hp : IPyr A x m) (hs : ISea A x m mc ml) {l : Nat} (hl : l < A.nl) (a2 : Int32) :
    (loop (fx_X12_moves_69_l92 u (nI l) a2) llFuel (0, 0)).bind (Sum.elim (fun e8 => (if ¬ a2 = ((-1)) then some (u, (-1)) else some (u, e8))) (fun v => some ((fun v => v) v))) = some (u, mvR (if l + 1 = A.nl then comL A x else []) a2) := by
  have hn := hp.ncB
  have hn2 := hp.nlB
  have p' := hp.smM h.1 (fun c hc => by simp at hc; omega)
  by_cases el : l + 1 = A.nl
  · rw [if_pos el]
    have hDl : (comL A x).length ≤ 30 := by have := comL_len (x := x) hp; omega
    have hf := sub_filter (comL_sub A x) List.nodup_range
    have em : nI A.nl - 1 = nI l := by rw [pk_m1' (by omega)]; congr 1; omega
    have sc := scan (body := fx_X12_moves_69_l92 u (nI l) a2) (List.range A.nc) (fun c => (comL A x).contains c) u a2 (by rw [List.length_range]; omega) (by
      intro a i hi
      rw [List.length_range] at hi
      have gi : (List.range A.nc).getD i 0 = i := by rw [List.getD_eq_getElem?_getD, List.getElem?_range hi]; rfl
      obtain ⟨f1, f2, f3, f4⟩ := h.2.2 i hi
      unfold fx_X12_moves_69_l92 fx_X12_moves_69_j136_b92
      dsimp only
      rw [gi, p'.m9, if_neg (nle2 (by omega) (by omega) hi), p'.m1, em, if_neg (fun z => z rfl), gI_nI (by omega) (by decide), rI_n (by omega), f3]
      simp only [lt_eq, nI_1]
      have ite : ∀ (b : Bool) (p q : Option ((Int32 × Int32) ⊕ (Int32 ⊕ (llMem × Int32)))), (if ¬ b01 b = 0 then p else q) = if b = true then p else q := fun b p q => by cases b <;> rfl
      have ite2 : ∀ (p q : Option ((Int32 × Int32) ⊕ (Int32 ⊕ (llMem × Int32)))), (if ¬ nI a = a2 then q else p) = if nI a = a2 then p else q := fun p q => by
        by_cases e : nI a = a2
        · rw [if_neg (fun z => z e), if_pos e]
        · rw [if_pos e, if_neg e]
      rw [ite, ite2]) (by
      intro a
      unfold fx_X12_moves_69_l92
      dsimp only
      rw [List.length_range, p'.m9, if_pos (le2 (by omega) (by omega) (Nat.le_refl _))])
    rw [hf] at sc
    exact scan_end hDl sc
  · rw [if_neg el]
    refine scan_end (D := []) (by simp) (Or.inr ⟨fun j hj => by simp at hj, loop_run0 (fun _ => (0, 0)) _ 0 llFuel rfl (fun i hi => by omega) ?_ (by decide)⟩)
    unfold fx_X12_moves_69_l92
    dsimp only
    rw [p'.m9, p'.m1]
    have em : ¬ nI l = nI A.nl - 1 := by
      rw [pk_m1' (by omega)]
      intro q
      have := nI_inj (by omega) (by omega) q
      omega
    by_cases e0 : nI A.nc ≤ 0
    · rw [if_pos e0]; rfl
    · rw [if_neg e0, if_pos em]; rfl
theorem moves_S (a w i : Int32) : StepW (fun u => fx_X11_moves_0 u a w i) (fun u => fx_X12_moves_69 u a w i) := by
  rintro x m ⟨A, mc, ml, k, cj, h⟩
  have hp := h.1
  have hs := h.2.1
  have hr := h.2.2.2.2.2.2.2.2
  have hn := hp.ncB
  have hn2 := hp.nlB
  dsimp only
  unfold fx_X11_moves_0 fx_X12_moves_69
  rcases hasLevel_B hp a with ⟨l, hl, rfl, p1, p2⟩ | ⟨p1, p2⟩
  · rw [p1, p2, Option.bind_some, Option.bind_some, if_neg (show ¬ (1 : Int32) = 0 by decide), if_neg (show ¬ (1 : Int32) = 0 by decide)]
    rw [show (3 : Int64) = Int32.toInt64 (nI 4 - 1) from rfl]
    rcases arg_in w (k := 4) (by decide) with ⟨W, h1, rfl, h3⟩ | ⟨h1, h3⟩
    · have W4 : W = 0 ∨ W = 1 ∨ W = 2 ∨ W = 3 := by omega
      obtain ⟨x', a1, a2, a3, a4⟩ := weigh_x hp hs hr
      obtain ⟨m', b1, b2, b3⟩ := ends_m hp hs
      rw [h3, Option.bind_some, if_neg (show ¬ (1 : Int32) = 0 by decide), if_neg (by have := nlt2 (a := W) (b := 0) (by omega) (by omega) (by omega); exact this), if_neg (show ¬ (3 : Int32) < nI W from nlt2 (a := 3) (b := W) (by omega) (by omega) (by omega)), a1, bd_mk, b1, bd_mk]
      cases q : canE A x
      · rw [if_neg (show ¬ ¬ b01 false = 0 from fun z => z rfl), if_neg (show ¬ ¬ b01 false = 0 from fun z => z rfl)]
        exact ⟨x', m', _, rfl, rfl, wei_q a2 a3, end_q b2⟩
      · rw [if_pos (show ¬ b01 true = 0 by decide), if_pos (show ¬ b01 true = 0 by decide)]
        obtain ⟨t0, t1, t2, t3⟩ := (a4 q).1 l hl
        have E := b3 (canE_nl q)
        have l0 := upL_len (x := x) hp hl
        have l1 := dwnL_len (x := x) hp hl
        have l2 := sprL_len (x := x) hp hl
        have l3 : (if l + 1 = A.nl then comL A x else []).length ≤ 30 := by
          have := comL_len (x := x) hp
          split
          · omega
          · simp
        rcases W4 with rfl | rfl | rfl | rfl
        · rw [moves_x (w := 0) t0 (by omega) (by decide) (by omega) i, if_neg (show ¬ ¬ nI 0 = 0 from fun z => z rfl)]
          obtain ⟨g1, g2⟩ := (E.2.1 l hl).2
          refine ⟨x', m', _, rfl, ?_, wei_q a2 a3, end_q b2⟩
          rw [gI_nI (by omega) (by decide), gI_nI (by omega) (by decide), rI_n (by omega), g1]
          by_cases e : i = -1
          · rw [if_neg (fun z => z e)]; unfold mvR; rw [if_pos e]
          · rw [if_pos e]
            rcases arg_in i (k := (upL A x l).length) (by omega) with ⟨j, h1, rfl, h3⟩ | ⟨h1, h3⟩
            · rw [h3, Option.bind_some, if_neg (show ¬ (1 : Int32) = 0 by decide), ix12, gI_nI (by omega) (by decide), rI_n (by omega), g2 j h1, mvR_hit h1 (by omega)]
            · rw [h3, Option.bind_some, if_pos rfl]
              unfold mvR
              rw [if_neg e]
              rcases h1 with q | ⟨q1, q2⟩
              · rw [if_pos q]
              · rw [if_neg q1, if_pos q2]
        · rw [moves_x (w := 1) t1 (by omega) (by decide) (by omega) i, if_pos (show ¬ nI 1 = 0 by decide), if_pos (show ¬ nI 1 = 3 by decide), moves_m E hp hs hl (Or.inl rfl) i, if_pos rfl]
          exact ⟨x', m', _, rfl, rfl, wei_q a2 a3, end_q b2⟩
        · rw [moves_x (w := 2) t2 (by omega) (by decide) (by omega) i, if_pos (show ¬ nI 2 = 0 by decide), if_pos (show ¬ nI 2 = 3 by decide), moves_m E hp hs hl (Or.inr rfl) i, if_neg (by decide)]
          exact ⟨x', m', _, rfl, rfl, wei_q a2 a3, end_q b2⟩
        · rw [moves_x (w := 3) t3 (by omega) (by decide) l3 i, if_pos (show ¬ nI 3 = 0 by decide), if_neg (show ¬ ¬ nI 3 = 3 from fun z => z rfl), movesC_m E hp hs hl i]
          exact ⟨x', m', _, rfl, rfl, wei_q a2 a3, end_q b2⟩
    · rw [h3, Option.bind_some, if_pos rfl]
      rcases h1 with q | ⟨q1, q2⟩
      · rw [if_pos q]
        exact ⟨x, m, _, rfl, rfl, QX.refl _, QM.refl _⟩
      · have q3 : (3 : Int32) < w := by
          rw [Int32.le_iff_toInt_le] at q2
          rw [Int32.lt_iff_toInt_lt]
          have e4 : (nI 4).toInt = 4 := by decide
          have e3 : (3 : Int32).toInt = 3 := by decide
          omega
        rw [if_neg q1, if_pos q3]
        exact ⟨x, m, _, rfl, rfl, QX.refl _, QM.refl _⟩
  · rw [p1, p2, Option.bind_some, Option.bind_some, if_pos rfl, if_pos rfl]
    exact ⟨x, m, _, rfl, rfl, QX.refl _, QM.refl _⟩
