/-! orders of levels, both sides -/
theorem insR_getD (lt : Nat → Nat → Bool) (L : List Nat) (c j : Nat) : (insR lt L c).getD j 0 = if j < insP lt L c L.length then L.getD j 0 else if j = insP lt L c L.length then c else L.getD (j - 1) 0 := ins_getD (insP_le lt L c L.length) j
def Bas (x u : llMem) : Prop := ∀ i, i < 31 ∨ i = 49 → u.1 i = x.1 i ∧ u.2.1 i = x.2.1 i
theorem Bas.refl (x : llMem) : Bas x x := fun _ _ => ⟨rfl, rfl⟩
theorem Bas.sm {x u u' : llMem} {X : List Nat} (h : Bas x u) (hs : Sm X u u') (hX : ∀ c, c ∈ X → 31 ≤ c ∧ c ≠ 49) : Bas x u' := fun i hi => by
  have : i ∉ X := fun q => by have := hX i q; omega
  rw [(hs i this).1, (hs i this).2.1]; exact h i hi
theorem Bas.pyr {A : Ab} {x u m : llMem} (h : Bas x u) (hp : IPyr A x m) : IPyr A u m := hp.of (fun c hc => h c (by simp only [List.mem_cons, List.not_mem_nil, or_false] at hc; omega)) (fun _ _ => ⟨rfl, rfl⟩) rfl rfl
theorem Bas.sea {A : Ab} {x u m : llMem} {mc : Nat} {ml : Nat → Nat × Nat} (h : Bas x u) (hs : ISea A x m mc ml) : ISea A u m mc ml := hs.of (fun c hc => (h c (by simp only [List.mem_cons, List.not_mem_nil, or_false] at hc; omega)).1) (by rw [(h 14 (by decide)).1]) rfl
def Arr (A : Ab) (x u u' : llMem) (l : Nat) : Prop := Sm [43, 44, 45, 46] u u' ∧ u'.1 43 6 = u.1 43 6 ∧ u'.1 43 2 = nI (rowOf A l).length ∧ (∀ i, i < (rowOf A l).length → u'.1 44 i = nI ((ordL A x l).getD i 0)) ∧ ∀ c, c ∈ rowOf A l → u'.1 45 c = nI (rkN A x c) ∧ u'.1 46 c = ptI x c
theorem rk_row {A : Ab} {x : llMem} {l c : Nat} (hc : c ∈ rowOf A l) : ((rowOf A l).filter (fun o => decide (dvN A o = dvN A c) && ahd x o c)).length + 1 = rkN A x c := by
  obtain ⟨h1, h2⟩ := row_mem.mp hc
  obtain ⟨d, hd⟩ := lv_some h2
  have e : (rowOf A l).filter (fun o => decide (dvN A o = dvN A c) && ahd x o c) = (List.range A.nc).filter (rkP A x c) := by
    unfold rowOf
    rw [List.filter_filter]
    refine List.filter_congr (fun o ho => ?_)
    unfold rkP
    have v : dvN A c = d := by unfold dvN; rw [hd]
    rw [v, hd]
    by_cases g : (A.st o).map Prod.fst = some l
    · obtain ⟨f, hf⟩ := lv_some g
      have v2 : dvN A o = f := by unfold dvN; rw [hf]
      rw [decide_eq_true g, Bool.and_true, v2, hf]
      by_cases q : f = d
      · rw [decide_eq_true q, decide_eq_true ⟨rfl, by rw [q]⟩]
      · rw [decide_eq_false q, decide_eq_false (fun z => q (by have := z.2; simpa using this.symm))]
    · rw [decide_eq_false g, Bool.and_false, decide_eq_false (fun z => g (by rw [← z.2]; rfl)), Bool.false_and]
  rw [e]; unfold rkN; omega
theorem filtL_t {L : List Nat} {Q : Nat → Bool} {i : Nat} (hi : i < L.length) (h : Q (L.getD i 0) = true) : ((L.take (i + 1)).filter Q).length = ((L.take i).filter Q).length + 1 := by
  rw [take_s hi, List.filter_append, List.filter_cons_of_pos h, List.filter_nil, List.length_append, List.length_singleton]
theorem filtL_f {L : List Nat} {Q : Nat → Bool} {i : Nat} (hi : i < L.length) (h : Q (L.getD i 0) = false) : ((L.take (i + 1)).filter Q).length = ((L.take i).filter Q).length := by
  rw [take_s hi, List.filter_append, List.filter_cons_of_neg (by rw [h]; decide), List.filter_nil, List.append_nil]
theorem rankNow_x {A : Ab} {x m u : llMem} {mc : Nat} {ml : Nat → Nat × Nat} (hp : IPyr A x m) (hs : ISea A x m mc ml) {l : Nat} (hl : l < A.nl) (hB : Bas x u) (h43 : u.1 43 2 = nI (rowOf A l).length) (h44 : ∀ i, i < (rowOf A l).length → u.1 44 i = nI ((rowOf A l).getD i 0)) (h46 : ∀ c, c ∈ rowOf A l → u.1 46 c = ptI x c) {c : Nat} (hc : c ∈ rowOf A l) : fx_X8_rankNow_43 u (nI c) = some (nI (rkN A x c)) := by
  have hn := hp.ncB
  have h12 := row_12 hp hl
  obtain ⟨c1, c2⟩ := row_mem.mp hc
  obtain ⟨d, hd⟩ := lv_some c2
  have hdB := ((hp.cl c1).stB l d hd).2
  have hd3 := (hp.lv hl).2.2.2.2.2.2.2.2.2.1
  have v : dvN A c = d := by unfold dvN; rw [hd]
  have lp : loop (fx_X8_rankNow_43_l4 u (nI c)) llFuel (0, 0) = some (nI ((rowOf A l).filter (fun o => decide (dvN A o = dvN A c) && ahd x o c)).length) := by
    have e0 : (rowOf A l).take (rowOf A l).length = rowOf A l := List.take_length
    refine loop_run0 (fun i => (nI (((rowOf A l).take i).filter (fun o => decide (dvN A o = dvN A c) && ahd x o c)).length, nI i)) _ (rowOf A l).length llFuel rfl ?_ ?_ (llF (by omega))
    · intro i hi
      obtain ⟨f, r1, r2, r3⟩ := row_st hp hi
      have v2 : dvN A ((rowOf A l).getD i 0) = f := by unfold dvN; rw [r2]
      unfold fx_X8_rankNow_43_l4 fx_X8_rankNow_43_j55_b4
      dsimp only
      rw [h43, if_neg (nle2 (by omega) (by omega) hi)]
      simp only [gI_nI (show i < 12 by omega) (show 12 < 2 ^ 31 by decide), rI_n (show i < 2 ^ 31 by omega), h44 i hi, gI_nI (show (rowOf A l).getD i 0 < 30 by omega) (show 30 < 2 ^ 31 by decide), gI_nI (show c < 30 by omega) (show 30 < 2 ^ 31 by decide), rI_n (show (rowOf A l).getD i 0 < 2 ^ 31 by omega), rI_n (show c < 2 ^ 31 by omega)]
      rw [outranks_x hp hs r1 c1 (h46 _ (getD_in hi)) (h46 _ hc) (hB 24 (by decide)).1 (hB 25 (by decide)).1, Option.bind_some, (hB 13 (by decide)).1, (hp.cl r1).x13, (hp.cl c1).x13, (lvI_some r2).2, (lvI_some hd).2]
      simp only [lt_eq, nI_1]
      by_cases e1 : f = d
      · rw [if_neg (fun q => q (by rw [e1]))]
        cases e2 : ahd x ((rowOf A l).getD i 0) c
        · rw [b01_f, if_pos rfl, filtL_f hi (by rw [e2, Bool.and_false])]
        · rw [b01_t, if_neg one_ne, filtL_t hi (by rw [e2, v, v2, decide_eq_true e1]; rfl)]
      · rw [if_pos (fun q => e1 (nI_inj (by omega) (by omega) q)), filtL_f hi (by rw [v, v2, decide_eq_false e1, Bool.false_and])]
    · unfold fx_X8_rankNow_43_l4
      dsimp only
      rw [h43, if_pos (le2 (by omega) (by omega) (Nat.le_refl _)), e0]
  unfold fx_X8_rankNow_43
  rw [lp, Option.bind_some, nI_1, rk_row hc]
theorem ptI_bas {x u : llMem} (h : Bas x u) (c : Nat) : ptI u c = ptI x c := by
  unfold ptI; rw [(h 22 (by decide)).1, (h 23 (by decide)).1, (h 20 (by decide)).1]
theorem arrange_x {A : Ab} {x m u : llMem} {mc : Nat} {ml : Nat → Nat × Nat} (hp : IPyr A x m) (hs : ISea A x m mc ml) {l : Nat} (hl : l < A.nl) (hB : Bas x u) : ∃ u', fx_X8_arrange_43 u (nI l) = some (u', ()) ∧ Arr A x u u' l := by
  have hn := hp.ncB
  have h12 := row_12 hp hl
  have hlen := row_len hp hl
  have hdv := (hp.lv hl).2.2.2.2.2.2.2.2.1
  have hsz := (hp.lv hl).2.2.2.2.2.2.2.2.2.2.1
  have hn2 : 2 ≤ (rowOf A l).length := by
    rw [hlen]
    exact Nat.le_trans (by omega) (Nat.mul_le_mul hdv hsz)
  obtain ⟨x1, g1, g2, g3⟩ := gather_44 (hB.pyr hp) hl
  unfold fx_X8_arrange_43
  rw [g1, bd_mk, lt_eq]
  have s2 : Sm [43, 44, 45, 46] u (llSI x1 43 2 (nI (rowOf A l).length)) := (g2.mono (by simp)).trans (Sm.SI (by simp))
  have c6 : (llSI x1 43 2 (nI (rowOf A l).length)).1 43 6 = u.1 43 6 := by rw [SI_at (by decide), (g2 43 (by decide)).1]
  have c2 : (llSI x1 43 2 (nI (rowOf A l).length)).1 43 2 = nI (rowOf A l).length := by rw [SI_same, upd_same]
  have c44 : ∀ i, i < (rowOf A l).length → (llSI x1 43 2 (nI (rowOf A l).length)).1 44 i = nI ((rowOf A l).getD i 0) := fun i hi => by rw [SI_ne (by decide)]; exact g3 i hi
  generalize llSI x1 43 2 (nI (rowOf A l).length) = x2 at *
  have hXb : ∀ c, c ∈ [43, 44, 45, 46] → 31 ≤ c ∧ c ≠ 49 := fun c hc => by simp at hc; omega
  have B2 := hB.sm s2 hXb
  -- points
  obtain ⟨x3, a1, a2, a3⟩ := loop_inv (body := fx_X8_arrange_43_l18) (fun i s => s.2 = nI i ∧ Sm [46] x2 s.1 ∧ ∀ j, j < i → s.1.1 46 ((rowOf A l).getD j 0) = ptI x ((rowOf A l).getD j 0)) (fun e => Sm [46] x2 e ∧ ∀ j, j < (rowOf A l).length → e.1 46 ((rowOf A l).getD j 0) = ptI x ((rowOf A l).getD j 0)) (rowOf A l).length llFuel (x2, 0) ⟨rfl, Sm.refl _ _, fun j hj => by omega⟩ (by
      rintro i ⟨s, v⟩ hi ⟨hv, f1, f2⟩
      dsimp only at hv f1 f2
      subst hv
      obtain ⟨f, r1, r2, r3⟩ := row_st hp hi
      have Bs := B2.sm f1 (fun c hc => by simp at hc; omega)
      unfold fx_X8_arrange_43_l18
      dsimp only
      rw [(f1 43 (by decide)).1, c2, if_neg (nle2 (by omega) (by omega) hi)]
      simp only [gI_nI (show i < 12 by omega) (show 12 < 2 ^ 31 by decide), rI_n (show i < 2 ^ 31 by omega)]
      rw [(f1 44 (by decide)).1, c44 i hi, pointsOf_x (by omega), Option.bind_some, gI_nI (by omega) (by decide), nI_clamp (by omega), ptI_bas Bs]
      simp only [lt_eq, nI_1]
      refine ⟨_, rfl, rfl, f1.trans (Sm.SI (by simp)), fun j hj => ?_⟩
      rw [SI_same]
      by_cases e : (rowOf A l).getD j 0 = (rowOf A l).getD i 0
      · rw [e, upd_same]
      · rw [upd_ne e]
        refine f2 j ?_
        by_cases e2 : j = i
        · exact absurd (by rw [e2]) e
        · omega) (by
      rintro ⟨s, v⟩ ⟨hv, f1, f2⟩
      dsimp only at hv f1 f2
      subst hv
      unfold fx_X8_arrange_43_l18
      dsimp only
      rw [(f1 43 (by decide)).1, c2, if_pos (le2 (by omega) (by omega) (Nat.le_refl _))]
      exact ⟨_, rfl, f1, f2⟩) (llF (by omega))
  have rowIx : ∀ c, c ∈ rowOf A l → ∃ j, j < (rowOf A l).length ∧ (rowOf A l).getD j 0 = c := fun c hc => by
    obtain ⟨j, hj, e⟩ := List.mem_iff_getElem.mp hc
    exact ⟨j, hj, by rw [List.getD_eq_getElem?_getD, List.getElem?_eq_getElem hj]; exact e⟩
  have p46 : ∀ c, c ∈ rowOf A l → x3.1 46 c = ptI x c := fun c hc => by
    obtain ⟨j, hj, e⟩ := rowIx c hc
    rw [← e]; exact a3 j hj
  have B3 := B2.sm a2 (fun c hc => by simp at hc; omega)
  -- ranks
  obtain ⟨x4, b1, b2, b3⟩ := loop_inv (body := fx_X8_arrange_43_l58) (fun i s => s.2 = nI i ∧ Sm [45] x3 s.1 ∧ ∀ j, j < i → s.1.1 45 ((rowOf A l).getD j 0) = nI (rkN A x ((rowOf A l).getD j 0))) (fun e => Sm [45] x3 e ∧ ∀ j, j < (rowOf A l).length → e.1 45 ((rowOf A l).getD j 0) = nI (rkN A x ((rowOf A l).getD j 0))) (rowOf A l).length llFuel (x3, 0) ⟨rfl, Sm.refl _ _, fun j hj => by omega⟩ (by
      rintro i ⟨s, v⟩ hi ⟨hv, f1, f2⟩
      dsimp only at hv f1 f2
      subst hv
      obtain ⟨f, r1, r2, r3⟩ := row_st hp hi
      have Bs := B3.sm f1 (fun c hc => by simp at hc; omega)
      have h43 : s.1 43 2 = nI (rowOf A l).length := by rw [(f1 43 (by decide)).1, (a2 43 (by decide)).1]; exact c2
      have h44 : ∀ j, j < (rowOf A l).length → s.1 44 j = nI ((rowOf A l).getD j 0) := fun j hj => by rw [(f1 44 (by decide)).1, (a2 44 (by decide)).1]; exact c44 j hj
      unfold fx_X8_arrange_43_l58
      dsimp only
      rw [h43, if_neg (nle2 (by omega) (by omega) hi)]
      simp only [gI_nI (show i < 12 by omega) (show 12 < 2 ^ 31 by decide), rI_n (show i < 2 ^ 31 by omega)]
      rw [h44 i hi, rankNow_x hp hs hl Bs h43 h44 (fun c hc => by rw [(f1 46 (by decide)).1]; exact p46 c hc) (getD_in hi), Option.bind_some, gI_nI (by omega) (by decide), nI_clamp (by omega)]
      simp only [lt_eq, nI_1]
      refine ⟨_, rfl, rfl, f1.trans (Sm.SI (by simp)), fun j hj => ?_⟩
      rw [SI_same]
      by_cases e : (rowOf A l).getD j 0 = (rowOf A l).getD i 0
      · rw [e, upd_same]
      · rw [upd_ne e]
        refine f2 j ?_
        by_cases e2 : j = i
        · exact absurd (by rw [e2]) e
        · omega) (by
      rintro ⟨s, v⟩ ⟨hv, f1, f2⟩
      dsimp only at hv f1 f2
      subst hv
      unfold fx_X8_arrange_43_l58
      dsimp only
      rw [(f1 43 (by decide)).1, (a2 43 (by decide)).1, c2, if_pos (le2 (by omega) (by omega) (Nat.le_refl _))]
      exact ⟨_, rfl, f1, f2⟩) (llF (by omega))
  have r45 : ∀ c, c ∈ rowOf A l → x4.1 45 c = nI (rkN A x c) := fun c hc => by
    obtain ⟨j, hj, e⟩ := rowIx c hc
    rw [← e]; exact b3 j hj
  have q46 : ∀ c, c ∈ rowOf A l → x4.1 46 c = ptI x c := fun c hc => by rw [(b2 46 (by decide)).1]; exact p46 c hc
  have B4 := B3.sm b2 (fun c hc => by simp at hc; omega)
  have d43 : x4.1 43 = x2.1 43 := by rw [(b2 43 (by decide)).1, (a2 43 (by decide)).1]
  have d44 : x4.1 44 = x2.1 44 := by rw [(b2 44 (by decide)).1, (a2 44 (by decide)).1]
  -- the order
  obtain ⟨x5, e1, e2, e3⟩ := loop_inv (body := fx_X8_arrange_43_l95) (fun i s => s.2 = nI (1 + i) ∧ Sm [44] x4 s.1 ∧ (∀ j, j < 1 + i → s.1.1 44 j = nI ((((rowOf A l).take (1 + i)).foldl (insR (bef A x)) []).getD j 0)) ∧ ∀ j, 1 + i ≤ j → j < (rowOf A l).length → s.1.1 44 j = nI ((rowOf A l).getD j 0)) (fun e => Sm [44] x4 e ∧ ∀ j, j < (rowOf A l).length → e.1 44 j = nI ((ordL A x l).getD j 0)) ((rowOf A l).length - 1) llFuel (x4, 1) ⟨rfl, Sm.refl _ _, fun j hj => by
      have ej : j = 0 := by omega
      subst ej
      rw [d44, c44 0 (by omega), show 1 + 0 = 0 + 1 from rfl, take_s (by omega), List.take_zero]
      rfl, fun j _ hj => by rw [d44]; exact c44 j hj⟩ (by
      rintro i ⟨s, v⟩ hi ⟨hv, f1, f2, f3⟩
      dsimp only at hv f1 f2 f3
      subst hv
      have hi' : 1 + i < (rowOf A l).length := by omega
      obtain ⟨f, r1, r2, r3⟩ := row_st hp hi'
      have hL : (((rowOf A l).take (1 + i)).foldl (insR (bef A x)) []).length = 1 + i := by rw [foldI_len, List.length_take]; omega
      have hLm : ∀ y, y ∈ ((rowOf A l).take (1 + i)).foldl (insR (bef A x)) [] → y ∈ rowOf A l := fun y hy => List.mem_of_mem_take ((foldI_perm _ _ []).mem_iff.mp hy)
      have h43 : s.1 43 2 = nI (rowOf A l).length := by rw [(f1 43 (by decide)).1, d43]; exact c2
      have Bs := B4.sm f1 (fun c hc => by simp at hc; omega)
      obtain ⟨e, k1, k2, k3⟩ := sinkL_x (u := s) (L := ((rowOf A l).take (1 + i)).foldl (insR (bef A x)) []) (c := (rowOf A l).getD (1 + i) 0) hp hs r1 (fun y hy => (row_mem.mp (hLm y hy)).1) (by omega) (fun y hy => by
        have hy' : y ∈ rowOf A l := by
          rcases List.mem_cons.mp hy with q | q
          · rw [q]; exact getD_in hi'
          · exact hLm y q
        rw [(f1 46 (by decide)).1, (f1 45 (by decide)).1]
        exact ⟨q46 y hy', r45 y hy'⟩) (Bs 21 (by decide)).1 (fun j hj => f2 j (by omega))
      have hP := insP_le (bef A x) (((rowOf A l).take (1 + i)).foldl (insR (bef A x)) []) ((rowOf A l).getD (1 + i) 0) (1 + i)
      have eF : ((rowOf A l).take (1 + (i + 1))).foldl (insR (bef A x)) [] = insR (bef A x) (((rowOf A l).take (1 + i)).foldl (insR (bef A x)) []) ((rowOf A l).getD (1 + i) 0) := by
        rw [← Nat.add_assoc, take_s hi', List.foldl_append]; rfl
      rw [hL] at k1 k3
      unfold fx_X8_arrange_43_l95 fx_X8_sink_43
      dsimp only
      rw [h43, if_neg (nle2 (by omega) (by omega) hi'), gI_nI (by omega) (by decide), rI_n (by omega), f3 _ (Nat.le_refl _) hi', lt_eq, k1, Option.bind_some]
      dsimp only
      rw [gI_nI (by omega) (by decide), nI_clamp (by omega), lt_eq, bd_mk, lt_eq, nI_1]
      refine ⟨_, rfl, by rw [Nat.add_assoc], (f1.trans k2).trans (Sm.SI (by simp)), fun j hj => ?_, fun j hj hj2 => ?_⟩
      · rw [eF, SI_same]
        rw [insR_getD, hL]
        by_cases g1 : j < insP (bef A x) (((rowOf A l).take (1 + i)).foldl (insR (bef A x)) []) ((rowOf A l).getD (1 + i) 0) (1 + i)
        · rw [if_pos g1, upd_ne (by omega), k3, if_neg (by omega), f2 j (by omega)]
        · rw [if_neg g1]
          by_cases g2 : j = insP (bef A x) (((rowOf A l).take (1 + i)).foldl (insR (bef A x)) []) ((rowOf A l).getD (1 + i) 0) (1 + i)
          · rw [if_pos g2, g2, upd_same]
          · rw [if_neg g2, upd_ne g2, k3, if_pos (by omega)]
      · rw [SI_same, upd_ne (by omega), k3, if_neg (by omega)]
        exact f3 j (by omega) hj2) (by
      rintro ⟨s, v⟩ ⟨hv, f1, f2, f3⟩
      dsimp only at hv f1 f2 f3
      subst hv
      have h43 : s.1 43 2 = nI (rowOf A l).length := by rw [(f1 43 (by decide)).1, d43]; exact c2
      unfold fx_X8_arrange_43_l95
      dsimp only
      rw [h43, if_pos (le2 (by omega) (by omega) (by omega))]
      refine ⟨_, rfl, f1, fun j hj => ?_⟩
      rw [f2 j (by omega), show 1 + ((rowOf A l).length - 1) = (rowOf A l).length by omega, List.take_length]
      rfl) (llF (by omega))
  rw [a1, Option.bind_some, b1, Option.bind_some, e1]
  refine ⟨x5, rfl, s2.trans ((a2.mono (by simp)).trans ((b2.mono (by simp)).trans (e2.mono (by simp)))), ?_, ?_, e3, fun c hc => ⟨?_, ?_⟩⟩
  · rw [(e2 43 (by decide)).1, d43]; exact c6
  · rw [(e2 43 (by decide)).1, d43]; exact c2
  · rw [(e2 45 (by decide)).1]; exact r45 c hc
  · rw [(e2 46 (by decide)).1]; exact q46 c hc
/-- the reference -/
def OrM (A : Ab) (x m m' : llMem) : Prop := Sm [81, 82, 83, 84, 85, 86, 87] m m' ∧ (∀ c, c < A.nc → m'.1 84 c = nI (rkN A x c) ∧ m'.2.2 85 c = avF (apI x c) (nI (mxN x c))) ∧ ∀ l, l < A.nl → m'.1 87 l = nI (rowOf A l).length ∧ ∀ i, i < (rowOf A l).length → m'.1 86 (12 * l + i) = nI ((ordL A x l).getD i 0)
theorem laysOrders_m {A : Ab} {x m : llMem} {mc : Nat} {ml : Nat → Nat × Nat} (hp : IPyr A x m) (hs : ISea A x m mc ml) : ∃ m', fx_X12_laysOrders_69 m = some (m', ()) ∧ OrM A x m m' := by
  have hn := hp.ncB
  have hn2 := hp.nlB
  obtain ⟨m1, a1, a2, a3⟩ := laysRanks_m hp hs
  have lb : ∀ c, c ∈ [86, 87] → 81 ≤ c := fun c hc => by simp at hc; omega
  have hp1 : IPyr A x m1 := hp.smM a2 (fun c hc => by simp at hc; omega)
  have inner : ∀ (l : Nat) (u : llMem), l < A.nl → Sm [86, 87] m1 u → ∃ e, loop (fx_X12_laysOrders_69_l18_b6 (nI l)) llFuel (u, 0, 0) = some e ∧ (e.2 = nI (rowOf A l).length ∧ Sm [86] u e.1 ∧ (∀ j, j < (rowOf A l).length → e.1.1 86 (12 * l + j) = nI ((ordL A x l).getD j 0)) ∧ ∀ k, k < 12 * l → e.1.1 86 k = u.1 86 k) := by
    intro l u hl hu
    refine loop_inv (fun c s => s.2 = (nI (rowTo A l c).length, nI c) ∧ Sm [86] u s.1 ∧ (∀ j, j < (rowTo A l c).length → s.1.1 86 (12 * l + j) = nI ((ordT A x l c).getD j 0)) ∧ ∀ k, k < 12 * l → s.1.1 86 k = u.1 86 k) _ A.nc llFuel (u, 0, 0) ⟨rfl, Sm.refl _ _, fun j hj => by simp [rowTo] at hj, fun _ _ => rfl⟩ ?_ ?_ (llF (by omega))
    · rintro c ⟨s, v⟩ hc ⟨hv, f1, f2, f3⟩
      dsimp only at hv f1 f2 f3
      subst hv
      have S1 : Sm [86, 87] m1 s := hu.trans (f1.mono (by simp))
      have p0 := hp1.smM S1 lb
      have hR : ∀ c, c < A.nc → s.1 84 c = nI (rkN A x c) ∧ s.2.2 85 c = avF (apI x c) (nI (mxN x c)) := fun c hc => by
        rw [(S1 84 (by decide)).1, (S1 85 (by decide)).2.2]; exact a3 c hc
      unfold fx_X12_laysOrders_69_l18_b6 fx_X12_laysOrders_69_j117_b18_b6
      dsimp only
      rw [p0.m9, if_neg (nle2 (by omega) (by omega) hc), gI_nI (by omega) (by decide), rI_n (by omega), (p0.cl hc).m74]
      by_cases e : (A.st c).map Prod.fst = some l
      · have hs1 := rowTo_t e
        have hb := rowTo_len hp hl (i := c + 1) (by omega)
        rw [hs1, List.length_append, List.length_singleton] at hb
        have hL : (ordT A x l c).length = (rowTo A l c).length := foldI_len _ _
        have hLm : ∀ y, y ∈ ordT A x l c → y < A.nc := fun y hy => by
          have := (foldI_perm _ _ []).mem_iff.mp hy
          rw [List.nil_append] at this
          unfold rowTo at this
          rw [List.mem_filter, List.mem_range] at this
          omega
        obtain ⟨e', k1, k2, k3⟩ := sinkL_m (u := s) (L := ordT A x l c) (l := l) hp hs (by omega) (nI (rowTo A l c).length) hc hLm (by omega) hR (fun j hj => f2 j (by omega))
        rw [hL] at k1 k3
        have hP := insP_le (bef A x) (ordT A x l c) c (rowTo A l c).length
        have eF : ordT A x l (c + 1) = insR (bef A x) (ordT A x l c) c := by
          unfold ordT
          rw [hs1, List.foldl_append]; rfl
        rw [if_pos ((lvI_eq hp hc (by omega)).mpr e), k1, Option.bind_some]
        dsimp only
        rw [ix12, gI_nI (by omega) (by decide), nI_clamp (by omega)]
        simp only [lt_eq, nI_1]
        refine ⟨_, rfl, ?_, (f1.trans k2).trans (Sm.SI (by simp)), fun j hj => ?_, fun k hk => ?_⟩
        · rw [hs1, List.length_append, List.length_singleton]
        · rw [hs1, List.length_append, List.length_singleton] at hj
          rw [eF, SI_same]
          rw [insR_getD, hL]
          by_cases g1 : j < insP (bef A x) (ordT A x l c) c (rowTo A l c).length
          · rw [if_pos g1, upd_ne (by omega), k3, if_neg (by omega), f2 j (by omega)]
          · rw [if_neg g1]
            by_cases g2 : j = insP (bef A x) (ordT A x l c) c (rowTo A l c).length
            · rw [if_pos g2, g2, upd_same]
            · rw [if_neg g2, upd_ne (by omega), k3, if_pos (by omega), show 12 * l + j - 12 * l - 1 = j - 1 by omega]
        · rw [SI_same, upd_ne (by omega), k3, if_neg (by omega)]
          exact f3 k hk
      · rw [if_neg (fun q => e ((lvI_eq hp hc (by omega)).mp q))]
        have eF : ordT A x l (c + 1) = ordT A x l c := by unfold ordT; rw [rowTo_f e]
        simp only [lt_eq, nI_1]
        refine ⟨_, rfl, by rw [rowTo_f e], f1, fun j hj => ?_, f3⟩
        rw [rowTo_f e] at hj
        rw [eF]; exact f2 j hj
    · rintro ⟨s, v⟩ ⟨hv, f1, f2, f3⟩
      dsimp only at hv f1 f2 f3
      subst hv
      have S1 : Sm [86, 87] m1 s := hu.trans (f1.mono (by simp))
      have p0 := hp1.smM S1 lb
      unfold fx_X12_laysOrders_69_l18_b6
      dsimp only
      rw [p0.m9, if_pos (le2 (by omega) (by omega) (Nat.le_refl _))]
      exact ⟨_, rfl, rfl, f1, f2, f3⟩
  obtain ⟨m2, b1, b2, b3⟩ := loop_inv (body := fx_X12_laysOrders_69_l6) (fun i s => s.2 = nI i ∧ Sm [86, 87] m1 s.1 ∧ ∀ l, l < i → s.1.1 87 l = nI (rowOf A l).length ∧ ∀ j, j < (rowOf A l).length → s.1.1 86 (12 * l + j) = nI ((ordL A x l).getD j 0)) (fun e => Sm [86, 87] m1 e ∧ ∀ l, l < A.nl → e.1 87 l = nI (rowOf A l).length ∧ ∀ j, j < (rowOf A l).length → e.1 86 (12 * l + j) = nI ((ordL A x l).getD j 0)) A.nl llFuel (m1, 0) ⟨rfl, Sm.refl _ _, fun c hc => by omega⟩ (by
      rintro i ⟨s, v⟩ hi ⟨hv, f1, f2⟩
      dsimp only at hv f1 f2
      subst hv
      have p0 := hp1.smM f1 lb
      obtain ⟨⟨e, r⟩, e1, e2, e3, e4, e5⟩ := inner i s hi f1
      dsimp only at e2 e3 e4 e5
      subst e2
      unfold fx_X12_laysOrders_69_l6
      dsimp only
      rw [p0.m1, if_neg (nle2 (by omega) (by omega) hi), e1, Option.bind_some, gI_nI (by omega) (by decide), nI_clamp (by omega), lt_eq, lt_eq, nI_1]
      refine ⟨_, rfl, rfl, (f1.trans (e3.mono (by simp))).trans (Sm.SI (by simp)), fun l hl => ?_⟩
      dsimp only
      rw [SI_same, SI_ne (by decide)]
      by_cases q : l = i
      · subst q
        rw [upd_same]
        exact ⟨rfl, e4⟩
      · obtain ⟨w1, w2⟩ := f2 l (by omega)
        rw [upd_ne q, (e3 87 (by decide)).1]
        refine ⟨w1, fun j hj => ?_⟩
        have := row_12 hp (show l < A.nl by omega)
        rw [e5 _ (by omega)]; exact w2 j hj) (by
      rintro ⟨s, v⟩ ⟨hv, f1, f2⟩
      dsimp only at hv f1 f2
      subst hv
      have p0 := hp1.smM f1 lb
      unfold fx_X12_laysOrders_69_l6
      dsimp only
      rw [p0.m1, if_pos (le2 (by omega) (by omega) (Nat.le_refl _))]
      exact ⟨_, rfl, f1, f2⟩) (llF (by omega))
  unfold fx_X12_laysOrders_69
  rw [a1, bd_mk, b1]
  refine ⟨m2, rfl, (a2.mono (by simp)).trans (b2.mono (by simp)), fun c hc => ?_, b3⟩
  rw [(b2 84 (by decide)).1, (b2 85 (by decide)).2.2]
  exact a3 c hc
