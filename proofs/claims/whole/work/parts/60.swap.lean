/-! swap -/
/-- what a swap saves -/
def svI (A : Ab) (l a b : Nat) : Int32 := nI (miT A l (dvN A a) a) + nI (miT A l (dvN A b) b) - (nI (miT A l (dvN A b) a) + nI (miT A l (dvN A a) b)) + 2 * nI (A.mi a b)
def sws (A : Ab) (l a : Nat) (t : Int32 × Int32 × Int32) (b : Nat) : Int32 × Int32 × Int32 := if dvN A a = dvN A b then t else if t.1 < svI A l a b then (svI A l a b, nI a, nI b) else t
def swi (A : Ab) (l : Nat) (t : Int32 × Int32 × Int32) (a : Nat) : Int32 × Int32 × Int32 := ((rowOf A l).filter (fun b => decide (a < b))).foldl (sws A l a) t
theorem sws_nn {A : Ab} {l a b : Nat} {t : Int32 × Int32 × Int32} (h : 0 ≤ t.1) : 0 ≤ (sws A l a t b).1 := by
  unfold sws
  by_cases e1 : dvN A a = dvN A b
  · rw [if_pos e1]; exact h
  · rw [if_neg e1]
    by_cases e2 : t.1 < svI A l a b
    · rw [if_pos e2]; exact Int32.le_trans h (Int32.le_of_lt e2)
    · rw [if_neg e2]; exact h
theorem rowF_t {A : Ab} {l a k : Nat} (hk : k < (rowOf A l).length) (h : a < (rowOf A l).getD k 0) : ((rowOf A l).take (k + 1)).filter (fun b => decide (a < b)) = ((rowOf A l).take k).filter (fun b => decide (a < b)) ++ [(rowOf A l).getD k 0] := by
  rw [take_s hk, List.filter_append, List.filter_cons_of_pos (by simpa using h), List.filter_nil]
/-- what the class has found: how much is saved, and by whom if something is -/
def Fnd (x : llMem) (t : Int32 × Int32 × Int32) : Prop := x.1 48 5 = t.1 ∧ 0 ≤ t.1 ∧ (t.1 = 0 ∨ (x.1 48 6 = t.2.1 ∧ x.1 48 7 = t.2.2))
theorem savingOf_x {A : Ab} {x x' m : llMem} {l : Nat} (hp : IPyr A x m) (hs : Sur A x x' l) (h12 : (rowOf A l).length ≤ 12) {i k : Nat} (hi : i < (rowOf A l).length) (hk : k < (rowOf A l).length) {d e : Nat} (hl : l < A.nl) (h1 : A.st ((rowOf A l).getD i 0) = some (l, d)) (h2 : A.st ((rowOf A l).getD k 0) = some (l, e)) : fx_X10_savingOf_48 x' (nI i) (nI k) = some (svI A l ((rowOf A l).getD i 0) ((rowOf A l).getD k 0)) := by
  have hd3 := (hp.lv hl).2.2.2.2.2.2.2.2.2.1
  have c1 := (row_mem.mp (getD_in hi)).1
  have c2 := (row_mem.mp (getD_in hk)).1
  have b1 := ((hp.cl c1).stB l d h1).2
  have b2 := ((hp.cl c2).stB l e h2).2
  have v1 : dvN A ((rowOf A l).getD i 0) = d := by unfold dvN; rw [h1]
  have v2 : dvN A ((rowOf A l).getD k 0) = e := by unfold dvN; rw [h2]
  have hp' : IPyr A x' m := hp.sm hs.1 (fun c hc => by simp at hc; omega)
  unfold fx_X10_savingOf_48 svI
  rw [v1, v2, divisionOf_x hp hs h12 hi h1, divisionOf_x hp hs h12 hk h2]
  simp only [Option.bind_some]
  rw [farFrom_x hs h12 hi (by omega), farFrom_x hs h12 hk (by omega), farFrom_x hs h12 hi (by omega), farFrom_x hs h12 hk (by omega)]
  simp only [Option.bind_some, lt_eq]
  rw [gI_nI (by omega) (by decide), gI_nI (by omega) (by decide), rI_n (by omega), rI_n (by omega), hs.2.2.1 i hi, hs.2.2.1 k hk, between_x hp' c1 c2, Option.bind_some]
theorem Sur.w {A : Ab} {x x' : llMem} {l : Nat} (h : Sur A x x' l) {k : Nat} {v : Int32} (hk : k ≠ 2) : Sur A x (llSI x' 48 k v) l := by
  refine ⟨h.1.trans (Sm.SI (by simp)), ?_, fun i hi => ?_, fun j hj => ?_⟩
  · rw [SI_same, upd_ne (fun q => hk q.symm)]; exact h.2.1
  · rw [SI_ne (by decide)]; exact h.2.2.1 i hi
  · rw [SI_ne (by decide)]; exact h.2.2.2 j hj
theorem findSwap_x {A : Ab} {x m : llMem} (hp : IPyr A x m) {l : Nat} (hl : l < A.nl) : ∃ x', fx_X10_findSwap_48 x (nI l) = some (x', if ((rowOf A l).foldl (swi A l) (0, -1, -1)).1 ≤ 0 then 0 else 1) ∧ Sur A x x' l ∧ Fnd x' ((rowOf A l).foldl (swi A l) (0, -1, -1)) := by
  have hn := hp.ncB
  have h12 := row_12 hp hl
  obtain ⟨x1, g1, g2⟩ := survey_x hp hl
  have inner : ∀ (i : Nat) (u : llMem) (t : Int32 × Int32 × Int32), i < (rowOf A l).length → Sur A x u l → Fnd u t → ∃ e, loop (fx_X10_findSwap_48_l24_b12 (nI i)) llFuel (u, nI (i + 1)) = some e ∧ (Sur A x e l ∧ Fnd e (swi A l t ((rowOf A l).getD i 0))) := by
    intro i u t hi hu ht
    refine loop_inv (fun j s => s.2 = nI (i + 1 + j) ∧ Sur A x s.1 l ∧ Fnd s.1 ((((rowOf A l).take (i + 1 + j)).filter (fun b => decide ((rowOf A l).getD i 0 < b))).foldl (sws A l ((rowOf A l).getD i 0)) t)) _ ((rowOf A l).length - (i + 1)) llFuel (u, nI (i + 1)) ⟨rfl, hu, ?_⟩ ?_ ?_ (llF (by omega))
    · have : ((rowOf A l).take (i + 1 + 0)).filter (fun b => decide ((rowOf A l).getD i 0 < b)) = [] := by
        rw [List.filter_eq_nil_iff]
        intro b hb
        rw [decide_eq_true_eq]
        rw [Nat.add_zero, take_s hi, List.mem_append, List.mem_singleton] at hb
        rcases hb with hb | hb
        · obtain ⟨j, hj, e⟩ := List.mem_iff_getElem.mp hb
          rw [List.length_take] at hj
          rw [List.getElem_take] at e
          have := row_lt (A := A) (l := l) (i := j) (k := i) (by omega) hi
          rw [List.getD_eq_getElem?_getD, List.getElem?_eq_getElem (show j < (rowOf A l).length by omega)] at this
          simp only [Option.getD_some] at this
          omega
        · omega
      rw [this]
      exact ht
    · rintro j ⟨s, v⟩ hj ⟨hv, k1, k2⟩
      dsimp only at hv k1 k2
      subst hv
      have hk : i + 1 + j < (rowOf A l).length := by omega
      obtain ⟨d, r1, r2, r3⟩ := row_st hp hi
      obtain ⟨e, q1, q2, q3⟩ := row_st hp hk
      have v1 : dvN A ((rowOf A l).getD i 0) = d := by unfold dvN; rw [r2]
      have v2 : dvN A ((rowOf A l).getD (i + 1 + j) 0) = e := by unfold dvN; rw [q2]
      have hd3 := (hp.lv hl).2.2.2.2.2.2.2.2.2.1
      have hr := row_lt (A := A) (l := l) (i := i) (k := i + 1 + j) (by omega) hk
      have es := rowF_t hk hr
      generalize hT : (((rowOf A l).take (i + 1 + j)).filter (fun b => decide ((rowOf A l).getD i 0 < b))).foldl (sws A l ((rowOf A l).getD i 0)) t = T at k2
      have eF : (((rowOf A l).take (i + 1 + (j + 1))).filter (fun b => decide ((rowOf A l).getD i 0 < b))).foldl (sws A l ((rowOf A l).getD i 0)) t = sws A l ((rowOf A l).getD i 0) T ((rowOf A l).getD (i + 1 + j) 0) := by
        rw [← Nat.add_assoc, es, List.foldl_append, hT]; rfl
      rw [eF]
      obtain ⟨t1, t2, t3⟩ := k2
      unfold fx_X10_findSwap_48_l24_b12 fx_X10_findSwap_48_j55_b24_b12 fx_X10_findSwap_48_j92_b24_b12
      dsimp only
      rw [k1.2.1, if_neg (nle2 (by omega) (by omega) hk), divisionOf_x hp k1 h12 hi r2, divisionOf_x hp k1 h12 hk q2, savingOf_x hp k1 h12 hi hk hl r2 q2, t1]
      simp only [Option.bind_some, lt_eq, nI_1, gI_nI (show i < 12 by omega) (show 12 < 2 ^ 31 by decide), gI_nI (show i + 1 + j < 12 by omega) (show 12 < 2 ^ 31 by decide), rI_n (show i < 2 ^ 31 by omega), rI_n (show i + 1 + j < 2 ^ 31 by omega)]
      unfold sws
      rw [v1, v2]
      by_cases e1 : d = e
      · rw [if_pos (by rw [e1]), if_pos t2, if_pos e1]
        exact ⟨_, rfl, rfl, k1, t1, t2, t3⟩
      · rw [if_neg (fun q => e1 (nI_inj (by omega) (by omega) q)), if_neg e1]
        by_cases e2 : T.1 < svI A l ((rowOf A l).getD i 0) ((rowOf A l).getD (i + 1 + j) 0)
        · rw [if_neg (Int32.not_le.mpr e2), if_pos e2]
          refine ⟨_, rfl, rfl, ((k1.w (by decide)).w (by decide)).w (by decide), ?_, Int32.le_trans t2 (Int32.le_of_lt e2), Or.inr ⟨?_, ?_⟩⟩
          · rw [SI_at (by decide), SI_at (by decide), SI_same, upd_same]
          · rw [SI_at (by decide), SI_same, upd_same, SI_ne (by decide), k1.2.2.1 i hi]
          · rw [SI_same, upd_same, SI_ne (by decide), SI_ne (by decide), k1.2.2.1 _ hk]
        · rw [if_pos (Int32.not_lt.mp e2), if_neg e2]
          exact ⟨_, rfl, rfl, k1, t1, t2, t3⟩
    · rintro ⟨s, v⟩ ⟨hv, k1, k2⟩
      dsimp only at hv k1 k2
      subst hv
      unfold fx_X10_findSwap_48_l24_b12
      dsimp only
      rw [k1.2.1, if_pos (le2 (by omega) (by omega) (by omega))]
      rw [show i + 1 + ((rowOf A l).length - (i + 1)) = (rowOf A l).length by omega, List.take_length] at k2
      exact ⟨_, rfl, k1, k2⟩
  have outer : ∃ e, loop fx_X10_findSwap_48_l12 llFuel (llSI x1 48 5 0, 0) = some e ∧ (Sur A x e l ∧ Fnd e ((rowOf A l).foldl (swi A l) (0, -1, -1))) := by
    refine loop_inv (fun i s => s.2 = nI i ∧ Sur A x s.1 l ∧ Fnd s.1 (((rowOf A l).take i).foldl (swi A l) (0, -1, -1))) _ (rowOf A l).length llFuel (llSI x1 48 5 0, 0) ⟨rfl, g2.w (by decide), by rw [SI_same, upd_same]; rfl, Int32.le_refl 0, Or.inl rfl⟩ ?_ ?_ (llF (by omega))
    · rintro i ⟨s, v⟩ hi ⟨hv, k1, k2⟩
      dsimp only at hv k1 k2
      subst hv
      obtain ⟨e, e1, e2, e3⟩ := inner i s _ hi k1 k2
      unfold fx_X10_findSwap_48_l12
      dsimp only
      rw [k1.2.1, if_neg (nle2 (by omega) (by omega) hi), nI_1]
      simp only [lt_eq]
      rw [e1, Option.bind_some]
      refine ⟨_, rfl, rfl, e2, ?_⟩
      rw [take_s hi, List.foldl_append]
      exact e3
    · rintro ⟨s, v⟩ ⟨hv, k1, k2⟩
      dsimp only at hv k1 k2
      subst hv
      unfold fx_X10_findSwap_48_l12
      dsimp only
      rw [k1.2.1, if_pos (le2 (by omega) (by omega) (Nat.le_refl _))]
      rw [List.take_length] at k2
      exact ⟨_, rfl, k1, k2⟩
  obtain ⟨e, e1, e2, e3⟩ := outer
  unfold fx_X10_findSwap_48
  rw [g1, bd_mk]
  simp only [lt_eq]
  rw [e1, Option.bind_some, e3.1, gB_0, gB_1]
  refine ⟨e, ?_, e2, e3⟩
  by_cases q : ((rowOf A l).foldl (swi A l) (0, -1, -1)).1 ≤ 0
  · rw [if_pos q, if_pos q]
  · rw [if_neg q, if_neg q]
theorem rowToF_t {A : Ab} {l a b : Nat} (h : (A.st b).map Prod.fst = some l) (hb : a < b) : (rowTo A l (b + 1)).filter (fun b => decide (a < b)) = (rowTo A l b).filter (fun b => decide (a < b)) ++ [b] := by
  rw [rowTo_t h, List.filter_append, List.filter_cons_of_pos (by simpa using hb), List.filter_nil]
theorem swap_m {A : Ab} {x m : llMem} (hp : IPyr A x m) {l : Nat} (hl : l < A.nl) (w : Int32) : loop (fx_X12_swap_69_l33 m (nI l) w) llFuel (0, -1, -1, 0) = some ((rowOf A l).foldl (swi A l) (0, -1, -1)) := by
  have hn := hp.ncB
  have hn2 := hp.nlB
  have inner : ∀ (a : Nat) (t : Int32 × Int32 × Int32), a < A.nc → loop (fx_X12_swap_69_l48_b33 m (nI l) w (nI a)) llFuel (t.1, t.2.1, t.2.2, nI (a + 1)) = some (if (A.st a).map Prod.fst = some l then swi A l t a else t) := by
    intro a t ha
    by_cases e1 : (A.st a).map Prod.fst = some l
    · rw [if_pos e1]
      obtain ⟨d, e1'⟩ := lv_some e1
      have v1 : dvN A a = d := by unfold dvN; rw [e1']
      have hd := ((hp.cl ha).stB l d e1').2
      have hd3 := (hp.lv hl).2.2.2.2.2.2.2.2.2.1
      obtain ⟨e, h1, h2⟩ := loop_inv (body := fx_X12_swap_69_l48_b33 m (nI l) w (nI a)) (fun j s => s = ((((rowTo A l (a + 1 + j)).filter (fun b => decide (a < b))).foldl (sws A l a) t).1, (((rowTo A l (a + 1 + j)).filter (fun b => decide (a < b))).foldl (sws A l a) t).2.1, (((rowTo A l (a + 1 + j)).filter (fun b => decide (a < b))).foldl (sws A l a) t).2.2, nI (a + 1 + j))) (fun e => e = swi A l t a) (A.nc - (a + 1)) llFuel (t.1, t.2.1, t.2.2, nI (a + 1)) (by
        have : (rowTo A l (a + 1 + 0)).filter (fun b => decide (a < b)) = [] := by
          rw [List.filter_eq_nil_iff]
          intro b hb
          unfold rowTo at hb
          rw [List.mem_filter, List.mem_range] at hb
          rw [decide_eq_true_eq]
          omega
        rw [this]; rfl) (by
        intro j s hj hs
        have hb : a + 1 + j < A.nc := by omega
        generalize hT : ((rowTo A l (a + 1 + j)).filter (fun b => decide (a < b))).foldl (sws A l a) t = T at hs
        subst hs
        unfold fx_X12_swap_69_l48_b33 fx_X12_swap_69_j191_b48_b33
        dsimp only
        rw [hp.m9, if_neg (nle2 (by omega) (by omega) hb), gI_nI (by omega) (by decide), rI_n (by omega), (hp.cl ha).m74, (lvI_some e1').1, if_neg (fun q => q rfl), gI_nI (by omega) (by decide), rI_n (by omega), (hp.cl hb).m74, ite_lv hp hb (by omega)]
        by_cases e2 : (A.st (a + 1 + j)).map Prod.fst = some l
        · obtain ⟨f, e2'⟩ := lv_some e2
          have v2 : dvN A (a + 1 + j) = f := by unfold dvN; rw [e2']
          have hf := ((hp.cl hb).stB l f e2').2
          rw [if_pos e2]
          have eF : ((rowTo A l (a + 1 + (j + 1))).filter (fun b => decide (a < b))).foldl (sws A l a) t = sws A l a T (a + 1 + j) := by
            rw [← Nat.add_assoc, rowToF_t e2 (by omega), List.foldl_append, hT]; rfl
          rw [eF]
          simp only [gI_nI (show a < 60 by omega) (show 60 < 2 ^ 31 by decide), gI_nI (show a + 1 + j < 60 by omega) (show 60 < 2 ^ 31 by decide), rI_n (show a < 2 ^ 31 by omega), rI_n (show a + 1 + j < 2 ^ 31 by omega), (hp.cl ha).m75, (hp.cl hb).m75, (lvI_some e1').2, (lvI_some e2').2, milesIn_m hp ha (show l < 1000 by omega) (show d < 1000 by omega), milesIn_m hp ha (show l < 1000 by omega) (show f < 1000 by omega), milesIn_m hp hb (show l < 1000 by omega) (show d < 1000 by omega), milesIn_m hp hb (show l < 1000 by omega) (show f < 1000 by omega), miles_m hp ha hb, Option.bind_some, lt_eq, nI_1]
          have ev : nI (miT A l d a) + nI (miT A l f (a + 1 + j)) - nI (miT A l f a) - nI (miT A l d (a + 1 + j)) + 2 * nI (A.mi a (a + 1 + j)) = svI A l a (a + 1 + j) := by
            unfold svI; rw [v1, v2]; grind
          rw [ev]
          unfold sws
          rw [v1, v2]
          by_cases e3 : d = f
          · rw [if_neg (fun q => q (by rw [e3])), if_pos e3]
            exact ⟨_, rfl, rfl⟩
          · rw [if_pos (fun q => e3 (nI_inj (by omega) (by omega) q)), if_neg e3]
            by_cases e4 : T.1 < svI A l a (a + 1 + j)
            · rw [if_pos e4, if_pos e4]
              exact ⟨_, rfl, rfl⟩
            · rw [if_neg e4, if_neg e4]
              exact ⟨_, rfl, rfl⟩
        · rw [if_neg e2]
          have eF : ((rowTo A l (a + 1 + (j + 1))).filter (fun b => decide (a < b))).foldl (sws A l a) t = T := by
            rw [← Nat.add_assoc, rowTo_f e2, hT]
          rw [eF]
          simp only [lt_eq, nI_1]
          exact ⟨_, rfl, rfl⟩) (by
        intro s hs
        subst hs
        unfold fx_X12_swap_69_l48_b33
        dsimp only
        rw [hp.m9, if_pos (le2 (by omega) (by omega) (by omega)), show a + 1 + (A.nc - (a + 1)) = A.nc by omega]
        exact ⟨_, rfl, rfl⟩) (llF (by omega))
      rw [h1, h2]
    · rw [if_neg e1]
      refine loop_run0 (fun j => (t.1, t.2.1, t.2.2, nI (a + 1 + j))) _ (A.nc - (a + 1)) llFuel rfl ?_ ?_ (llF (by omega))
      · intro j hj
        unfold fx_X12_swap_69_l48_b33 fx_X12_swap_69_j191_b48_b33
        dsimp only
        rw [hp.m9, if_neg (nle2 (by omega) (by omega) (by omega)), gI_nI (by omega) (by decide), rI_n (by omega), (hp.cl ha).m74, if_pos (fun q => e1 ((lvI_eq hp ha (by omega)).mp q))]
        simp only [lt_eq, nI_1]
        rfl
      · unfold fx_X12_swap_69_l48_b33
        dsimp only
        rw [hp.m9, if_pos (le2 (by omega) (by omega) (by omega))]
  have outer : loop (fx_X12_swap_69_l33 m (nI l) w) llFuel (0, -1, -1, 0) = some (itr (fun a t => if decide ((A.st a).map Prod.fst = some l) then swi A l t a else t) (0, -1, -1) A.nc) := by
    refine loop_run0 (fun i => ((itr (fun a t => if decide ((A.st a).map Prod.fst = some l) then swi A l t a else t) (0, -1, -1) i).1, (itr (fun a t => if decide ((A.st a).map Prod.fst = some l) then swi A l t a else t) (0, -1, -1) i).2.1, (itr (fun a t => if decide ((A.st a).map Prod.fst = some l) then swi A l t a else t) (0, -1, -1) i).2.2, nI i)) _ A.nc llFuel rfl ?_ ?_ (llF (by omega))
    · intro i hi
      have eI : itr (fun a t => if decide ((A.st a).map Prod.fst = some l) then swi A l t a else t) (0, -1, -1) (i + 1) = (if decide ((A.st i).map Prod.fst = some l) then swi A l (itr (fun a t => if decide ((A.st a).map Prod.fst = some l) then swi A l t a else t) (0, -1, -1) i) i else itr (fun a t => if decide ((A.st a).map Prod.fst = some l) then swi A l t a else t) (0, -1, -1) i) := rfl
      rw [eI]
      generalize itr (fun a t => if decide ((A.st a).map Prod.fst = some l) then swi A l t a else t) (0, -1, -1) i = T
      unfold fx_X12_swap_69_l33
      dsimp only
      rw [hp.m9, if_neg (nle2 (by omega) (by omega) hi), nI_1]
      simp only [lt_eq]
      rw [inner i T hi, Option.bind_some]
      by_cases e1 : (A.st i).map Prod.fst = some l
      · rw [if_pos e1, if_pos (decide_eq_true e1)]
      · rw [if_neg e1, if_neg (by rw [decide_eq_true_eq]; exact e1)]
    · unfold fx_X12_swap_69_l33
      dsimp only
      rw [hp.m9, if_pos (le2 (by omega) (by omega) (Nat.le_refl _))]
  rw [outer, itr_filter (fun a => decide ((A.st a).map Prod.fst = some l)) (swi A l)]
  rfl
theorem isIn_2 (u : llMem) (b : Int32) : ((b = 0 ∨ b = 1 ∨ b = 2) ∧ fx_X12_isIn u (Int32.toInt64 b) 0 2 = some 1) ∨ ((b < 0 ∨ (¬ b < 0 ∧ 2 < b)) ∧ fx_X12_isIn u (Int32.toInt64 b) 0 2 = some 0) := by
  rcases arg_in b (k := 3) (by decide) with ⟨c, h1, h2, h3⟩ | ⟨h1, h3⟩
  · refine Or.inl ⟨?_, h3 u⟩
    rcases (show c = 0 ∨ c = 1 ∨ c = 2 by omega) with rfl | rfl | rfl
    · exact Or.inl h2
    · exact Or.inr (Or.inl h2)
    · exact Or.inr (Or.inr h2)
  · refine Or.inr ⟨?_, h3 u⟩
    rcases h1 with h1 | ⟨h1, h2⟩
    · exact Or.inl h1
    · refine Or.inr ⟨h1, ?_⟩
      rw [Int32.lt_iff_toInt_lt]
      rw [Int32.le_iff_toInt_le] at h2
      have e1 : (nI 3).toInt = 3 := rfl
      have e2 : (2 : Int32).toInt = 2 := rfl
      omega
theorem swap_S (a w : Int32) : StepQ (fun u => fx_X11_swap_0 u a w) (fun u => fx_X12_swap_69 u a w) := by
  rintro x m ⟨A, mc, ml, k, cj, h⟩
  have hp := h.1
  dsimp only
  unfold fx_X11_swap_0 fx_X12_swap_69
  rcases hasLevel_B hp a with ⟨l, hl, rfl, p1, p2⟩ | ⟨p1, p2⟩
  · rw [p1, p2, Option.bind_some, Option.bind_some, if_neg one_ne, if_neg one_ne]
    rcases isIn_2 m w with ⟨q1, q2⟩ | ⟨q1, q2⟩
    · have n1 : ¬ w < 0 := by rcases q1 with rfl | rfl | rfl <;> decide
      have n2 : ¬ 2 < w := by rcases q1 with rfl | rfl | rfl <;> decide
      obtain ⟨x', e1, e2, e3, e4, e5⟩ := findSwap_x hp hl
      rw [if_neg n1, if_neg n2, e1, bd_mk, q2, Option.bind_some, if_pos one_ne, swap_m hp hl, Option.bind_some, e3]
      generalize (rowOf A l).foldl (swi A l) (0, -1, -1) = T at *
      by_cases z : T.1 = 0
      · rw [if_pos (show T.1 ≤ 0 by rw [z]; exact Int32.le_refl 0), if_neg (show ¬ ¬ (0 : Int32) = 0 from fun q => q rfl), if_neg (show ¬ ¬ T.1 = 0 from fun q => q z)]
        exact ⟨x', _, rfl, rfl, e2.q⟩
      · have hz : ¬ T.1 ≤ 0 := fun q => z (Int32.le_antisymm q e4)
        rw [if_neg hz, if_pos one_ne, if_pos z]
        obtain ⟨f1, f2⟩ := e5.resolve_left z
        rw [f1, f2]
        rcases q1 with rfl | rfl | rfl
        · exact ⟨x', _, rfl, rfl, e2.q⟩
        · exact ⟨x', _, rfl, rfl, e2.q⟩
        · exact ⟨x', _, rfl, rfl, e2.q⟩
    · rw [q2, Option.bind_some, if_neg (show ¬ ¬ (0 : Int32) = 0 from fun q => q rfl)]
      rcases q1 with q1 | ⟨q1, q3⟩
      · rw [if_pos q1]; exact ⟨x, _, rfl, rfl, QX.refl x⟩
      · rw [if_neg q1, if_pos q3]; exact ⟨x, _, rfl, rfl, QX.refl x⟩
  · rw [p1, p2]; exact ⟨x, _, rfl, rfl, QX.refl x⟩
