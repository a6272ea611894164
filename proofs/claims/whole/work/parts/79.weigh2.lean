/-! the class weighs the end of a season: who comes, and the whole -/
def gS (A : Ab) (x : llMem) (k c : Nat) : Int32 := if rs x c then -2 else match A.st c with
  | none => lvI A c
  | some (l, _) => if l < k then (if c ∈ upL A x l then nI (l - 1) else if c ∈ dwnL A x l then nI (l + 1) else nI l) else nI l
def goalI (A : Ab) (x : llMem) (c : Nat) : Int32 := if c ∈ comL A x then nI (A.nl - 1) else gS A x A.nl c
theorem upL_mem {A : Ab} {x : llMem} {l c : Nat} (h : c ∈ upL A x l) : 0 < l ∧ c ∈ ordL A x l ∧ rs x c = false := by
  unfold upL at h
  by_cases e : l = 0
  · rw [if_pos e] at h; simp at h
  · rw [if_neg e] at h
    have h := List.mem_of_mem_take h
    unfold upQ at h
    rcases List.mem_append.mp h with h | h
    · obtain ⟨h1, h2⟩ := List.mem_filter.mp h
      exact ⟨by omega, h1, may_rs h2⟩
    · obtain ⟨h1, h2⟩ := List.mem_filter.mp h
      refine ⟨by omega, h1, ?_⟩
      cases q : rs x c
      · rfl
      · rw [q] at h2; simp at h2
theorem dwnL_mem {A : Ab} {x : llMem} {l c : Nat} (h : c ∈ dwnL A x l) : l + 1 < A.nl ∧ c ∈ ordL A x l ∧ rs x c = false ∧ c ∉ upL A x l := by
  unfold dwnL at h
  by_cases e : l + 1 < A.nl
  · rw [if_pos e] at h
    have h := List.mem_of_mem_drop h
    unfold styL at h
    obtain ⟨h1, h2⟩ := List.mem_filter.mp h
    simp only [Bool.and_eq_true, Bool.not_eq_true', List.contains_eq_mem, decide_eq_false_iff_not] at h2
    exact ⟨e, h1, h2.1, h2.2⟩
  · rw [if_neg e] at h; simp at h
theorem sprL_mem {A : Ab} {x : llMem} {l c : Nat} (h : c ∈ sprL A x l) : l + 1 < A.nl ∧ c ∈ ordL A x l ∧ rs x c = false ∧ c ∉ upL A x l := by
  unfold sprL at h
  by_cases e : l + 1 < A.nl
  · rw [if_pos e] at h
    have h := List.mem_of_mem_take (List.mem_of_mem_drop h)
    unfold styL at h
    obtain ⟨h1, h2⟩ := List.mem_filter.mp h
    simp only [Bool.and_eq_true, Bool.not_eq_true', List.contains_eq_mem, decide_eq_false_iff_not] at h2
    exact ⟨e, h1, h2.1, h2.2⟩
  · rw [if_neg e] at h; simp at h
theorem dwnL_len {A : Ab} {x m : llMem} (hp : IPyr A x m) {l : Nat} (hl : l < A.nl) : (dwnL A x l).length ≤ 12 := by
  unfold dwnL
  split
  · have h1 := List.length_filter_le (fun c => !rs x c && !(upL A x l).contains c) (ordL A x l)
    rw [ordL_len] at h1
    have := row_12 hp hl
    rw [List.length_drop]; unfold styL; omega
  · simp
theorem sprL_len {A : Ab} {x m : llMem} (hp : IPyr A x m) {l : Nat} (hl : l < A.nl) : (sprL A x l).length ≤ 12 := by
  unfold sprL
  split
  · have h1 := List.length_filter_le (fun c => !rs x c && !(upL A x l).contains c) (ordL A x l)
    rw [ordL_len] at h1
    have := row_12 hp hl
    rw [List.length_drop, List.length_take]; unfold styL; omega
  · simp
theorem comL_len {A : Ab} {x m : llMem} (hp : IPyr A x m) : (comL A x).length ≤ A.nc := by
  unfold comL
  have := List.length_filter_le (waiB A) (List.range A.nc)
  rw [List.length_range] at this
  rw [List.length_take]; omega
theorem comL_mem {A : Ab} {x : llMem} {c : Nat} (h : c ∈ comL A x) : c < A.nc ∧ A.st c = none ∧ A.gone c = false := by
  unfold comL at h
  obtain ⟨h1, h2⟩ := List.mem_filter.mp (List.mem_of_mem_take h)
  unfold waiB at h2
  simp only [Bool.and_eq_true, Option.isNone_iff_eq_none, Bool.not_eq_true'] at h2
  exact ⟨List.mem_range.mp h1, h2.1, h2.2⟩
theorem wai_iff {A : Ab} {c : Nat} (hn : ∀ l d, A.st c = some (l, d) → l < 4) : lvI A c = -1 ↔ waiB A c = true := by
  unfold lvI waiB
  cases e : A.st c with
  | none => cases A.gone c <;> simp <;> decide
  | some y =>
    obtain ⟨l, d⟩ := y
    have := hn l d e
    simp only [Option.isNone_some, Bool.false_and, Bool.false_eq_true, iff_false]
    intro q
    have : l = 0 ∨ l = 1 ∨ l = 2 ∨ l = 3 := by omega
    rcases this with r | r | r | r <;> (rw [r] at q; exact absurd q (by decide))
theorem rfil_s (P : Nat → Bool) (i : Nat) : (List.range (i + 1)).filter P = (List.range i).filter P ++ (if P i then [i] else []) := by
  rw [List.range_succ, List.filter_append]
  cases q : P i
  · rw [List.filter_cons_of_neg (by rw [q]; decide)]; rfl
  · rw [List.filter_cons_of_pos q]; rfl
theorem rfil_pre (P : Nat → Bool) {i n : Nat} (h : i ≤ n) : ∃ R, (List.range n).filter P = (List.range i).filter P ++ R := by
  obtain ⟨k, rfl⟩ := Nat.exists_eq_add_of_le h
  exact ⟨((List.range k).map (i + ·)).filter P, by rw [List.range_add, List.filter_append]⟩
theorem bringIn_x {A : Ab} {x m u : llMem} {mc : Nat} {ml : Nat → Nat × Nat} (hp : IPyr A x m) (hs : ISea A x m mc ml) (hB : Bas x u) (h0 : 0 < A.nl) (h3 : WL u (4 * (A.nl - 1) + 3) []) :
    ∃ u', fx_X3_bringIn_63 u (nI (A.nl - 1)) = some (u', b01 (decide ((comL A x).length = wanB A x A.nl))) ∧ WL u' (4 * (A.nl - 1) + 3) (comL A x) ∧ AF u u' (4 * (A.nl - 1) + 3) ∧ Sm [66, 67, 68] u u' ∧ ∀ c, u'.1 68 c = if c ∈ comL A x then nI (A.nl - 1) else u.1 68 c := by
  have hn := hp.ncB
  have hn2 := hp.nlB
  unfold fx_X3_bringIn_63
  rw [wantingOf_x hp hs hB (show A.nl - 1 < 4 by omega), Option.bind_some, Nat.sub_add_cancel (show 1 ≤ A.nl by omega)]
  have hW := wanB_le A x A.nl
  have hcl := comL_len (x := x) hp
  generalize hW0 : wanB A x A.nl = W at *
  have hC : comL A x = ((List.range A.nc).filter (waiB A)).take W := by unfold comL; rw [hW0]
  have key := loop_meas (body := fx_X3_bringIn_63_l8 (nI (A.nl - 1)) (nI W)) (fun s => ∃ i, s.2 = nI i ∧ i ≤ A.nc ∧ WL s.1 (4 * (A.nl - 1) + 3) (((List.range i).filter (waiB A)).take W) ∧ AF u s.1 (4 * (A.nl - 1) + 3) ∧ Sm [66, 67, 68] u s.1 ∧ ∀ c, s.1.1 68 c = if c ∈ ((List.range i).filter (waiB A)).take W then nI (A.nl - 1) else u.1 68 c) (fun s => A.nc - s.2.toNatClampNeg) (fun e => WL e (4 * (A.nl - 1) + 3) (comL A x) ∧ AF u e (4 * (A.nl - 1) + 3) ∧ Sm [66, 67, 68] u e ∧ ∀ c, e.1 68 c = if c ∈ comL A x then nI (A.nl - 1) else u.1 68 c) llFuel (u, 0) ⟨0, rfl, by omega, by simpa using h3, AF.refl _ _, Sm.refl _ _, fun c => by rw [if_neg (by simp)]⟩ (by
      rintro ⟨s, v⟩ ⟨i, hv, hin, f1, f2, f3, f4⟩
      dsimp only at hv f1 f2 f3 f4
      subst hv
      have Bs := hB.sm f3 (fun c hc => by simp at hc; omega)
      have pS := Bs.pyr hp
      have hlen : ((List.range i).filter (waiB A)).length ≤ i := by
        have := List.length_filter_le (waiB A) (List.range i)
        rw [List.length_range] at this; exact this
      unfold fx_X3_bringIn_63_l8 fx_X3_bringIn_63_j50_b8
      dsimp only
      rw [pS.x35]
      by_cases e0 : i = A.nc
      · rw [if_pos (le2 (by omega) (by omega) (by omega))]
        rw [e0, ← hC] at f1 f4
        exact Or.inr ⟨_, rfl, f1, f2, f3, f4⟩
      · have hi : i < A.nc := by omega
        rw [if_neg (nle2 (by omega) (by omega) hi), countOf_x (w := 3) (W := 3) f1 (by omega) (by decide) rfl, Option.bind_some, List.length_take]
        by_cases e1 : W ≤ ((List.range i).filter (waiB A)).length
        · rw [if_pos (le2 (by omega) (by omega) (by omega))]
          obtain ⟨R, hR⟩ := rfil_pre (waiB A) (Nat.le_of_lt hi)
          have eq : comL A x = ((List.range i).filter (waiB A)).take W := by
            rw [hC, hR, List.take_append_of_le_length e1]
          rw [← eq] at f1 f4
          exact Or.inr ⟨_, rfl, f1, f2, f3, f4⟩
        · rw [if_neg (nle2 (by omega) (by omega) (by omega)), gI_nI (by omega) (by decide), rI_n (by omega), (pS.cl hi).x12, lt_eq, nI_1]
          rw [List.take_of_length_le (by omega)] at f1 f4
          have hw := wai_iff (A := A) (c := i) (fun l d e => by have := ((hp.cl hi).2.2.2.2.2.2.2.2.2.2.2.2.2 l d e).1; omega)
          have meas : ∀ z : llMem, A.nc - ((z, nI (i + 1)) : llMem × Int32).2.toNatClampNeg < A.nc - ((s, nI i) : llMem × Int32).2.toNatClampNeg := fun z => by
            dsimp only
            rw [nI_clamp (by omega), nI_clamp (by omega)]; omega
          cases q : waiB A i
          · rw [if_pos (fun z => by rw [hw.mp z] at q; cases q)]
            have ft : ((List.range (i + 1)).filter (waiB A)).take W = (List.range i).filter (waiB A) := by
              rw [rfil_s, q, if_neg (by decide), List.append_nil, List.take_of_length_le (by omega)]
            exact Or.inl ⟨_, rfl, ⟨i + 1, rfl, by omega, by rw [ft]; exact f1, f2, f3, fun c => by rw [ft]; exact f4 c⟩, meas s⟩
          · rw [if_neg (fun z => z (hw.mpr q))]
            have ft : ((List.range (i + 1)).filter (waiB A)).take W = (List.range i).filter (waiB A) ++ [i] := by
              rw [rfil_s, q, if_pos rfl, List.take_of_length_le (by rw [List.length_append, List.length_singleton]; omega)]
            obtain ⟨s', k1, k2, k3, k4, k5⟩ := add_x (w := 3) (W := 3) (c := i) f1 (by omega) (by omega) (by decide) (by omega) (nI (A.nl - 1)) rfl
            rw [k1, bd_mk]
            refine Or.inl ⟨_, rfl, ⟨i + 1, rfl, by omega, by rw [ft]; exact k2, f2.trans k3, f3.trans k4, fun c => ?_⟩, meas s'⟩
            rw [ft, k5]
            by_cases ec : c = i
            · rw [ec, upd_same, if_pos (by simp)]
            · rw [upd_ne ec, f4 c]
              by_cases em : c ∈ (List.range i).filter (waiB A)
              · rw [if_pos em, if_pos (List.mem_append_left _ em)]
              · rw [if_neg em, if_neg]
                intro z
                rcases List.mem_append.mp z with z | z
                · exact em z
                · exact ec (List.mem_singleton.mp z)) (by show A.nc - (0 : Int32).toNatClampNeg < llFuel; exact llF (by omega))
  obtain ⟨e, q1, q2, q3, q4, q5⟩ := key
  rw [q1, Option.bind_some, countOf_x (w := 3) (W := 3) q2 (by omega) (by decide) rfl, Option.bind_some]
  exact ⟨e, b01_dec (by omega) (by omega) e, q2, q3, q4, q5⟩
