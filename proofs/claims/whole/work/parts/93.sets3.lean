def posN (n s i : Nat) : Nat := (combos s (List.range n)).length - (combos s ((List.range n).drop i)).length
def SG (u u' : llMem) : Prop := Sm [52, 57, 58, 59, 60] u u' ∧ ∀ j, j ≠ 10 → u'.1 52 j = u.1 52 j
theorem SG.refl (u : llMem) : SG u u := ⟨Sm.refl _ _, fun _ _ => rfl⟩
theorem SG.trans {u v w : llMem} (h1 : SG u v) (h2 : SG v w) : SG u w := ⟨h1.1.trans h2.1, fun j hj => (h2.2 j hj).trans (h1.2 j hj)⟩
theorem SG.pb {A : Ab} {l : Nat} {u u' : llMem} (h : SG u u') (hP : PB A l u) : PB A l u' := ⟨by rw [h.2 5 (by decide)]; exact hP.1, by rw [h.2 6 (by decide)]; exact hP.2.1, by rw [h.2 7 (by decide)]; exact hP.2.2.1, fun i hi => by rw [(h.1 56 (by decide)).1]; exact hP.2.2.2 i hi⟩
theorem SF.sg {k : Nat} {u u' : llMem} (h : SF k u u') : SG u u' := ⟨h.1.mono (by decide), h.2.1⟩
theorem listSets_x {A : Ab} {x m u : llMem} (hp : IPy0 A x m) {l : Nat} (hl : l < A.nl) (hn : (rowOf A l).length = A.dv l * A.sz l) (hB : Bas x u) (hP : PB A l u) (h10 : u.1 52 10 = 0) (h60 : u.1 60 0 = 0) :
    ∃ u', fx_X4_listSets_52 40 u 0 0 0 0 = some (u', ()) ∧ LSt (miR A l) u' (combos (A.sz l) (List.range (rowOf A l).length)) ∧ SG u u' ∧ ∀ i, i ≤ (rowOf A l).length - A.sz l + 1 → u'.1 60 i = nI (posN (rowOf A l).length (A.sz l) i) := by
  have h12 := row_12 hp.p hl
  have lv := hp.lv hl
  have hsz2 : 2 ≤ A.sz l := lv.2.2.2.2.2.2.2.2.2.2.1
  have hsz6 : A.sz l ≤ 6 := lv.2.2.2.2.2.2.2.2.2.2.2.1
  have hdv : 1 ≤ A.dv l := lv.2.2.2.2.2.2.2.2.1
  have hsn : A.sz l ≤ (rowOf A l).length := by rw [hn]; exact Nat.le_mul_of_pos_left _ hdv
  show ∃ u', fx_X4_listSets_52_body (fx_X4_listSets_52 39) u 0 0 0 0 = some (u', ()) ∧ _
  unfold fx_X4_listSets_52_body
  rw [hP.2.1, if_pos (show (0 : Int32) < nI (A.sz l) from lt2 (a := 0) (by omega) (by omega) (by omega))]
  obtain ⟨e, q1, q2, q3, q4⟩ := loop_inv (body := fx_X4_listSets_52_l50 (fx_X4_listSets_52 39) 0 0 0) (fun t s => s.2 = nI t ∧ SG u s.1 ∧ (∃ C, combos (A.sz l) (List.range (rowOf A l).length) = C ++ combos (A.sz l) ((List.range (rowOf A l).length).drop t) ∧ LSt (miR A l) s.1 C) ∧ ∀ i, i ≤ t → s.1.1 60 i = nI (posN (rowOf A l).length (A.sz l) i)) (fun e => SG u e ∧ LSt (miR A l) e (combos (A.sz l) (List.range (rowOf A l).length)) ∧ ∀ i, i ≤ (rowOf A l).length - A.sz l + 1 → e.1 60 i = nI (posN (rowOf A l).length (A.sz l) i)) ((rowOf A l).length - A.sz l + 1) llFuel (u, 0) ⟨rfl, SG.refl _, ⟨[], rfl, ⟨h10, fun j hj => by simp at hj, fun b hb => by simp at hb⟩⟩, fun i hi => by
      have : i = 0 := by omega
      subst this
      unfold posN
      rw [List.drop_zero, Nat.sub_self]; exact h60⟩ (by
    rintro t ⟨s, v⟩ ht ⟨hv, f1, ⟨C, f2, f3⟩, f4⟩
    dsimp only at hv f1 f3 f4
    subst hv
    have hi : t < (rowOf A l).length := by omega
    have Bs := hB.sm f1.1 (fun c hc => by simp at hc; omega)
    have Ps := f1.pb hP
    have ps := Bs.py0 hp
    have cond : ¬ (nI (rowOf A l).length - nI (A.sz l) + 0 < nI t) := by
      rw [pk_sub hsn, i32_add_zero]; exact nlt2 (by omega) (by omega) (by omega)
    have ms := setStep (b := []) (k := 0) (i := t) ps h12 Ps rfl (by decide) (fun z hz => by simp at hz) hi (fun j hj => by omega)
    rw [show nI 0 = 0 from rfl, List.map_nil, List.sum_nil, show nI 0 = 0 from rfl] at ms
    unfold fx_X4_listSets_52_l50 fx_X4_listSets_52_j121_b50
    dsimp only
    rw [Ps.1, Ps.2.1, if_neg cond, gI_nI (by omega) (by decide), show (0 : Int32) = nI 0 from rfl, gI_nI (by decide) (by decide), nI_clamp (by decide), rI_n (by omega), Ps.2.2.2 _ hi, lt_eq]
    rw [show nI 0 = (0 : Int32) from rfl, ms, Option.bind_some, nI_1, shl1 _ (by omega), i32_add_zero, show (0 : Int32) ||| nI (2 ^ t) = nI (mkN [t]) from by rw [show (0 : Int32) = nI 0 from rfl, nI_or, Nat.zero_or]; show nI (2 ^ t) = nI (2 ^ t ||| 0); rw [Nat.or_zero], show (0 : Int32) + 1 = nI 1 from rfl]
    have hd := range_drop hi
    have es : A.sz l = (A.sz l - 1) + 1 := by omega
    have hc1 : combos (A.sz l) ((List.range (rowOf A l).length).drop t) = (combos (A.sz l - 1) ((List.range (rowOf A l).length).drop (t + 1))).map (fun c => t :: c) ++ combos (A.sz l) ((List.range (rowOf A l).length).drop (t + 1)) := by
      rw [hd]
      rw [es, Nat.add_sub_cancel, combos_cons]
    have SF1 : SF 0 s (llSI s 57 0 (nI ((rowOf A l).getD t 0))) := ⟨Sm.SI (by decide), fun z hz => by rw [SI_ne (by decide)], fun z hz => by omega⟩
    have LS1 : LSt (miR A l) (llSI s 57 0 (nI ((rowOf A l).getD t 0))) C := by
      unfold LSt
      rw [SI_ne (by decide), SI_ne (by decide), SI_ne (by decide)]; exact f3
    obtain ⟨u', a1, a2, a3⟩ := sets_x hp hl hn (A.sz l - 1) 39 1 (llSI s 57 0 (nI ((rowOf A l).getD t 0))) [t] (t + 1) C (combos (A.sz l) ((List.range (rowOf A l).length).drop (t + 1))) (by omega) (by omega) (by omega) rfl (fun z hz => by rw [List.mem_singleton.mp hz]; exact hi) (by omega) (Bs.sm SF1.1 (fun c hc => by simp at hc; omega)) (SF1.pb Ps) (fun z hz => by
        have : z = 0 := by omega
        subst this
        rw [SI_same, upd_same]; rfl) (by
        rw [f2, hc1, ← List.append_assoc]; rfl) LS1
    rw [show (0 : Int32) = nI (pairSum (miR A l) [t]) from rfl, a1, bd_mk, show nI (pairSum (miR A l) [t]) = (0 : Int32) from rfl, if_neg (fun z => z rfl), gI_nI (by omega) (by decide), nI_clamp (by omega), lt_eq, lt_eq, a2.1]
    have F : SG s (llSI u' 60 (t + 1) (nI (C ++ (combos (A.sz l - 1) ((List.range (rowOf A l).length).drop (t + 1))).map (fun c => [t] ++ c)).length)) := ((SF1.sg).trans a3.sg).trans ⟨Sm.SI (by decide), fun j hj => by rw [SI_ne (by decide)]⟩
    refine ⟨_, rfl, rfl, f1.trans F, ⟨C ++ (combos (A.sz l - 1) ((List.range (rowOf A l).length).drop (t + 1))).map (fun c => [t] ++ c), ?_, ?_⟩, fun i hi2 => ?_⟩
    · rw [f2, hc1, ← List.append_assoc]; rfl
    · unfold LSt
      rw [SI_ne (by decide), SI_ne (by decide), SI_ne (by decide)]; exact a2
    · dsimp only
      rw [SI_same]
      by_cases e : i = t + 1
      · rw [e, upd_same]
        congr 1
        unfold posN
        rw [f2, hc1, List.length_append, List.length_append, List.length_append, List.length_map, List.length_map]; omega
      · rw [upd_ne e, (a3.1 60 (by decide)).1, SI_ne (by decide)]; exact f4 i (by omega)) (by
    rintro ⟨s, v⟩ ⟨hv, f1, ⟨C, f2, f3⟩, f4⟩
    dsimp only at hv f1 f3 f4
    subst hv
    have Ps := f1.pb hP
    have cond : nI (rowOf A l).length - nI (A.sz l) + 0 < nI ((rowOf A l).length - A.sz l + 1) := by
      rw [pk_sub hsn, i32_add_zero]; exact lt2 (by omega) (by omega) (by omega)
    unfold fx_X4_listSets_52_l50
    dsimp only
    rw [Ps.1, Ps.2.1, if_pos cond]
    have e0 : combos (A.sz l) ((List.range (rowOf A l).length).drop ((rowOf A l).length - A.sz l + 1)) = [] := combos_none (by rw [List.length_drop, List.length_range]; omega)
    rw [e0, List.append_nil] at f2
    rw [f2]
    exact ⟨_, rfl, f1, f3, f4⟩) (llF (by omega))
  rw [q1, Option.bind_some]
  exact ⟨e, rfl, q3, q2, q4⟩
