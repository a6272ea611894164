def SF (k : Nat) (u u' : llMem) : Prop := Sm [52, 57, 58, 59] u u' ∧ (∀ j, j ≠ 10 → u'.1 52 j = u.1 52 j) ∧ ∀ j, j < k → u'.1 57 j = u.1 57 j
theorem SF.refl (k : Nat) (u : llMem) : SF k u u := ⟨Sm.refl _ _, fun _ _ => rfl, fun _ _ => rfl⟩
theorem SF.trans {k : Nat} {u v w : llMem} (h1 : SF k u v) (h2 : SF k v w) : SF k u w := ⟨h1.1.trans h2.1, fun j hj => (h2.2.1 j hj).trans (h1.2.1 j hj), fun j hj => (h2.2.2 j hj).trans (h1.2.2 j hj)⟩
theorem SF.pb {A : Ab} {l k : Nat} {u u' : llMem} (h : SF k u u') (hP : PB A l u) : PB A l u' := ⟨by rw [h.2.1 5 (by decide)]; exact hP.1, by rw [h.2.1 6 (by decide)]; exact hP.2.1, by rw [h.2.1 7 (by decide)]; exact hP.2.2.1, fun i hi => by rw [(h.1 56 (by decide)).1]; exact hP.2.2.2 i hi⟩
theorem leaf_x {A : Ab} {u : llMem} {l : Nat} (h12 : (rowOf A l).length ≤ 12) (hs6 : A.sz l ≤ 6) (hP : PB A l u) (rec : llMem → Int32 → Int32 → Int32 → Int32 → Option (llMem × Unit)) {b : List Nat} {L R : List (List Nat)} (fr : Int32) (hE : combos (A.sz l) (List.range (rowOf A l).length) = L ++ [b] ++ R) (hL : LSt (miR A l) u L) :
    ∃ u', fx_X4_listSets_52_body rec u (nI (A.sz l)) fr (nI (mkN b)) (nI (pairSum (miR A l) b)) = some (u', ()) ∧ LSt (miR A l) u' (L ++ [b]) ∧ SF 12 u u' := by
  have h924 := combos_924 (rowOf A l).length (by omega) (A.sz l) (by omega)
  rw [hE, List.length_append, List.length_append, List.length_singleton] at h924
  have hmem : ∀ c, c ∈ L ++ [b] → c.Sublist (List.range (rowOf A l).length) := fun c hc => (combos_sub (k := A.sz l) (by rw [hE]; exact List.mem_append_left _ hc)).1
  have hbs := hmem b (by simp)
  have hb12 : ∀ z, z ∈ b → z < 12 := fun z hz => by have := List.mem_range.mp (hbs.subset hz); omega
  have hm := mk_lt hb12
  unfold fx_X4_listSets_52_body
  rw [hP.2.1, if_neg (nlt2 (by omega) (by omega) (by omega)), hL.1, if_neg (Lnle 924 (by omega) (by decide) (by omega)), gI_nI (by omega) (by decide), nI_clamp (by omega), lt_eq, lt_eq, gI_nI (by omega) (by decide), nI_clamp (by omega), lt_eq, SI_ne (by decide), hL.1, nI_1]
  refine ⟨_, rfl, ⟨?_, fun j hj => ?_, fun c hc => ?_⟩, ⟨((Sm.SI (by decide)).trans (Sm.SI (by decide))).trans (Sm.SI (by decide)), fun j hj => ?_, fun j hj => ?_⟩⟩
  · rw [SI_ne (by decide), SI_same, upd_same, List.length_append, List.length_singleton]
  · rw [SI_ne (by decide), SI_ne (by decide), SI_same]
    rw [List.length_append, List.length_singleton] at hj
    by_cases e : j = L.length
    · rw [e, upd_same, List.getD_eq_getElem?_getD, List.getElem?_append_right (Nat.le_refl _), Nat.sub_self]; rfl
    · rw [upd_ne e, hL.2.1 j (by omega), List.getD_eq_getElem?_getD, List.getD_eq_getElem?_getD, List.getElem?_append_left (show j < L.length by omega)]
  · rw [SI_same]
    by_cases e : mkN c = mkN b
    · rw [e, upd_same, mk_inj List.nodup_range (hmem c hc) hbs e]
    · rw [upd_ne e, SI_ne (by decide), SI_ne (by decide)]
      rcases List.mem_append.mp hc with q | q
      · exact hL.2.2 c q
      · exact absurd (by rw [List.mem_singleton.mp q]) e
  · rw [SI_ne (by decide), SI_same, upd_ne hj, SI_ne (by decide)]
  · rw [SI_ne (by decide), SI_ne (by decide), SI_ne (by decide)]
theorem map_app {b : List Nat} {i : Nat} (M : List (List Nat)) : (M.map (fun c => i :: c)).map (fun c => b ++ c) = M.map (fun c => (b ++ [i]) ++ c) := by
  rw [List.map_map]
  refine List.map_congr_left (fun c _ => ?_)
  show b ++ (i :: c) = (b ++ [i]) ++ c
  rw [List.append_assoc]; rfl
/-- one place more: what a step of the listing does -/
theorem setStep {A : Ab} {m u : llMem} (hp : IPy0 A u m) {l : Nat} (h12 : (rowOf A l).length ≤ 12) {k i : Nat} {b : List Nat} (hP : PB A l u) (hk : b.length = k) (hk12 : k < 12) (hb : ∀ z, z ∈ b → z < (rowOf A l).length) (hi : i < (rowOf A l).length) (h57 : ∀ j, j < k → u.1 57 j = nI ((rowOf A l).getD (b.getD j 0) 0)) :
    fx_X4_milesTo_52 (llSI u 57 k (nI ((rowOf A l).getD i 0))) (nI k) = some (nI ((b.map (fun z => miR A l z i)).sum)) := by
  have hp' : IPy0 A (llSI u 57 k (nI ((rowOf A l).getD i 0))) m := hp.sm (X := [57]) (Sm.SI (by decide)) (fun c hc => by simp at hc; omega)
  subst hk
  refine milesTo_x hp' hb hk12 hi (fun j hj => ?_) ?_
  · rw [SI_same, upd_ne (by omega)]; exact h57 j hj
  · rw [SI_same, upd_same]
theorem sets_x {A : Ab} {x m : llMem} (hp : IPy0 A x m) {l : Nat} (hl : l < A.nl) (hn : (rowOf A l).length = A.dv l * A.sz l) : ∀ (j fuel k : Nat) (u : llMem) (b : List Nat) (fr : Nat) (L R : List (List Nat)), j < fuel → k + j = A.sz l → 1 ≤ k → b.length = k → (∀ z, z ∈ b → z < (rowOf A l).length) → fr ≤ (rowOf A l).length - A.sz l + k → Bas x u → PB A l u → (∀ i, i < k → u.1 57 i = nI ((rowOf A l).getD (b.getD i 0) 0)) → combos (A.sz l) (List.range (rowOf A l).length) = L ++ (combos j ((List.range (rowOf A l).length).drop fr)).map (fun c => b ++ c) ++ R → LSt (miR A l) u L →
    ∃ u', fx_X4_listSets_52 fuel u (nI k) (nI fr) (nI (mkN b)) (nI (pairSum (miR A l) b)) = some (u', ()) ∧ LSt (miR A l) u' (L ++ (combos j ((List.range (rowOf A l).length).drop fr)).map (fun c => b ++ c)) ∧ SF k u u' := by
  have h12 := row_12 hp.p hl
  have lv := hp.lv hl
  have hsz2 : 2 ≤ A.sz l := lv.2.2.2.2.2.2.2.2.2.2.1
  have hsz6 : A.sz l ≤ 6 := lv.2.2.2.2.2.2.2.2.2.2.2.1
  have hdv : 1 ≤ A.dv l := lv.2.2.2.2.2.2.2.2.1
  have hsn : A.sz l ≤ (rowOf A l).length := by rw [hn]; exact Nat.le_mul_of_pos_left _ hdv
  intro j
  induction j with
  | zero =>
    intro fuel k u b fr L R hf hkj hk1 hbk hb hfr hB hP h57 hE hL
    cases fuel with
    | zero => omega
    | succ fuel =>
      have ek : k = A.sz l := by omega
      subst ek
      rw [combos] at hE ⊢
      rw [List.map_singleton, List.append_nil] at hE ⊢
      obtain ⟨u', a1, a2, a3⟩ := leaf_x h12 hsz6 hP (fx_X4_listSets_52 fuel) (nI fr) hE hL
      exact ⟨u', a1, a2, ⟨a3.1, a3.2.1, fun i hi => a3.2.2 i (by omega)⟩⟩
  | succ j ih =>
    intro fuel k u b fr L R hf hkj hk1 hbk hb hfr hB hP h57 hE hL
    cases fuel with
    | zero => omega
    | succ fuel =>
      show ∃ u', fx_X4_listSets_52_body (fx_X4_listSets_52 fuel) u (nI k) (nI fr) (nI (mkN b)) (nI (pairSum (miR A l) b)) = some (u', ()) ∧ _
      unfold fx_X4_listSets_52_body
      rw [hP.2.1, if_pos (lt2 (by omega) (by omega) (by omega))]
      obtain ⟨e, q1, q2, q3⟩ := loop_inv (body := fx_X4_listSets_52_l50 (fx_X4_listSets_52 fuel) (nI k) (nI (mkN b)) (nI (pairSum (miR A l) b))) (fun t s => s.2 = nI (fr + t) ∧ SF k u s.1 ∧ ∃ C, combos (j + 1) ((List.range (rowOf A l).length).drop fr) = C ++ combos (j + 1) ((List.range (rowOf A l).length).drop (fr + t)) ∧ LSt (miR A l) s.1 (L ++ C.map (fun c => b ++ c))) (fun e => SF k u e ∧ LSt (miR A l) e (L ++ (combos (j + 1) ((List.range (rowOf A l).length).drop fr)).map (fun c => b ++ c))) ((rowOf A l).length - A.sz l + k + 1 - fr) llFuel (u, nI fr) ⟨rfl, SF.refl _ _, [], rfl, by simpa using hL⟩ (by
        rintro t ⟨s, v⟩ ht ⟨hv, f1, C, f2, f3⟩
        dsimp only at hv f1 f3
        subst hv
        have hi : fr + t < (rowOf A l).length := by omega
        have Bs := hB.sm f1.1 (fun c hc => by simp at hc; omega)
        have Ps := f1.pb hP
        have ps := Bs.py0 hp
        have cond : ¬ (nI (rowOf A l).length - nI (A.sz l) + nI k < nI (fr + t)) := by
          rw [pk_sub hsn, nI_add]; exact nlt2 (by omega) (by omega) (by omega)
        unfold fx_X4_listSets_52_l50 fx_X4_listSets_52_j121_b50
        dsimp only
        rw [Ps.1, Ps.2.1, if_neg cond, gI_nI (by omega) (by decide), gI_nI (by omega) (by decide), nI_clamp (by omega), rI_n (by omega), Ps.2.2.2 _ hi, lt_eq, setStep ps h12 Ps hbk (by omega) hb hi (fun z hz => by rw [f1.2.2 z hz]; exact h57 z hz), Option.bind_some, nI_1, nI_1, nI_add, shl1 _ (by omega), nI_or, ← mkN_snoc, ← pairSum_snoc]
        have hd := range_drop hi
        have hc1 : combos (j + 1) ((List.range (rowOf A l).length).drop (fr + t)) = (combos j ((List.range (rowOf A l).length).drop (fr + t + 1))).map (fun c => (fr + t) :: c) ++ combos (j + 1) ((List.range (rowOf A l).length).drop (fr + t + 1)) := by
          rw [hd, combos_cons]
        have SF1 : SF k s (llSI s 57 k (nI ((rowOf A l).getD (fr + t) 0))) := ⟨Sm.SI (by decide), fun z hz => by rw [SI_ne (by decide)], fun z hz => by rw [SI_same, upd_ne (by omega)]⟩
        have LS1 : LSt (miR A l) (llSI s 57 k (nI ((rowOf A l).getD (fr + t) 0))) (L ++ C.map (fun c => b ++ c)) := by
          unfold LSt
          rw [SI_ne (by decide), SI_ne (by decide), SI_ne (by decide)]; exact f3
        obtain ⟨u', a1, a2, a3⟩ := ih fuel (k + 1) (llSI s 57 k (nI ((rowOf A l).getD (fr + t) 0))) (b ++ [fr + t]) (fr + t + 1) (L ++ C.map (fun c => b ++ c)) ((combos (j + 1) ((List.range (rowOf A l).length).drop (fr + t + 1))).map (fun c => b ++ c) ++ R) (by omega) (by omega) (by omega) (by rw [List.length_append, List.length_singleton, hbk]) (fun z hz => by
            rcases List.mem_append.mp hz with q | q
            · exact hb z q
            · rw [List.mem_singleton.mp q]; exact hi) (by omega) (Bs.sm SF1.1 (fun c hc => by simp at hc; omega)) (SF1.pb Ps) (fun z hz => by
            rw [SI_same]
            by_cases e : z = k
            · rw [e, upd_same, ← hbk, getD_last]
            · rw [upd_ne e, f1.2.2 z (by omega), h57 z (by omega), getD_left (by omega)]) (by
            rw [hE, f2, hc1, List.map_append, List.map_append, map_app]
            simp only [List.append_assoc]) LS1
        rw [a1, bd_mk, if_pos (fun z => by have := nI_inj (b := 0) (by omega) (by decide) z; omega), lt_eq]
        refine ⟨_, rfl, rfl, (f1.trans SF1).trans ⟨a3.1, a3.2.1, fun z hz => a3.2.2 z (by omega)⟩, C ++ (combos j ((List.range (rowOf A l).length).drop (fr + t + 1))).map (fun c => (fr + t) :: c), ?_, ?_⟩
        · rw [f2, hc1, List.append_assoc]; rfl
        · dsimp only
          rw [List.map_append, map_app, ← List.append_assoc]; exact a2) (by
        rintro ⟨s, v⟩ ⟨hv, f1, C, f2, f3⟩
        dsimp only at hv f1 f3
        subst hv
        have Ps := f1.pb hP
        have cond : nI (rowOf A l).length - nI (A.sz l) + nI k < nI (fr + ((rowOf A l).length - A.sz l + k + 1 - fr)) := by
          rw [pk_sub hsn, nI_add]; exact lt2 (by omega) (by omega) (by omega)
        unfold fx_X4_listSets_52_l50
        dsimp only
        rw [Ps.1, Ps.2.1, if_pos cond]
        have e0 : combos (j + 1) ((List.range (rowOf A l).length).drop (fr + ((rowOf A l).length - A.sz l + k + 1 - fr))) = [] := combos_none (by rw [List.length_drop, List.length_range]; omega)
        rw [e0, List.append_nil] at f2
        rw [f2]
        exact ⟨_, rfl, f1, f3⟩) (llF (by omega))
      rw [q1, Option.bind_some]
      exact ⟨e, rfl, q3, q2⟩
