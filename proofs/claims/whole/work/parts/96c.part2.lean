theorem row_inj {A : Ab} {l a b : Nat} (ha : a < (rowOf A l).length) (hb : b < (rowOf A l).length) (h : (rowOf A l).getD a 0 = (rowOf A l).getD b 0) : a = b := by
  rcases Nat.lt_trichotomy a b with q | q | q
  · have := getD_pw (row_pw A l) q hb
    omega
  · exact q
  · have := getD_pw (row_pw A l) q ha
    omega
theorem partAnew_x {A : Ab} {x m : llMem} (hp : IPy0 A x m) (hca : ICa A x) {l : Nat} (hl : l < A.nl) :
    ∃ x', fx_X4_partAnew_52 x (nI l) = some (x', ()) ∧ Sm [52, 53, 54, 55, 56, 57, 58, 59, 60, 61, 62] x x' ∧ ICa A x' ∧ ¬ x'.1 53 l = 0 ∧ ∀ k, ¬ x.1 53 k = 0 → ¬ x'.1 53 k = 0 := by
  have hn := hp.ncB
  have hn2 := hp.nlB
  have h12 := row_12 hp.p hl
  have hlen := row_len hp.p hl
  have lv := hp.lv hl
  have hsz2 : 2 ≤ A.sz l := lv.2.2.2.2.2.2.2.2.2.2.1
  have hsz6 : A.sz l ≤ 6 := lv.2.2.2.2.2.2.2.2.2.2.2.1
  have hdv1 : 1 ≤ A.dv l := lv.2.2.2.2.2.2.2.2.1
  have hdv3 : A.dv l ≤ 3 := lv.2.2.2.2.2.2.2.2.2.1
  unfold fx_X4_partAnew_52
  rw [gI_nI (by omega) (by decide), rI_n (by omega)]
  by_cases e53 : x.1 53 l = 0
  · rw [if_pos e53]
    obtain ⟨u1, a1, a2, a3⟩ := gather_560 hp hl
    rw [a1, bd_mk]
    have B1 : Bas x u1 := (Bas.refl x).sm a2 (fun c hc => by simp at hc; omega)
    have p1 := B1.py0 hp
    have e5 : u1.1 5 l = nI (A.sz l) := (p1.lv hl).2.1
    have e4 : u1.1 4 l = nI (A.dv l) := (p1.lv hl).1
    simp only [lt_eq, gI_nI (show l < 4 by omega) (show 4 < 2 ^ 31 by decide), rI_n (show l < 2 ^ 31 by omega), nI_clamp (show l < 2 ^ 31 by omega), SI_ne (show (5 : Nat) ≠ 52 by decide), SI_ne (show (4 : Nat) ≠ 52 by decide), e5, e4]
    generalize hu6 : llSI (llSI (llSI (llSI u1 52 5 (nI (rowOf A l).length)) 52 6 (nI (A.sz l))) 52 7 (nI (A.dv l))) 52 10 0 = u6
    have s6 : Sm [52] u1 u6 := by
      rw [← hu6]
      exact (((Sm.SI (by decide)).trans (Sm.SI (by decide))).trans (Sm.SI (by decide))).trans (Sm.SI (by decide))
    have B6 : Bas x u6 := B1.sm s6 (fun c hc => by simp at hc; omega)
    have v : ∀ j, u6.1 52 j = upd (upd (upd (upd (u1.1 52) 5 (nI (rowOf A l).length)) 6 (nI (A.sz l))) 7 (nI (A.dv l))) 10 0 j := fun j => by
      rw [← hu6, SI_same, SI_same, SI_same, SI_same]
    have P6 : PB A l u6 := by
      refine ⟨?_, ?_, ?_, fun i hi => ?_⟩
      · rw [v, upd_ne (by decide), upd_ne (by decide), upd_ne (by decide), upd_same]
      · rw [v, upd_ne (by decide), upd_ne (by decide), upd_same]
      · rw [v, upd_ne (by decide), upd_same]
      · rw [(s6 56 (by decide)).1]; exact a3 i hi
    have z10 : u6.1 52 10 = 0 := by rw [v, upd_same]
    have z60 : u6.1 60 0 = 0 := by rw [(s6 60 (by decide)).1, (a2 60 (by decide)).1]; exact hca.1
    obtain ⟨u7, b1, b2, b3, b4⟩ := listSets_x hp hl hlen B6 P6 z10 z60
    rw [b1, bd_mk]
    have P7 := b3.pb P6
    have C8 : CB A l (llSI u7 52 16 2147483647) := by
      obtain ⟨y1, y2, y3, y4⟩ := P7
      obtain ⟨w1, w2, w3⟩ := b2
      refine ⟨⟨?_, ?_, ?_, fun i hi => ?_⟩, ⟨?_, fun j hj => ?_, fun b hb => ?_⟩, fun i hi => ?_⟩
      · rw [SI_same, upd_ne (by decide)]; exact y1
      · rw [SI_same, upd_ne (by decide)]; exact y2
      · rw [SI_same, upd_ne (by decide)]; exact y3
      · rw [SI_ne (by decide)]; exact y4 i hi
      · rw [SI_same, upd_ne (by decide)]; exact w1
      · rw [SI_ne (by decide)]; exact w2 j hj
      · rw [SI_ne (by decide)]; exact w3 b hb
      · rw [SI_ne (by decide)]; exact b4 i hi
    have BS8 : BS A l (llSI u7 52 16 2147483647) none := by
      show _ = _
      rw [SI_same, upd_same]
    rw [C8.1.1, full_m _ (by omega)]
    obtain ⟨u9, c1, c2, c3⟩ := choose_x hp.p hl (A.dv l - 1) 40 0 (llSI u7 52 16 2147483647) [] (List.range (rowOf A l).length) none (by omega) (by omega) rfl (fun b hb => by simp at hb) (List.Sublist.refl _) (by rw [List.length_range, hlen]; congr 1; omega) C8 (fun i hi => by omega) BS8
    rw [show nI 0 = (0 : Int32) from rfl, show nI (costP (miR A l) []) = (0 : Int32) from rfl] at c1
    rw [c1, bd_mk]
    have hbl : (blocks (A.sz l) (A.dv l - 1 + 1) (List.range (rowOf A l).length)).map (fun P => [] ++ P) = blocks (A.sz l) (A.dv l) (List.range (rowOf A l).length) := by
      rw [show A.dv l - 1 + 1 = A.dv l by omega]
      exact List.map_id'' (fun P => rfl) _
    rw [hbl, up1_first] at c2
    have hne := blocks_ne (s := A.sz l) (by omega) (A.dv l) (List.range (rowOf A l).length) List.nodup_range (by rw [List.length_range, hlen])
    obtain ⟨P, hP⟩ := firstMin_some (c := costP (miR A l)) hne
    have hbest : bestP A l = some P := by unfold bestP; rw [← hlen]; exact hP
    rw [hP] at c2
    obtain ⟨d1, d2, d3, d4⟩ := c2
    obtain ⟨_, hcov⟩ := blocks_cover (s := A.sz l) (by omega) (A.dv l) (List.range (rowOf A l).length) P List.nodup_range (by rw [List.length_range, hlen]) (firstMin_mem hP)
    have C9 := c3.cb C8
    -- who plays where
    obtain ⟨e13, f1, f2, f3⟩ := loop_inv (body := fx_X4_partAnew_52_l87 (nI l)) (fun i s => s.2 = nI i ∧ Sm [55] u9 s.1 ∧ ((∀ a, a < i → s.1.1 55 ((rowOf A l).getD a 0) = nI (ixP P a)) ∧ ∀ c, c ∉ rowOf A l → s.1.1 55 c = u9.1 55 c)) (fun e => Sm [55] u9 e ∧ ((∀ a, a < (rowOf A l).length → e.1 55 ((rowOf A l).getD a 0) = nI (ixP P a)) ∧ ∀ c, c ∉ rowOf A l → e.1 55 c = u9.1 55 c)) (rowOf A l).length llFuel (u9, 0) ⟨rfl, Sm.refl _ _, fun a ha => by omega, fun _ _ => rfl⟩ (by
      rintro i ⟨s, z⟩ hi ⟨hz, g1, g2, g3⟩
      dsimp only at hz g1 g2 g3
      subst hz
      have hc := (row_mem.mp (getD_in hi)).1
      have Ps : PB A l s := by
        obtain ⟨y1, y2, y3, y4⟩ := C9.1
        unfold PB
        rw [(g1 52 (by decide)).1, (g1 56 (by decide)).1]
        exact ⟨y1, y2, y3, y4⟩
      unfold fx_X4_partAnew_52_l87
      dsimp only
      rw [Ps.1, if_neg (nle2 (by omega) (by omega) hi), gI_nI (by omega) (by decide), bestDiv_x h12 hdv3 Ps d2 d3 (fun j hj => by rw [(g1 62 (by decide)).1]; exact d4 j hj) (by omega) (hcov i (List.mem_range.mpr hi)), Option.bind_some, rI_n (by omega), Ps.2.2.2 i hi, gI_nI (by omega) (by decide), nI_clamp (by omega), lt_eq, lt_eq, nI_1]
      refine ⟨_, rfl, rfl, g1.trans (Sm.SI (by decide)), fun a ha => ?_, fun c hcn => ?_⟩
      · dsimp only
        rw [SI_same]
        by_cases ea : a = i
        · rw [ea, upd_same]
        · rw [upd_ne (fun q => ea (row_inj (by omega) hi q))]; exact g2 a (by omega)
      · dsimp only
        rw [SI_same, upd_ne (fun q => hcn (by rw [q]; exact getD_in hi))]; exact g3 c hcn) (by
      rintro ⟨s, z⟩ ⟨hz, g1, g2⟩
      dsimp only at hz g1 g2
      subst hz
      unfold fx_X4_partAnew_52_l87
      dsimp only
      rw [(g1 52 (by decide)).1, C9.1.1, if_pos (le2 (by omega) (by omega) (Nat.le_refl _))]
      exact ⟨_, rfl, g1, g2⟩) (llF (by omega))
    rw [f1, Option.bind_some]
    have S : Sm [52, 53, 54, 55, 56, 57, 58, 59, 60, 61, 62] x (llSI (llSI e13 54 l (e13.1 52 16)) 53 l 1) := (((((((a2.mono (by decide)).trans (s6.mono (by decide))).trans (b3.1.mono (by decide))).trans (Sm.SI (by decide))).trans (c3.1.mono (by decide))).trans (f2.mono (by decide))).trans (Sm.SI (by decide))).trans (Sm.SI (by decide))
    have k53 : e13.1 53 = x.1 53 := by
      rw [(f2 53 (by decide)).1, (c3.1 53 (by decide)).1, SI_ne (by decide), (b3.1 53 (by decide)).1, (s6 53 (by decide)).1, (a2 53 (by decide)).1]
    have k54 : e13.1 54 = x.1 54 := by
      rw [(f2 54 (by decide)).1, (c3.1 54 (by decide)).1, SI_ne (by decide), (b3.1 54 (by decide)).1, (s6 54 (by decide)).1, (a2 54 (by decide)).1]
    have k55 : u9.1 55 = x.1 55 := by
      rw [(c3.1 55 (by decide)).1, SI_ne (by decide), (b3.1 55 (by decide)).1, (s6 55 (by decide)).1, (a2 55 (by decide)).1]
    have kc : e13.1 52 16 = nI (costP (miR A l) P) := by rw [(f2 52 (by decide)).1]; exact d1
    have k60 : e13.1 60 0 = 0 := by
      rw [(f2 60 (by decide)).1, C9.2.2 0 (by omega)]
      unfold posN
      rw [List.drop_zero, Nat.sub_self]; rfl
    refine ⟨_, rfl, S, ⟨?_, fun l' hl' => ?_⟩, ?_, fun k hk => ?_⟩
    · rw [SI_ne (by decide), SI_ne (by decide)]; exact k60
    · rw [SI_same, SI_ne (show (54 : Nat) ≠ 53 by decide), SI_ne (show (55 : Nat) ≠ 53 by decide), SI_same, SI_ne (show (55 : Nat) ≠ 54 by decide), SI_ne (show (53 : Nat) ≠ 54 by decide), k53, k54]
      by_cases el : l' = l
      · subst el
        refine Or.inr ⟨P, hbest, by rw [upd_same, kc], fun a ha => f3.1 a (by omega)⟩
      · rw [upd_ne el, upd_ne el]
        rcases hca.2 l' hl' with q | ⟨P', q1, q2, q3⟩
        · exact Or.inl q
        · refine Or.inr ⟨P', q1, q2, fun a ha => ?_⟩
          rw [f3.2, k55]
          · exact q3 a ha
          · intro z
            have ha' : a < (rowOf A l').length := by rw [row_len hp.p hl']; exact ha
            have z1 := (row_mem.mp z).2
            have z2 := (row_mem.mp (getD_in ha')).2
            rw [z1] at z2
            injection z2 with z2
            exact el z2.symm
    · rw [SI_same, upd_same]; decide
    · rw [SI_same]
      by_cases ek : k = l
      · rw [ek, upd_same]; decide
      · rw [upd_ne ek, SI_ne (by decide), k53]; exact hk
  · rw [if_neg e53]
    exact ⟨x, rfl, Sm.refl _ _, hca, e53, fun _ h => h⟩
/-- what is known of a level -/
theorem ICa.at {A : Ab} {x : llMem} (h : ICa A x) {l : Nat} (hl : l < A.nl) (h53 : ¬ x.1 53 l = 0) : ∃ P, bestP A l = some P ∧ x.1 54 l = nI (costP (miR A l) P) ∧ ∀ a, a < A.dv l * A.sz l → x.1 55 ((rowOf A l).getD a 0) = nI (ixP P a) := by
  rcases h.2 l hl with q | q
  · exact absurd q h53
  · exact q
