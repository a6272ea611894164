/-! the reference parts a level -/
def LF (u u' : llMem) : Prop := Sm [69, 88, 89, 90, 91] u u' ∧ ∀ j, j < 41 ∨ 43 < j → u'.1 69 j = u.1 69 j
theorem LF.refl (u : llMem) : LF u u := ⟨Sm.refl _ _, fun _ _ => rfl⟩
theorem LF.trans {u v w : llMem} (h1 : LF u v) (h2 : LF v w) : LF u w := ⟨h1.1.trans h2.1, fun j hj => (h2.2 j hj).trans (h1.2 j hj)⟩
theorem LF.pyr {A : Ab} {x u u' : llMem} (h : LF u u') (hp : IPyr A x u) : IPyr A x u' := hp.of (fun _ _ => ⟨rfl, rfl⟩) (fun c hc => by
  simp only [List.mem_cons, List.not_mem_nil, or_false] at hc
  have := h.1 c (fun q => by simp only [List.mem_cons, List.not_mem_nil, or_false] at q; omega)
  exact ⟨this.1, this.2.1⟩) (h.2 1 (by omega)) (h.2 9 (by omega))
theorem LF.py0 {A : Ab} {x u u' : llMem} (h : LF u u') (hp : IPy0 A x u) : IPy0 A x u' := hp.ofc (fun _ _ => ⟨rfl, rfl⟩) rfl (h.1 75 (by decide)).2.1 (fun c hc => by
  simp only [List.mem_cons, List.not_mem_nil, or_false] at hc
  have := h.1 c (fun q => by simp only [List.mem_cons, List.not_mem_nil, or_false] at q; omega)
  exact ⟨this.1, this.2.1⟩) (h.2 1 (by omega)) (h.2 9 (by omega))
theorem LF.q {u u' : llMem} (h : LF u u') : QM u u' := by
  refine ⟨fun c hc => ?_, fun k hk => h.2 k (by simp only [List.mem_cons, List.not_mem_nil, or_false] at hk; omega)⟩
  have := h.1 c (fun q => by simp only [List.mem_cons, List.not_mem_nil, or_false] at q; omega)
  exact ⟨this.1, this.2.1⟩
theorem RF.lf {A : Ab} {l : Nat} {u u' : llMem} (h : RF A l u u') : LF u u' := ⟨h.1.mono (by decide), fun j hj => h.2.1 j (by omega)⟩
theorem lf_88 (u : llMem) (i : Nat) (v : Int32) : LF u (llSI u 88 i v) := ⟨Sm.SI (by decide), fun j _ => by rw [SI_ne (by decide)]⟩
theorem lf_89 (u : llMem) (i : Nat) (v : Int32) : LF u (llSI u 89 i v) := ⟨Sm.SI (by decide), fun j _ => by rw [SI_ne (by decide)]⟩
theorem lf_90 (u : llMem) (i : Nat) (v : Int32) : LF u (llSI u 90 i v) := ⟨Sm.SI (by decide), fun j _ => by rw [SI_ne (by decide)]⟩
theorem lf_69 (u : llMem) {i : Nat} (hi : 41 ≤ i ∧ i ≤ 43) (v : Int32) : LF u (llSI u 69 i v) := ⟨Sm.SI (by decide), fun j hj => by rw [SI_same, upd_ne (by omega)]⟩
theorem laysParts_41 {A : Ab} {x m : llMem} (hp : IPy0 A x m) {l : Nat} (hl : l < A.nl) : ∃ m' P, fx_X12_laysParts_69 m (nI l) = some (m', ()) ∧ LF m m' ∧ bestP A l = some P ∧ m'.1 69 43 = nI (costP (miR A l) P) ∧ (∀ a, a < (rowOf A l).length → m'.1 88 a = nI ((rowOf A l).getD a 0)) ∧ (∀ a, a < (rowOf A l).length → m'.1 91 a = nI (ixP P a)) ∧ m'.1 69 41 = nI (rowOf A l).length := by
  have hn := hp.ncB
  have hn2 := hp.nlB
  have h12 := row_12 hp.p hl
  have hlen := row_len hp.p hl
  have lv := hp.lv hl
  have hsz2 : 2 ≤ A.sz l := lv.2.2.2.2.2.2.2.2.2.2.1
  have hsz6 : A.sz l ≤ 6 := lv.2.2.2.2.2.2.2.2.2.2.2.1
  have hdv1 : 1 ≤ A.dv l := lv.2.2.2.2.2.2.2.2.1
  have hdv3 : A.dv l ≤ 3 := lv.2.2.2.2.2.2.2.2.2.1
  unfold fx_X12_laysParts_69
  rw [lt_eq]
  have rw_ : rowTo A l A.nc = rowOf A l := rfl
  -- the row
  obtain ⟨e5, a1, a2, a3, a4⟩ := loop_inv (body := fx_X12_laysParts_69_l7 (nI l)) (fun c s => s.2 = nI c ∧ LF m s.1 ∧ s.1.1 69 41 = nI (rowTo A l c).length ∧ ∀ i, i < (rowTo A l c).length → s.1.1 88 i = nI ((rowTo A l c).getD i 0)) (fun e => LF m e ∧ e.1 69 41 = nI (rowOf A l).length ∧ ∀ i, i < (rowOf A l).length → e.1 88 i = nI ((rowOf A l).getD i 0)) A.nc llFuel (llSI m 69 41 0, 0) ⟨rfl, lf_69 m (by omega) 0, by rw [SI_same, upd_same]; rfl, fun i hi => by simp [rowTo] at hi⟩ (by
    rintro c ⟨s, v⟩ hc ⟨hv, f1, f2, f3⟩
    dsimp only at hv f1 f2 f3
    subst hv
    have ps := f1.py0 hp
    unfold fx_X12_laysParts_69_l7 fx_X12_laysParts_69_j48_b7
    dsimp only
    rw [ps.m9, if_neg (nle2 (by omega) (by omega) hc), gI_nI (by omega) (by decide), rI_n (by omega), ps.m74 hc]
    by_cases e : (A.st c).map Prod.fst = some l
    · have hs1 := rowTo_t e
      have hb := rowTo_len hp.p hl (i := c + 1) (by omega)
      rw [hs1, List.length_append, List.length_singleton] at hb
      rw [if_pos ((lvI_eq hp.p hc (by omega)).mpr e), f2, gI_nI (by omega) (by decide), nI_clamp (by omega)]
      simp only [lt_eq, nI_1, SI_ne (show (69 : Nat) ≠ 88 by decide), f2]
      refine ⟨_, rfl, rfl, (f1.trans (lf_88 _ _ _)).trans (lf_69 _ (by omega) _), ?_, fun i hi => ?_⟩
      · dsimp only
        rw [SI_same, upd_same, hs1, List.length_append, List.length_singleton]
      · rw [hs1] at hi ⊢
        rw [List.length_append, List.length_singleton] at hi
        dsimp only
        rw [SI_ne (by decide), SI_same]
        by_cases ei : i = (rowTo A l c).length
        · rw [ei, upd_same, getD_last]
        · rw [upd_ne ei, getD_left (by omega)]; exact f3 i (by omega)
    · rw [if_neg (fun z => e ((lvI_eq hp.p hc (by omega)).mp z)), lt_eq, nI_1]
      have hs1 := rowTo_f e
      refine ⟨_, rfl, rfl, f1, ?_, ?_⟩
      · rw [hs1]; exact f2
      · rw [hs1]; exact f3) (by
    rintro ⟨s, v⟩ ⟨hv, f1, f2, f3⟩
    dsimp only at hv f1 f2 f3
    subst hv
    have ps := f1.py0 hp
    unfold fx_X12_laysParts_69_l7
    dsimp only
    rw [ps.m9, if_pos (le2 (by omega) (by omega) (Nat.le_refl _))]
    exact ⟨_, rfl, f1, f2, f3⟩) (llF (by omega))
  rw [a1, Option.bind_some]
  have p5 := a2.py0 hp
  rw [show (4 : Int32) * nI l + 1 = nI (4 * l + 1) from ix4 l 1, gI_nI (by omega) (by decide), rI_n (by omega), (p5.lv hl).2.2.2.2.2.1, lt_eq]
  generalize hu6 : llSI e5 69 42 (nI (A.sz l)) = u6
  have F6 : LF m u6 := by rw [← hu6]; exact a2.trans (lf_69 _ (by omega) _)
  have g41 : u6.1 69 41 = nI (rowOf A l).length := by rw [← hu6, SI_same, upd_ne (by decide)]; exact a3
  have g42 : u6.1 69 42 = nI (A.sz l) := by rw [← hu6, SI_same, upd_same]
  have g88 : ∀ i, i < (rowOf A l).length → u6.1 88 i = nI ((rowOf A l).getD i 0) := fun i hi => by rw [← hu6, SI_ne (by decide)]; exact a4 i hi
  have rc : ∀ {a : Nat}, a < (rowOf A l).length → (rowOf A l).getD a 0 < A.nc := fun ha => (row_mem.mp (getD_in ha)).1
  -- the miles
  obtain ⟨e12, b1, b2, b3⟩ := loop_inv (body := fx_X12_laysParts_69_l70) (fun a s => s.2 = nI a ∧ Sm [89] u6 s.1 ∧ ∀ a', a' < a → ∀ b, b < (rowOf A l).length → s.1.1 89 (12 * a' + b) = nI (miR A l a' b)) (fun e => Sm [89] u6 e ∧ ∀ a', a' < (rowOf A l).length → ∀ b, b < (rowOf A l).length → e.1 89 (12 * a' + b) = nI (miR A l a' b)) (rowOf A l).length llFuel (u6, 0) ⟨rfl, Sm.refl _ _, fun a' h => by omega⟩ (by
    rintro a ⟨s, v⟩ ha ⟨hv, f1, f2⟩
    dsimp only at hv f1 f2
    subst hv
    have inn : ∃ e, loop (fx_X12_laysParts_69_l80_b70 (nI a)) llFuel (s, 0) = some e ∧ (Sm [89] u6 e ∧ (∀ a', a' < a → ∀ b, b < (rowOf A l).length → e.1 89 (12 * a' + b) = nI (miR A l a' b)) ∧ ∀ b, b < (rowOf A l).length → e.1 89 (12 * a + b) = nI (miR A l a b)) := by
      refine loop_inv (fun b t => t.2 = nI b ∧ Sm [89] u6 t.1 ∧ (∀ a', a' < a → ∀ b, b < (rowOf A l).length → t.1.1 89 (12 * a' + b) = nI (miR A l a' b)) ∧ ∀ b', b' < b → t.1.1 89 (12 * a + b') = nI (miR A l a b')) _ (rowOf A l).length llFuel (s, 0) ⟨rfl, f1, f2, fun b' h => by omega⟩ ?_ ?_ (llF (by omega))
      · rintro b ⟨t, w⟩ hb ⟨hw, k1, k2, k3⟩
        dsimp only at hw k1 k2 k3
        subst hw
        have pt : IPy0 A x t := (F6.py0 hp).smM k1 (fun c hc => by simp at hc; omega)
        unfold fx_X12_laysParts_69_l80_b70
        dsimp only
        rw [(k1 69 (by decide)).1, g41, if_neg (nle2 (by omega) (by omega) hb), gI_nI (by omega) (by decide), gI_nI (by omega) (by decide), rI_n (by omega), rI_n (by omega), (k1 88 (by decide)).1, g88 a ha, g88 b hb, miles_0 pt (rc ha) (rc hb), Option.bind_some, ix12, gI_nI (by omega) (by decide), nI_clamp (by omega), lt_eq, lt_eq, nI_1]
        refine ⟨_, rfl, rfl, k1.trans (Sm.SI (by decide)), fun a' h1 b' h2 => ?_, fun b' h2 => ?_⟩
        · dsimp only
          rw [SI_same, upd_ne (by omega)]; exact k2 a' h1 b' h2
        · dsimp only
          rw [SI_same]
          by_cases eb : b' = b
          · rw [eb, upd_same]; rfl
          · rw [upd_ne (by omega)]; exact k3 b' (by omega)
      · rintro ⟨t, w⟩ ⟨hw, k1, k2, k3⟩
        dsimp only at hw k1 k2 k3
        subst hw
        unfold fx_X12_laysParts_69_l80_b70
        dsimp only
        rw [(k1 69 (by decide)).1, g41, if_pos (le2 (by omega) (by omega) (Nat.le_refl _))]
        exact ⟨_, rfl, k1, k2, k3⟩
    obtain ⟨e, i1, i2, i3, i4⟩ := inn
    unfold fx_X12_laysParts_69_l70
    dsimp only
    rw [(f1 69 (by decide)).1, g41, if_neg (nle2 (by omega) (by omega) ha), i1, Option.bind_some, lt_eq, nI_1]
    refine ⟨_, rfl, rfl, i2, fun a' h1 b h2 => ?_⟩
    by_cases ea : a' = a
    · rw [ea]; exact i4 b h2
    · exact i3 a' (by omega) b h2) (by
    rintro ⟨s, v⟩ ⟨hv, f1, f2⟩
    dsimp only at hv f1 f2
    subst hv
    unfold fx_X12_laysParts_69_l70
    dsimp only
    rw [(f1 69 (by decide)).1, g41, if_pos (le2 (by omega) (by omega) (Nat.le_refl _))]
    exact ⟨_, rfl, f1, f2⟩) (llF (by omega))
  rw [b1, Option.bind_some]
  -- none yet
  obtain ⟨e15, c1, c2, c3⟩ := loop_inv (body := fx_X12_laysParts_69_l129) (fun i s => s.2 = nI i ∧ Sm [90] e12 s.1 ∧ ∀ j, j < i → s.1.1 90 j = -1) (fun e => Sm [90] e12 e ∧ ∀ j, j < (rowOf A l).length → e.1 90 j = -1) (rowOf A l).length llFuel (e12, 0) ⟨rfl, Sm.refl _ _, fun j h => by omega⟩ (by
    rintro i ⟨s, v⟩ hi ⟨hv, f1, f2⟩
    dsimp only at hv f1 f2
    subst hv
    unfold fx_X12_laysParts_69_l129
    dsimp only
    rw [(f1 69 (by decide)).1, (b2 69 (by decide)).1, g41, if_neg (nle2 (by omega) (by omega) hi), gI_nI (by omega) (by decide), nI_clamp (by omega), lt_eq, lt_eq, nI_1]
    refine ⟨_, rfl, rfl, f1.trans (Sm.SI (by decide)), fun j hj => ?_⟩
    dsimp only
    rw [SI_same]
    by_cases ej : j = i
    · rw [ej, upd_same]
    · rw [upd_ne ej]; exact f2 j (by omega)) (by
    rintro ⟨s, v⟩ ⟨hv, f1, f2⟩
    dsimp only at hv f1 f2
    subst hv
    unfold fx_X12_laysParts_69_l129
    dsimp only
    rw [(f1 69 (by decide)).1, (b2 69 (by decide)).1, g41, if_pos (le2 (by omega) (by omega) (Nat.le_refl _))]
    exact ⟨_, rfl, f1, f2⟩) (llF (by omega))
  rw [c1, Option.bind_some, lt_eq]
  have S15 : LF m (llSI e15 69 43 (-1)) := by
    refine F6.trans (LF.trans ⟨?_, fun j _ => ?_⟩ (lf_69 e15 (by omega) (-1)))
    · exact (b2.mono (by decide)).trans (c2.mono (by decide))
    · rw [(c2 69 (by decide)).1, (b2 69 (by decide)).1]
  have r69 : e15.1 69 = u6.1 69 := by rw [(c2 69 (by decide)).1, (b2 69 (by decide)).1]
  have hFB : FB A l (llSI e15 69 43 (-1)) := by
    refine ⟨?_, ?_, fun a b ha hb => ?_⟩
    · rw [SI_same, upd_ne (by decide), r69]; exact g41
    · rw [SI_same, upd_ne (by decide), r69]; exact g42
    · rw [SI_ne (by decide), (c2 89 (by decide)).1]; exact b3 a ha b hb
  have hAS : AS A l (llSI e15 69 43 (-1)) [] [] (List.range (rowOf A l).length) := by
    refine ⟨fun i hi => ?_, fun i hi => by simp at hi, fun i hi h1 => absurd (List.mem_range.mpr hi) h1, fun c hc => by simp at hc⟩
    rw [SI_ne (by decide)]; exact c3 i (List.mem_range.mp hi)
  have hRS : RS A l (llSI e15 69 43 (-1)) none := by
    show _ = _
    rw [SI_same, upd_same]
  obtain ⟨u17, d1, d2, d3⟩ := fills_ok hp.p hl (rowOf A l).length 40 (by omega) (llSI e15 69 43 (-1)) [] [] (List.range (rowOf A l).length) 0 none List.length_range (by simp) (fun b hb => by simp at hb) (List.nil_sublist _) (by simp; omega) (List.Sublist.refl _) (by simp; exact hlen) hFB hAS hRS (by omega) (fun _ => rfl) (fun z hz => by simp at hz)
  have d1' : fx_X12_fills_69 40 (llSI e15 69 43 (-1)) 0 0 0 0 = some (u17, ()) := d1
  rw [d1', bd_mk]
  have hcm : compl A l [] [] (List.range (rowOf A l).length) 0 = blocks (A.sz l) (A.dv l) (List.range (rowOf A l).length) := by
    unfold compl
    rw [if_pos rfl, List.length_nil, Nat.sub_zero]
    exact List.map_id'' (fun P => rfl) _
  rw [hcm, up1_first] at d2
  have hne := blocks_ne (s := A.sz l) (by omega) (A.dv l) (List.range (rowOf A l).length) List.nodup_range (by rw [List.length_range, hlen])
  obtain ⟨P, hP⟩ := firstMin_some (c := costP (miR A l)) hne
  have hbest : bestP A l = some P := by unfold bestP; rw [← hlen]; exact hP
  rw [hP] at d2
  obtain ⟨y1, y2, y3, y4⟩ := d2
  refine ⟨u17, P, rfl, S15.trans d3.lf, hbest, y1, fun a ha => ?_, y4, by rw [d3.2.1 41 (by decide), SI_same, upd_ne (by decide), r69]; exact g41⟩
  rw [(d3.1 88 (by decide)).1, SI_ne (by decide), (c2 88 (by decide)).1, (b2 88 (by decide)).1]
  exact g88 a ha
theorem laysParts_m {A : Ab} {x m : llMem} (hp : IPy0 A x m) {l : Nat} (hl : l < A.nl) : ∃ m' P, fx_X12_laysParts_69 m (nI l) = some (m', ()) ∧ LF m m' ∧ bestP A l = some P ∧ m'.1 69 43 = nI (costP (miR A l) P) ∧ (∀ a, a < (rowOf A l).length → m'.1 88 a = nI ((rowOf A l).getD a 0)) ∧ ∀ a, a < (rowOf A l).length → m'.1 91 a = nI (ixP P a) := by
  obtain ⟨m', P, h1, h2, h3, h4, h5, h6, h7⟩ := laysParts_41 hp hl
  exact ⟨m', P, h1, h2, h3, h4, h5, h6⟩
