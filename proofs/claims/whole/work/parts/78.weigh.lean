/-! the class weighs the end of a season -/
theorem may_rs {A : Ab} {x : llMem} {c : Nat} (h : mayB A x c = true) : rs x c = false := by
  unfold mayB at h
  cases e : A.st c with
  | none => rw [e] at h; cases h
  | some y =>
    obtain ⟨l, d⟩ := y
    rw [e] at h
    have := (of_decide_eq_true h).2.1
    exact decide_eq_false (by rw [this]; decide)
theorem f1_eq (A : Ab) (x : llMem) (L : List Nat) : L.filter (fun c => !rs x c && (mayB A x c == true)) = L.filter (mayB A x) := by
  refine List.filter_congr (fun c _ => ?_)
  cases e : mayB A x c
  · simp
  · rw [may_rs e]; rfl
theorem f2_eq (A : Ab) (x : llMem) (L : List Nat) : L.filter (fun c => !rs x c && (mayB A x c == false)) = L.filter (fun c => !rs x c && !mayB A x c) := by
  refine List.filter_congr (fun c _ => ?_)
  cases mayB A x c <;> rfl
theorem upQ_len {A : Ab} {x m : llMem} (hp : IPyr A x m) {l : Nat} (hl : l < A.nl) : ((ordL A x l).filter (mayB A x)).length + ((ordL A x l).filter (fun c => !rs x c && !mayB A x c)).length ≤ 12 := by
  have h1 := filt_add (P := mayB A x) (Q := fun c => !rs x c && !mayB A x c) (R := fun c => !rs x c) (ordL A x l) (fun c _ => by
    cases e : mayB A x c
    · cases rs x c <;> exact ⟨rfl, rfl⟩
    · rw [may_rs e]; exact ⟨rfl, rfl⟩)
  have h2 := List.length_filter_le (fun c => !rs x c) (ordL A x l)
  rw [ordL_len] at h2
  have := row_12 hp hl
  omega
theorem upL_len {A : Ab} {x m : llMem} (hp : IPyr A x m) {l : Nat} (hl : l < A.nl) : (upL A x l).length ≤ 12 := by
  unfold upL
  by_cases e : l = 0
  · rw [if_pos e]; simp
  · rw [if_neg e, List.length_take]
    unfold upQ
    rw [List.length_append]
    have := upQ_len (x := x) hp hl
    omega
theorem WL.zero {u : llMem} {j : Nat} (h : u.1 66 j = 0) : WL u j [] := ⟨h, fun i hi => by simp at hi⟩
theorem b01_dec {a b : Nat} (ha : a < 2 ^ 31) (hb : b < 2 ^ 31) {α : Type} (u : α) : (if ¬ nI a = nI b then gB 0 (some (u, (0 : Int32))) else gB 1 (some (u, 1))) = some (u, b01 (decide (a = b))) := by
  by_cases e : a = b
  · rw [if_neg (fun z => z (by rw [e])), decide_eq_true e, gB_1]; rfl
  · rw [if_pos (fun z => e (nI_inj ha hb z)), decide_eq_false e, gB_0]; rfl
theorem sendUp_x {A : Ab} {x m u : llMem} {mc : Nat} {ml : Nat → Nat × Nat} (hp : IPyr A x m) (hs : ISea A x m mc ml) (hB : Bas x u) {l : Nat} (hl : l < A.nl) (hT : Tab A x u l) (h64 : 0 < l → u.1 64 (l - 1) = nI (riN A x (l - 1))) (h0 : WL u (4 * l) []) :
    ∃ u', fx_X3_sendUp_63 u (nI l) = some (u', b01 (decide (l = 0) || decide ((upL A x l).length = riN A x (l - 1)))) ∧ WL u' (4 * l) (upL A x l) ∧ AF u u' (4 * l) ∧ Sm [66, 67, 68] u u' ∧ ∀ c, u'.1 68 c = if c ∈ upL A x l then nI (l - 1) else u.1 68 c := by
  have hn2 := hp.nlB
  unfold fx_X3_sendUp_63
  by_cases e0 : l = 0
  · subst e0
    rw [if_neg (by decide), gB_1]
    exact ⟨u, rfl, h0, AF.refl _ _, Sm.refl _ _, fun c => by unfold upL; rw [if_pos rfl, if_neg (by simp)]⟩
  · have hl1 : 1 ≤ l := by omega
    have hW := (riN_le (x := x) hp (show l - 1 < A.nl by omega)).2
    have hq := upQ_len (x := x) hp hl
    have hul := upL_len (x := x) hp hl
    rw [if_pos (Lle 1 (by omega) (by decide) hl1), decide_eq_false e0, Bool.false_or]
    obtain ⟨u1, a1, a2, a3, a4, a5⟩ := sendUpThose_x hp hs hB hl hl1 hT (h64 (by omega)) hW h0 (by simp) true (by rw [f1_eq]; simp; omega)
    rw [f1_eq, List.nil_append] at a2 a5
    have hl2 : (((ordL A x l).filter (mayB A x)).take (riN A x (l - 1))).length ≤ ((ordL A x l).filter (mayB A x)).length := by rw [List.length_take]; omega
    obtain ⟨u2, b1, b2, b3, b4, b5⟩ := sendUpThose_x hp hs (hB.sm a4 (fun c hc => by simp at hc; omega)) hl hl1 (hT.sm a4 (by decide)) (by rw [(a4 64 (by decide)).1]; exact h64 (by omega)) hW a2 (by rw [List.length_take]; omega) false (by rw [f2_eq]; omega)
    rw [f2_eq, take_take_app] at b2 b5
    have eU : upL A x l = ((ordL A x l).filter (mayB A x) ++ (ordL A x l).filter (fun c => !rs x c && !mayB A x c)).take (riN A x (l - 1)) := by
      unfold upL; rw [if_neg e0]; rfl
    rw [← eU] at b2 b5
    rw [show (1 : Int32) = b01 true from rfl, show (0 : Int32) = b01 false from rfl] at *
    rw [a1, bd_mk, b1, bd_mk]
    have cnt : fx_X3_countOf_63 u2 (nI l) (b01 false) = some (nI (upL A x l).length) := countOf_x (w := 0) (W := b01 false) b2 (by omega) (by decide) rfl
    rw [cnt, Option.bind_some]
    have m1 : nI l - b01 true = nI (l - 1) := pk_m1' hl1
    rw [m1, gI_nI (by omega) (by decide), rI_n (by omega), (b4 64 (by decide)).1, (a4 64 (by decide)).1, h64 (by omega)]
    refine ⟨u2, ?_, b2, a3.trans b3, a4.trans b4, fun c => ?_⟩
    · exact b01_dec (a := (upL A x l).length) (b := riN A x (l - 1)) (by omega) (by omega) u2
    · rw [b5 c, a5 c]
      have tk : (upL A x l).take (((ordL A x l).filter (mayB A x)).take (riN A x (l - 1))).length = ((ordL A x l).filter (mayB A x)).take (riN A x (l - 1)) := by
        rw [eU, List.take_take, List.length_take, Nat.min_eq_left (by omega), List.take_append_of_le_length (by omega)]
        by_cases z : riN A x (l - 1) ≤ ((ordL A x l).filter (mayB A x)).length
        · rw [Nat.min_eq_left z]
        · rw [Nat.min_eq_right (by omega), List.take_of_length_le (Nat.le_refl _), List.take_of_length_le (by omega)]
      by_cases c1 : c ∈ (upL A x l).drop (((ordL A x l).filter (mayB A x)).take (riN A x (l - 1))).length
      · rw [if_pos c1, if_pos (List.mem_of_mem_drop c1)]
      · rw [if_neg c1, List.length_nil, List.drop_zero]
        by_cases c2 : c ∈ ((ordL A x l).filter (mayB A x)).take (riN A x (l - 1))
        · rw [if_pos c2, if_pos]
          rw [← tk] at c2
          exact List.mem_of_mem_take c2
        · rw [if_neg c2, if_neg]
          intro z
          rw [← List.take_append_drop (((ordL A x l).filter (mayB A x)).take (riN A x (l - 1))).length (upL A x l)] at z
          rcases List.mem_append.mp z with z | z
          · rw [tk] at z; exact c2 z
          · exact c1 z
/-- the sending down -/
theorem sendDown_x {A : Ab} {x m u : llMem} {mc : Nat} {ml : Nat → Nat × Nat} (hp : IPyr A x m) (hs : ISea A x m mc ml) (hB : Bas x u) {l : Nat} (hl : l < A.nl) (hT : Tab A x u l) (h65 : l + 1 < A.nl → u.1 65 l = nI (falN A x l)) (h1 : WL u (4 * l + 1) []) (h2 : WL u (4 * l + 2) []) (hg : ∀ c, c ∈ ordL A x l → ((!rs x c && !(upL A x l).contains c) = true ↔ u.1 68 c = nI l)) :
    ∃ u', fx_X3_sendDown_63 u (nI l) = some (u', b01 (decide (l + 1 = A.nl) || decide (falN A x l ≤ (styL A x l).length))) ∧ WL u' (4 * l + 1) (dwnL A x l) ∧ WL u' (4 * l + 2) (sprL A x l) ∧ (∀ k, k ≠ 4 * l + 1 → k ≠ 4 * l + 2 → u'.1 66 k = u.1 66 k) ∧ (∀ k, k / 30 ≠ 4 * l + 1 → k / 30 ≠ 4 * l + 2 → u'.1 67 k = u.1 67 k) ∧ Sm [66, 67, 68] u u' ∧ ∀ c, u'.1 68 c = if c ∈ dwnL A x l then nI (l + 1) else u.1 68 c := by
  have hn := hp.ncB
  have hn2 := hp.nlB
  have h12 := row_12 hp hl
  have hol := ordL_len A x l
  have hpu := hB.pyr hp
  unfold fx_X3_sendDown_63
  rw [hpu.x30]
  by_cases e0 : l + 1 = A.nl
  · have dl : dwnL A x l = [] := by unfold dwnL; rw [if_neg (by omega)]
    have sl : sprL A x l = [] := by unfold sprL; rw [if_neg (by omega)]
    rw [pk_m1' (by omega), if_neg (nlt2 (by omega) (by omega) (by omega)), gB_1, decide_eq_true e0, Bool.true_or, dl, sl]
    exact ⟨u, rfl, h1, h2, fun _ _ _ => rfl, fun _ _ _ => rfl, Sm.refl _ _, fun c => by rw [if_neg (by simp)]⟩
  · have e1 : l + 1 < A.nl := by omega
    have hst : (styL A x l).length ≤ 12 := by
      have := List.length_filter_le (fun c => !rs x c && !(upL A x l).contains c) (ordL A x l)
      unfold styL; omega
    have hf : falN A x l ≤ 30 := by
      have := (riN_le (x := x) hp hl).2
      unfold falN; omega
    have hd6 := (hp.lv hl).2.2.2.2.2.2.2.2.2.2.2.2.2.1
    rw [pk_m1' (by omega), if_pos (lt2 (by omega) (by omega) (by omega)), decide_eq_false e0, Bool.false_or]
    -- how many stay
    have st1 : loop (fx_X3_sendDown_63_l19 u (nI l)) llFuel (0, 0) = some (nI (styL A x l).length) := by
      have e0' : (ordL A x l).take (rowOf A l).length = ordL A x l := by rw [← hol, List.take_length]
      refine loop_run0 (fun i => (nI (((ordL A x l).take i).filter (fun c => !rs x c && !(upL A x l).contains c)).length, nI i)) _ (rowOf A l).length llFuel rfl ?_ ?_ (llF (by omega))
      · intro i hi
        have hi' : i < (ordL A x l).length := by omega
        have hm := getD_in hi'
        have c1 := (ordL_mem.mp hm).1
        unfold fx_X3_sendDown_63_l19 fx_X3_sendDown_63_j51_b19
        dsimp only
        rw [hT.1, if_neg (nle2 (by omega) (by omega) hi)]
        simp only [gI_nI (show i < 12 by omega) (show 12 < 2 ^ 31 by decide), rI_n (show i < 2 ^ 31 by omega), hT.2 i hi, gI_nI (show (ordL A x l).getD i 0 < 30 by omega) (show 30 < 2 ^ 31 by decide), rI_n (show (ordL A x l).getD i 0 < 2 ^ 31 by omega), lt_eq, nI_1]
        cases q : (!rs x ((ordL A x l).getD i 0) && !(upL A x l).contains ((ordL A x l).getD i 0))
        · rw [if_pos (fun z => by have := (hg _ hm).mpr z; rw [q] at this; cases this), filtL_f hi' q]
        · rw [if_neg (fun z => z ((hg _ hm).mp q)), filtL_t hi' q]
      · unfold fx_X3_sendDown_63_l19
        dsimp only
        rw [hT.1, if_pos (le2 (by omega) (by omega) (Nat.le_refl _)), e0']; rfl
    rw [st1, Option.bind_some]
    have tk : ∀ i, ((ordL A x l).take i).filter (fun c => !rs x c && !(upL A x l).contains c) = (styL A x l).take (((ordL A x l).take i).filter (fun c => !rs x c && !(upL A x l).contains c)).length := fun i => by
      have : styL A x l = ((ordL A x l).take i).filter (fun c => !rs x c && !(upL A x l).contains c) ++ ((ordL A x l).drop i).filter (fun c => !rs x c && !(upL A x l).contains c) := by
        unfold styL; rw [← List.filter_append, List.take_append_drop]
      rw [this, List.take_append_of_le_length (Nat.le_refl _), List.take_of_length_le (Nat.le_refl _)]
    generalize hN : (styL A x l).length = N at *
    generalize hF : falN A x l = F at *
    have key := loop_inv (body := fx_X3_sendDown_63_l62 (nI l) (nI N)) (fun i s => s.2 = (nI (((ordL A x l).take i).filter (fun c => !rs x c && !(upL A x l).contains c)).length, nI i) ∧ WL s.1 (4 * l + 1) ((((ordL A x l).take i).filter (fun c => !rs x c && !(upL A x l).contains c)).drop (N - F)) ∧ WL s.1 (4 * l + 2) (((((ordL A x l).take i).filter (fun c => !rs x c && !(upL A x l).contains c)).take (N - F)).drop (N - A.dn l)) ∧ (∀ k, k ≠ 4 * l + 1 → k ≠ 4 * l + 2 → s.1.1 66 k = u.1 66 k) ∧ (∀ k, k / 30 ≠ 4 * l + 1 → k / 30 ≠ 4 * l + 2 → s.1.1 67 k = u.1 67 k) ∧ Sm [66, 67, 68] u s.1 ∧ ∀ c, s.1.1 68 c = if c ∈ (((ordL A x l).take i).filter (fun c => !rs x c && !(upL A x l).contains c)).drop (N - F) then nI (l + 1) else u.1 68 c) (fun e => WL e (4 * l + 1) ((styL A x l).drop (N - F)) ∧ WL e (4 * l + 2) (((styL A x l).take (N - F)).drop (N - A.dn l)) ∧ (∀ k, k ≠ 4 * l + 1 → k ≠ 4 * l + 2 → e.1 66 k = u.1 66 k) ∧ (∀ k, k / 30 ≠ 4 * l + 1 → k / 30 ≠ 4 * l + 2 → e.1 67 k = u.1 67 k) ∧ Sm [66, 67, 68] u e ∧ ∀ c, e.1 68 c = if c ∈ (styL A x l).drop (N - F) then nI (l + 1) else u.1 68 c) (rowOf A l).length llFuel (u, 0, 0) ⟨rfl, by simpa using h1, by simpa using h2, fun _ _ _ => rfl, fun _ _ _ => rfl, Sm.refl _ _, fun c => by rw [if_neg (by simp)]⟩ (by
        rintro i ⟨s, v⟩ hi ⟨hv, f1, f2, f3, f4, f5, f6⟩
        dsimp only at hv f1 f2 f3 f4 f5 f6
        subst hv
        have Ts := hT.sm f5 (by decide)
        have Bs := hB.sm f5 (fun c hc => by simp at hc; omega)
        have hi' : i < (ordL A x l).length := by omega
        have hm := getD_in hi'
        have c1 := (ordL_mem.mp hm).1
        have kN : (((ordL A x l).take i).filter (fun c => !rs x c && !(upL A x l).contains c)).length ≤ N := by
          rw [tk i, List.length_take, hN]; omega
        have s65 : s.1 65 l = nI F := by rw [(f5 65 (by decide)).1]; exact h65 e1
        have s6 : s.1 6 l = nI (A.dn l) := by rw [(Bs 6 (by decide)).1]; exact (hp.lv hl).2.2.1
        -- it isn't among those sent down yet
        have nin : (ordL A x l).getD i 0 ∉ ((ordL A x l).take i).filter (fun c => !rs x c && !(upL A x l).contains c) := by
          intro z
          have z2 := (List.mem_filter.mp z).1
          obtain ⟨j, hj, ej⟩ := getD_el z2
          rw [List.length_take] at hj
          have nd := getD_pw (ordL_nodup A x l) (show j < i by omega) hi'
          have : ((ordL A x l).take i).getD j 0 = (ordL A x l).getD j 0 := by
            rw [List.getD_eq_getElem?_getD, List.getElem?_take, if_pos (by omega), ← List.getD_eq_getElem?_getD]
          rw [this] at ej
          exact nd ej
        have g0 : s.1 68 ((ordL A x l).getD i 0) = u.1 68 ((ordL A x l).getD i 0) := by
          rw [f6, if_neg (fun z => nin (List.mem_of_mem_drop z))]
        unfold fx_X3_sendDown_63_l62 fx_X3_sendDown_63_j147_b62 fx_X3_sendDown_63_j150_b62
        dsimp only
        rw [Ts.1, if_neg (nle2 (by omega) (by omega) hi)]
        simp only [gI_nI (show i < 12 by omega) (show 12 < 2 ^ 31 by decide), rI_n (show i < 2 ^ 31 by omega), Ts.2 i hi, gI_nI (show (ordL A x l).getD i 0 < 30 by omega) (show 30 < 2 ^ 31 by decide), rI_n (show (ordL A x l).getD i 0 < 2 ^ 31 by omega), gI_nI (show l < 4 by omega) (show 4 < 2 ^ 31 by decide), rI_n (show l < 2 ^ 31 by omega), s65, s6, lt_eq, nI_1, g0]
        cases q : (!rs x ((ordL A x l).getD i 0) && !(upL A x l).contains ((ordL A x l).getD i 0))
        · have ft : ((ordL A x l).take (i + 1)).filter (fun c => !rs x c && !(upL A x l).contains c) = ((ordL A x l).take i).filter (fun c => !rs x c && !(upL A x l).contains c) := by
            rw [take_s hi', List.filter_append, List.filter_cons_of_neg (by rw [q]; decide), List.filter_nil, List.append_nil]
          rw [if_pos (fun z => by have := (hg _ hm).mpr z; rw [q] at this; cases this)]
          refine ⟨_, rfl, by rw [ft], ?_, ?_, f3, f4, f5, ?_⟩
          · rw [ft]; exact f1
          · rw [ft]; exact f2
          · rw [ft]; exact f6
        · have ft : ((ordL A x l).take (i + 1)).filter (fun c => !rs x c && !(upL A x l).contains c) = ((ordL A x l).take i).filter (fun c => !rs x c && !(upL A x l).contains c) ++ [(ordL A x l).getD i 0] := by
            rw [take_s hi', List.filter_append, List.filter_cons_of_pos (p := fun c => !rs x c && !(upL A x l).contains c) (by exact q), List.filter_nil]
          have kN1 : (((ordL A x l).take i).filter (fun c => !rs x c && !(upL A x l).contains c)).length + 1 ≤ N := by
            have := tk (i + 1)
            rw [ft] at this
            have := congrArg List.length this
            rw [List.length_take, List.length_append, List.length_singleton, hN] at this
            omega
          rw [if_neg (fun z => z ((hg _ hm).mp q))]
          rw [ft]
          generalize ((ordL A x l).take i).filter (fun c => !rs x c && !(upL A x l).contains c) = R at *
          have cmp : ∀ z : Nat, z ≤ 30 → ((nI R.length < nI N - nI z) ↔ R.length < N - z) := fun z hz => by
            rw [Int32.lt_iff_toInt_lt, nI_toInt (by omega), pk_sub_toInt (by omega) (by omega)]; omega
          by_cases w1 : R.length < N - F
          · rw [if_pos ((cmp F (by omega)).mpr w1)]
            have dd : (R ++ [(ordL A x l).getD i 0]).drop (N - F) = R.drop (N - F) := by
              rw [List.drop_eq_nil_of_le (by rw [List.length_append, List.length_singleton]; omega), List.drop_eq_nil_of_le (by omega)]
            by_cases w2 : R.length < N - A.dn l
            · rw [if_pos ((cmp (A.dn l) (by omega)).mpr w2)]
              have sd : ((R ++ [(ordL A x l).getD i 0]).take (N - F)).drop (N - A.dn l) = (R.take (N - F)).drop (N - A.dn l) := by
                rw [List.drop_eq_nil_of_le (by rw [List.length_take, List.length_append, List.length_singleton]; omega), List.drop_eq_nil_of_le (by rw [List.length_take]; omega)]
              refine ⟨_, rfl, by rw [List.length_append, List.length_singleton], ?_, ?_, f3, f4, f5, ?_⟩
              · rw [dd]; exact f1
              · rw [sd]; exact f2
              · rw [dd]; exact f6
            · rw [if_neg (fun z => w2 ((cmp (A.dn l) (by omega)).mp z))]
              have sd : ((R ++ [(ordL A x l).getD i 0]).take (N - F)).drop (N - A.dn l) = (R.take (N - F)).drop (N - A.dn l) ++ [(ordL A x l).getD i 0] := by
                rw [List.take_of_length_le (by rw [List.length_append, List.length_singleton]; omega), List.take_of_length_le (by omega), List.drop_append_of_le_length (by omega)]
              obtain ⟨s', k1, k2, k3, k4, k5⟩ := add_x (w := 2) (W := 2) (c := (ordL A x l).getD i 0) f2 (by rw [List.length_drop, List.length_take]; omega) (by omega) (by decide) (by omega) (nI l) rfl
              rw [k1, bd_mk]
              refine ⟨_, rfl, by rw [List.length_append, List.length_singleton], ?_, ?_, fun k g1 g2 => by rw [k3.1 k g2]; exact f3 k g1 g2, fun k g1 g2 => by rw [k3.2 k g2]; exact f4 k g1 g2, f5.trans k4, fun c => ?_⟩
              · rw [dd]; exact k3.wl (by omega) (by rw [List.length_drop]; omega) f1
              · rw [sd]; exact k2
              · rw [dd, k5]
                by_cases ec : c = (ordL A x l).getD i 0
                · rw [ec, upd_same, if_neg (fun z => nin (List.mem_of_mem_drop z))]
                  exact ((hg _ hm).mp q).symm
                · rw [upd_ne ec]; exact f6 c
          · rw [if_neg (fun z => w1 ((cmp F (by omega)).mp z))]
            have dd : (R ++ [(ordL A x l).getD i 0]).drop (N - F) = R.drop (N - F) ++ [(ordL A x l).getD i 0] := List.drop_append_of_le_length (by omega)
            have sd : ((R ++ [(ordL A x l).getD i 0]).take (N - F)).drop (N - A.dn l) = (R.take (N - F)).drop (N - A.dn l) := by
              rw [List.take_append_of_le_length (by omega)]
            obtain ⟨s', k1, k2, k3, k4, k5⟩ := add_x (w := 1) (W := 1) (c := (ordL A x l).getD i 0) f1 (by rw [List.length_drop]; omega) (by omega) (by decide) (by omega) (nI (l + 1)) rfl
            rw [k1, bd_mk]
            refine ⟨_, rfl, by rw [List.length_append, List.length_singleton], ?_, ?_, fun k g1 g2 => by rw [k3.1 k g1]; exact f3 k g1 g2, fun k g1 g2 => by rw [k3.2 k g1]; exact f4 k g1 g2, f5.trans k4, fun c => ?_⟩
            · rw [dd]; exact k2
            · rw [sd]; exact k3.wl (by omega) (by rw [List.length_drop, List.length_take]; omega) f2
            · rw [dd, k5]
              by_cases ec : c = (ordL A x l).getD i 0
              · rw [ec, upd_same, if_pos (by simp)]
              · rw [upd_ne ec, f6 c]
                by_cases em : c ∈ R.drop (N - F)
                · rw [if_pos em, if_pos (List.mem_append_left _ em)]
                · rw [if_neg em, if_neg]
                  intro z
                  rcases List.mem_append.mp z with z | z
                  · exact em z
                  · exact ec (List.mem_singleton.mp z)) (by
        rintro ⟨s, v⟩ ⟨hv, f1, f2, f3, f4, f5, f6⟩
        dsimp only at hv f1 f2 f3 f4 f5 f6
        subst hv
        have Ts := hT.sm f5 (by decide)
        have eS : ((ordL A x l).take (rowOf A l).length).filter (fun c => !rs x c && !(upL A x l).contains c) = styL A x l := by rw [← hol, List.take_length]; rfl
        rw [eS] at f1 f2 f6
        unfold fx_X3_sendDown_63_l62
        dsimp only
        rw [Ts.1, if_pos (le2 (by omega) (by omega) (Nat.le_refl _))]
        exact ⟨_, rfl, f1, f2, f3, f4, f5, f6⟩) (llF (by omega))
    obtain ⟨e, q1, q2, q3, q4, q5, q6, q7⟩ := key
    have dl : dwnL A x l = (styL A x l).drop (N - F) := by unfold dwnL; rw [if_pos e1, hN, hF]
    have sl : sprL A x l = ((styL A x l).take (N - F)).drop (N - A.dn l) := by unfold sprL; rw [if_pos e1, hN, hF]
    have hdl : ((styL A x l).drop (N - F)).length = N - (N - F) := by rw [List.length_drop, hN]
    rw [q1, Option.bind_some, countOf_x (w := 1) (W := 1) q2 (by omega) (by decide) rfl, Option.bind_some, gI_nI (by omega) (by decide), rI_n (by omega), (q6 65 (by decide)).1, h65 e1, dl, sl]
    refine ⟨e, ?_, q2, q3, q4, q5, q6, q7⟩
    rw [b01_dec (by omega) (by omega), hdl]
    congr 3
    rw [decide_eq_decide]; omega
