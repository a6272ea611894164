/-! the reference: who goes down, who is spared -/
theorem drop_c {L : List Nat} {i : Nat} (h : i < L.length) : L.drop i = L.getD i 0 :: L.drop (i + 1) := by
  rw [List.drop_eq_getElem_cons h, List.getD_eq_getElem?_getD, List.getElem?_eq_getElem h]; rfl
theorem vd_le {a b : Nat} (ha : a < 99) (hb : b < 99) : (nI a - nI b ≤ 0) ↔ a ≤ b := by
  rw [Int32.le_iff_toInt_le, pk_sub_toInt (by omega) (by omega)]
  show (a : Int) - b ≤ 0 ↔ _
  omega
theorem vd_lt {a b : Nat} (ha : a < 99) (hb : b < 99) : (0 < nI a - nI b) ↔ b < a := by
  rw [Int32.lt_iff_toInt_lt, pk_sub_toInt (by omega) (by omega)]
  show 0 < (a : Int) - b ↔ _
  omega
theorem vd_s (a b : Nat) : nI a - nI b + (-1) = nI a - nI (b + 1) := by
  rw [← nI_1]; grind
theorem falls_m {A : Ab} {x m : llMem} {mc : Nat} {ml : Nat → Nat × Nat} (hp : IPyr A x m) (hs : ISea A x m mc ml) {l : Nat} (hl : l + 1 < A.nl) (hO : OM2 A x m l) (h92 : ∀ c, c ∈ ordL A x l → m.1 92 c = b01 ((upL A x l).contains c)) (h0 : ∀ c, c ∈ ordL A x l → m.1 93 c = 0 ∧ m.1 95 c = 0) (v1 : Int32) :
    ∃ e, loop (fx_X12_ends_69_l255_b209 v1 (nI l)) llFuel (m, nI (falN A x l), nI (A.dn l), nI (rowOf A l).length - 1) = some e ∧ e.2 = nI (falN A x l) - nI (styL A x l).length ∧ Sm [93, 95] m e.1 ∧ (∀ c, e.1.1 93 c = if c ∈ dwnL A x l then 1 else m.1 93 c) ∧ ∀ c, e.1.1 95 c = if c ∈ sprL A x l then 1 else m.1 95 c := by
  have hn := hp.ncB
  have hn2 := hp.nlB
  have h12 := row_12 hp (show l < A.nl by omega)
  have hol := ordL_len A x l
  have hF : falN A x l ≤ 30 := by
    have := (riN_le (x := x) hp (show l < A.nl by omega)).2
    unfold falN; omega
  have hD := (hp.lv (show l < A.nl by omega)).2.2.2.2.2.2.2.2.2.2.2.2.2.1
  have eD : dwnL A x l = (styL A x l).drop ((styL A x l).length - falN A x l) := by unfold dwnL; rw [if_pos hl]
  have eS : sprL A x l = ((styL A x l).take ((styL A x l).length - falN A x l)).drop ((styL A x l).length - A.dn l) := by unfold sprL; rw [if_pos hl]
  rw [eD, eS]
  generalize hP : (fun c => !rs x c && !(upL A x l).contains c) = P at *
  have P0 : ∀ c, P c = (!rs x c && !(upL A x l).contains c) := fun c => by rw [← hP]
  have eT : styL A x l = (ordL A x l).filter P := by unfold styL; rw [hP]
  rw [eT]
  generalize falN A x l = F at *
  generalize A.dn l = D at *
  clear eD eS eT
  refine loop_inv (body := fx_X12_ends_69_l255_b209 v1 (nI l)) (fun j s => s.2 = (nI F - nI (((ordL A x l).drop ((rowOf A l).length - j)).filter P).length, nI D - nI (((ordL A x l).drop ((rowOf A l).length - j)).filter P).length, nI ((rowOf A l).length - j) - 1) ∧ Sm [93, 95] m s.1 ∧ (∀ c, s.1.1 93 c = if c ∈ (((ordL A x l).drop ((rowOf A l).length - j)).filter P).drop ((((ordL A x l).drop ((rowOf A l).length - j)).filter P).length - F) then 1 else m.1 93 c) ∧ ∀ c, s.1.1 95 c = if c ∈ ((((ordL A x l).drop ((rowOf A l).length - j)).filter P).take ((((ordL A x l).drop ((rowOf A l).length - j)).filter P).length - F)).drop ((((ordL A x l).drop ((rowOf A l).length - j)).filter P).length - D) then 1 else m.1 95 c) _ (rowOf A l).length llFuel _ ?_ ?_ ?_ (llF (by omega))
  · have : (ordL A x l).drop ((rowOf A l).length - 0) = [] := by rw [Nat.sub_zero, ← hol, List.drop_length]
    rw [this]
    refine ⟨?_, Sm.refl _ _, fun c => by rw [if_neg (by simp)], fun c => by rw [if_neg (by simp)]⟩
    show (nI F, nI D, nI (rowOf A l).length - 1) = (nI F - nI 0, nI D - nI 0, nI ((rowOf A l).length - 0) - 1)
    rw [Nat.sub_zero, show nI F - nI 0 = nI F from pk_sub (by omega), show nI D - nI 0 = nI D from pk_sub (by omega)]
  · rintro j ⟨s, v⟩ hj ⟨hv, f1, f2, f3⟩
    dsimp only at hv f1 f2 f3
    subst hv
    have ps := hp.smM f1 (fun c hc => by simp at hc; omega)
    have ss := hs.smM f1 (fun c hc => by simp at hc; omega)
    have Os := hO.sm f1 (by decide)
    have hi : (rowOf A l).length - (j + 1) < (ordL A x l).length := by omega
    have hd := drop_c hi
    rw [show (rowOf A l).length - (j + 1) + 1 = (rowOf A l).length - j by omega] at hd
    have hm := getD_in hi
    obtain ⟨c1, c2⟩ := ordL_mem.mp hm
    have hx : (ordL A x l).getD ((rowOf A l).length - (j + 1)) 0 ∉ (ordL A x l).drop ((rowOf A l).length - j) := by
      have nd := (ordL_nodup A x l).sublist (List.drop_sublist ((rowOf A l).length - (j + 1)) (ordL A x l))
      rw [hd] at nd
      exact (List.nodup_cons.mp nd).1
    have hm2 : nI ((rowOf A l).length - j) - 1 = nI ((rowOf A l).length - (j + 1)) := by rw [pk_m1' (by omega)]; congr 1
    have hlt : ¬ nI ((rowOf A l).length - (j + 1)) < 0 := by have := nlt2 (a := (rowOf A l).length - (j + 1)) (b := 0) (by omega) (by omega) (by omega); exact this
    have hnext : nI ((rowOf A l).length - (j + 1)) + (-1) = nI ((rowOf A l).length - (j + 1)) - 1 := by grind
    have hR : (((ordL A x l).drop ((rowOf A l).length - j)).filter P).length ≤ 12 := by
      have := List.length_filter_le P ((ordL A x l).drop ((rowOf A l).length - j))
      rw [List.length_drop] at this; omega
    have hxR : (ordL A x l).getD ((rowOf A l).length - (j + 1)) 0 ∉ ((ordL A x l).drop ((rowOf A l).length - j)).filter P := fun z => hx (List.mem_filter.mp z).1
    unfold fx_X12_ends_69_l255_b209 fx_X12_ends_69_j316_b255_b209 fx_X12_ends_69_j336_b255_b209 fx_X12_ends_69_j337_b255_b209 fx_X12_ends_69_j344_b255_b209
    dsimp only
    rw [hm2, if_neg hlt, ix12, gI_nI (by omega) (by decide), rI_n (by omega), Os.2 _ (by omega)]
    generalize hc0 : (ordL A x l).getD ((rowOf A l).length - (j + 1)) 0 = c0 at *
    simp only [lt_eq, gI_nI (show c0 < 30 by omega) (show 30 < 2 ^ 31 by decide), rI_n (show c0 < 2 ^ 31 by omega), nI_clamp (show c0 < 2 ^ 31 by omega), hnext, vd_s, nar_0, nar_1]
    rw [show (30 : Int32) + nI c0 = nI (30 + c0) from nI_add 30 _, gI_nI (by omega) (by decide), rI_n (by omega), (ss.1 _ c1).2.2.2.2.2.1, (f1 92 (by decide)).1, h92 _ hm, hd]
    generalize (ordL A x l).drop ((rowOf A l).length - j) = T at *
    have skip : P c0 = false → ∃ s', (some (Sum.inl (s, nI F - nI (T.filter P).length, nI D - nI (T.filter P).length, nI ((rowOf A l).length - (j + 1)) - 1)) : Option ((llMem × Int32 × Int32 × Int32) ⊕ (llMem × Int32))) = some (.inl s') ∧ s'.2 = (nI F - nI ((c0 :: T).filter P).length, nI D - nI ((c0 :: T).filter P).length, nI ((rowOf A l).length - (j + 1)) - 1) ∧ Sm [93, 95] m s'.1 ∧ (∀ c, s'.1.1 93 c = if c ∈ ((c0 :: T).filter P).drop (((c0 :: T).filter P).length - F) then 1 else m.1 93 c) ∧ ∀ c, s'.1.1 95 c = if c ∈ (((c0 :: T).filter P).take (((c0 :: T).filter P).length - F)).drop (((c0 :: T).filter P).length - D) then 1 else m.1 95 c := by
      intro q
      rw [List.filter_cons_of_neg (by rw [q]; decide)]
      exact ⟨_, rfl, rfl, f1, f2, f3⟩
    cases qU : (upL A x l).contains c0
    · rw [if_neg (show ¬ ¬ b01 false = 0 from fun z => z rfl)]
      rcases rs_cases hs c1 with ⟨r1, r2⟩ | ⟨r1, r2⟩
      · have hPt : P c0 = true := by rw [P0, r1, qU]; rfl
        rw [if_pos (by rw [r2]; decide), List.filter_cons_of_pos hPt]
        clear skip
        generalize T.filter P = R at *
        rw [List.length_cons]
        have z93 : m.1 93 c0 = 0 := (h0 _ hm).1
        have z95 : m.1 95 c0 = 0 := (h0 _ hm).2
        have up3 : ∀ (a b : Int32), Sm [93, 95] m (llSI (llSI s 93 c0 a) 95 c0 b) := fun a b => f1.trans ((Sm.SI (by decide)).trans (Sm.SI (by decide)))
        have wr : ∀ (a b : Bool) (D1 D0 S1 S0 : List Nat), (∀ c, s.1 93 c = if c ∈ D0 then 1 else m.1 93 c) → (∀ c, s.1 95 c = if c ∈ S0 then 1 else m.1 95 c) → (D1 = if a then c0 :: D0 else D0) → (S1 = if b then c0 :: S0 else S0) → c0 ∉ D0 → c0 ∉ S0 → (∀ c, (llSI (llSI s 93 c0 (b01 a)) 95 c0 (b01 b)).1 93 c = if c ∈ D1 then 1 else m.1 93 c) ∧ ∀ c, (llSI (llSI s 93 c0 (b01 a)) 95 c0 (b01 b)).1 95 c = if c ∈ S1 then 1 else m.1 95 c := by
          intro a b D1 D0 S1 S0 g1 g2 e1 e2 n1 n2
          have gen : ∀ (t : Bool) (E1 E0 : List Nat) (f : Nat → Int32) (m0 : Nat → Int32), m0 c0 = 0 → (∀ c, f c = if c ∈ E0 then 1 else m0 c) → (E1 = if t then c0 :: E0 else E0) → c0 ∉ E0 → ∀ c, upd f c0 (b01 t) c = if c ∈ E1 then 1 else m0 c := by
            intro t E1 E0 f m0 z g e n c
            by_cases ec : c = c0
            · rw [ec, upd_same, e]
              cases t
              · rw [if_neg (show ¬ false = true by decide), if_neg n, z]; rfl
              · rw [if_pos rfl, if_pos (by simp)]; rfl
            · rw [upd_ne ec, g c, e]
              cases t
              · rw [if_neg (show ¬ false = true by decide)]
              · rw [if_pos rfl]
                by_cases em : c ∈ E0
                · rw [if_pos em, if_pos (List.mem_cons_of_mem _ em)]
                · rw [if_neg em, if_neg (fun z => by rcases List.mem_cons.mp z with z | z; exact ec z; exact em z)]
          refine ⟨fun c => ?_, fun c => ?_⟩
          · rw [SI_ne (by decide), SI_same]; exact gen a D1 D0 _ _ z93 g1 e1 n1 c
          · rw [SI_same, SI_ne (by decide)]; exact gen b S1 S0 _ _ z95 g2 e2 n2 c
        have nD : c0 ∉ R.drop (R.length - F) := fun z => hxR (List.mem_of_mem_drop z)
        have nS : c0 ∉ (R.take (R.length - F)).drop (R.length - D) := fun z => hxR (List.mem_of_mem_take (List.mem_of_mem_drop z))
        by_cases w1 : R.length < F
        · rw [if_neg (fun z => by have := (vd_le (by omega) (by omega)).mp z; omega), if_pos ((vd_lt (by omega) (by omega)).mpr w1)]
          obtain ⟨t1, t2⟩ := wr true false ((c0 :: R).drop (R.length + 1 - F)) _ (((c0 :: R).take (R.length + 1 - F)).drop (R.length + 1 - D)) _ f2 f3 (by
            rw [if_pos rfl, show R.length + 1 - F = 0 by omega, show R.length - F = 0 by omega]; rfl) (by
            rw [if_neg (by decide), show R.length + 1 - F = 0 by omega, show R.length - F = 0 by omega, List.take_zero, List.take_zero, List.drop_nil, List.drop_nil]) nD nS
          exact ⟨_, rfl, rfl, up3 _ _, t1, t2⟩
        · rw [if_pos ((vd_le (by omega) (by omega)).mpr (by omega)), if_neg (fun z => w1 ((vd_lt (by omega) (by omega)).mp z))]
          have dd : (c0 :: R).drop (R.length + 1 - F) = if false = true then c0 :: R.drop (R.length - F) else R.drop (R.length - F) := by
            rw [if_neg (by decide), show R.length + 1 - F = (R.length - F) + 1 by omega, List.drop_succ_cons]
          have tt : (c0 :: R).take (R.length + 1 - F) = c0 :: R.take (R.length - F) := by
            rw [show R.length + 1 - F = (R.length - F) + 1 by omega, List.take_succ_cons]
          by_cases w2 : R.length < D
          · rw [if_neg (fun z => by have := (vd_le (by omega) (by omega)).mp z; omega)]
            obtain ⟨t1, t2⟩ := wr false true ((c0 :: R).drop (R.length + 1 - F)) _ (((c0 :: R).take (R.length + 1 - F)).drop (R.length + 1 - D)) _ f2 f3 dd (by
              rw [if_pos rfl, tt, show R.length + 1 - D = 0 by omega, show R.length - D = 0 by omega]; rfl) nD nS
            exact ⟨_, rfl, rfl, up3 _ _, t1, t2⟩
          · rw [if_pos ((vd_le (by omega) (by omega)).mpr (by omega))]
            obtain ⟨t1, t2⟩ := wr false false ((c0 :: R).drop (R.length + 1 - F)) _ (((c0 :: R).take (R.length + 1 - F)).drop (R.length + 1 - D)) _ f2 f3 dd (by
              rw [if_neg (by decide), tt, show R.length + 1 - D = (R.length - D) + 1 by omega, List.drop_succ_cons]) nD nS
            exact ⟨_, rfl, rfl, up3 _ _, t1, t2⟩
      · rw [if_neg (fun z => z r2)]
        exact skip (by rw [P0, r1]; rfl)
    · rw [if_pos (show ¬ b01 true = 0 by decide)]
      exact skip (by rw [P0, qU]; simp)
  · rintro ⟨s, v⟩ ⟨hv, f1, f2, f3⟩
    dsimp only at hv f1 f2 f3
    subst hv
    unfold fx_X12_ends_69_l255_b209
    dsimp only
    rw [Nat.sub_self] at f2 f3 ⊢
    rw [if_pos (by decide)]
    exact ⟨_, rfl, rfl, f1, f2, f3⟩
