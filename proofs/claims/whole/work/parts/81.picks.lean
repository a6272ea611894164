/-! the reference: who goes up -/
def GL (m : llMem) (l : Nat) (Q : List Nat) : Prop := m.1 97 l = nI Q.length ∧ ∀ i, i < Q.length → m.1 96 (12 * l + i) = nI (Q.getD i 0)
def OM2 (A : Ab) (x m : llMem) (l : Nat) : Prop := m.1 87 l = nI (rowOf A l).length ∧ ∀ i, i < (rowOf A l).length → m.1 86 (12 * l + i) = nI ((ordL A x l).getD i 0)
theorem OM2.sm {A : Ab} {x m m' : llMem} {l : Nat} {X : List Nat} (h : OM2 A x m l) (hs : Sm X m m') (hX : 86 ∉ X ∧ 87 ∉ X) : OM2 A x m' l := by
  unfold OM2
  rw [(hs 86 hX.1).1, (hs 87 hX.2).1]; exact h
theorem nar_1 : vp_nar .boolean 1 = 1 := rfl
theorem nar_0 : vp_nar .boolean 0 = 0 := rfl
theorem goesUp_m {A : Ab} {x m : llMem} (hp : IPyr A x m) {l c : Nat} (hl : l < A.nl) (hc : c < A.nc) (hst : (A.st c).map Prod.fst = some l) {Q : List Nat} (hQ : GL m l Q) (h12 : Q.length < 12) :
    ∃ m', fx_X12_goesUp_69 m (nI c) = some (m', ()) ∧ GL m' l (Q ++ [c]) ∧ Sm [92, 96, 97] m m' ∧ m'.1 92 = upd (m.1 92) c 1 ∧ (∀ k, k ≠ l → m'.1 97 k = m.1 97 k) ∧ ∀ k, k / 12 ≠ l → m'.1 96 k = m.1 96 k := by
  have hn := hp.ncB
  have hn2 := hp.nlB
  have hlv : m.1 74 c = nI l := by rw [(hp.cl hc).m74]; exact (lvI_eq hp hc (by omega)).mpr hst
  unfold fx_X12_goesUp_69
  rw [gI_nI (by omega) (by decide), rI_n (by omega), hlv]
  simp only [lt_eq, gI_nI (show c < 30 by omega) (show 30 < 2 ^ 31 by decide), nI_clamp (show c < 2 ^ 31 by omega), nar_1, gI_nI (show l < 4 by omega) (show 4 < 2 ^ 31 by decide), rI_n (show l < 2 ^ 31 by omega), nI_clamp (show l < 2 ^ 31 by omega), SI_ne (show (97 : Nat) ≠ 92 by decide), SI_ne (show (97 : Nat) ≠ 96 by decide), hQ.1]
  rw [ix12, gI_nI (by omega) (by decide), nI_clamp (by omega), nI_1]
  refine ⟨_, rfl, ⟨?_, fun i hi => ?_⟩, ?_, ?_, fun k hk => ?_, fun k hk => ?_⟩
  · rw [SI_same, upd_same, List.length_append, List.length_singleton]
  · rw [SI_ne (by decide), SI_same]
    rw [List.length_append, List.length_singleton] at hi
    by_cases e : i = Q.length
    · subst e
      rw [upd_same, getD_last]
    · rw [upd_ne (by omega), SI_ne (by decide), hQ.2 i (by omega), getD_left (by omega)]
  · exact ((Sm.SI (by decide)).trans (Sm.SI (by decide))).trans (Sm.SI (by decide))
  · rw [SI_ne (by decide), SI_ne (by decide), SI_same]
  · rw [SI_same, upd_ne hk, SI_ne (by decide), SI_ne (by decide)]
  · rw [SI_ne (by decide), SI_same, upd_ne (by omega), SI_ne (by decide)]
theorem picks_m {A : Ab} {x m : llMem} {mc : Nat} {ml : Nat → Nat × Nat} (hp : IPyr A x m) (hs : ISea A x m mc ml) {l W : Nat} (hl : l < A.nl) (hO : OM2 A x m l) (hW : W ≤ 30) {Q : List Nat} (hQ : GL m l Q) (hQW : Q.length ≤ W) (may : Bool) (h12 : Q.length + ((ordL A x l).filter (fun c => !rs x c && (mayB A x c == may))).length ≤ 12) (hf : ∀ c, c ∈ ordL A x l → m.1 92 c = b01 (Q.contains c)) (hQP : ∀ c, c ∈ Q → (!rs x c && (mayB A x c == may)) = false) :
    ∃ m', fx_X12_picks_69 m (nI l) (nI W) (b01 may) = some (m', ()) ∧ GL m' l ((Q ++ (ordL A x l).filter (fun c => !rs x c && (mayB A x c == may))).take W) ∧ Sm [92, 96, 97] m m' ∧ (∀ k, k ≠ l → m'.1 97 k = m.1 97 k) ∧ (∀ k, k / 12 ≠ l → m'.1 96 k = m.1 96 k) ∧ ∀ c, m'.1 92 c = if c ∈ ((Q ++ (ordL A x l).filter (fun c => !rs x c && (mayB A x c == may))).take W).drop Q.length then 1 else m.1 92 c := by
  have hn := hp.ncB
  have hn2 := hp.nlB
  have h12r := row_12 hp hl
  have hol := ordL_len A x l
  generalize hP : (fun c => !rs x c && (mayB A x c == may)) = P at *
  have P0 : ∀ c, P c = (!rs x c && (mayB A x c == may)) := fun c => by rw [← hP]
  have fin : ∀ i, i ≤ (ordL A x l).length → (ordL A x l).filter P = ((ordL A x l).take i).filter P ++ ((ordL A x l).drop i).filter P := fun i _ => by rw [← List.filter_append, List.take_append_drop]
  have key := loop_meas (body := fx_X12_picks_69_l3 (nI l) (nI W) (b01 may)) (fun s => ∃ i, s.2 = nI i ∧ i ≤ (rowOf A l).length ∧ GL s.1 l ((Q ++ ((ordL A x l).take i).filter P).take W) ∧ Sm [92, 96, 97] m s.1 ∧ (∀ k, k ≠ l → s.1.1 97 k = m.1 97 k) ∧ (∀ k, k / 12 ≠ l → s.1.1 96 k = m.1 96 k) ∧ ∀ c, s.1.1 92 c = if c ∈ ((Q ++ ((ordL A x l).take i).filter P).take W).drop Q.length then 1 else m.1 92 c) (fun s => (rowOf A l).length - s.2.toNatClampNeg) (fun e => GL e l ((Q ++ (ordL A x l).filter P).take W) ∧ Sm [92, 96, 97] m e ∧ (∀ k, k ≠ l → e.1 97 k = m.1 97 k) ∧ (∀ k, k / 12 ≠ l → e.1 96 k = m.1 96 k) ∧ ∀ c, e.1 92 c = if c ∈ ((Q ++ (ordL A x l).filter P).take W).drop Q.length then 1 else m.1 92 c) llFuel (m, 0) ⟨0, rfl, by omega, by
      rw [List.take_zero, List.filter_nil, List.append_nil, List.take_of_length_le hQW]; exact hQ, Sm.refl _ _, fun _ _ => rfl, fun _ _ => rfl, fun c => by
      rw [List.take_zero, List.filter_nil, List.append_nil, List.take_of_length_le hQW, List.drop_length, if_neg (by simp)]⟩ (by
      rintro ⟨s, v⟩ ⟨i, hv, hin, f1, f2, f3, f4, f5⟩
      dsimp only at hv f1 f2 f3 f4 f5
      subst hv
      have Os := hO.sm f2 (by decide)
      have ps := hp.smM f2 (fun c hc => by simp at hc; omega)
      have ss := hs.smM f2 (fun c hc => by simp at hc; omega)
      have hXl : (Q ++ ((ordL A x l).take i).filter P).length ≤ 12 := by
        have := fin i (by omega)
        rw [this, List.length_append] at h12
        rw [List.length_append]; omega
      unfold fx_X12_picks_69_l3 fx_X12_picks_69_j77_b3
      dsimp only
      rw [gI_nI (by omega) (by decide), rI_n (by omega), Os.1]
      by_cases e0 : i = (rowOf A l).length
      · rw [if_pos (le2 (by omega) (by omega) (by omega))]
        rw [e0, ← hol, List.take_length] at f1 f5
        exact Or.inr ⟨_, rfl, f1, f2, f3, f4, f5⟩
      · have hi : i < (ordL A x l).length := by omega
        have hm := getD_in hi
        obtain ⟨c1, c2⟩ := ordL_mem.mp hm
        rw [if_neg (nle2 (by omega) (by omega) (by omega)), gI_nI (by omega) (by decide), rI_n (by omega), f1.1]
        by_cases e1 : W ≤ ((Q ++ ((ordL A x l).take i).filter P).take W).length
        · rw [if_pos (le2 (by omega) (by rw [List.length_take]; omega) e1)]
          rw [List.length_take] at e1
          have eq : (Q ++ (ordL A x l).filter P).take W = (Q ++ ((ordL A x l).take i).filter P).take W := by
            rw [fin i (by omega), ← List.append_assoc, List.take_append_of_le_length (by omega)]
          rw [← eq] at f1 f5
          exact Or.inr ⟨_, rfl, f1, f2, f3, f4, f5⟩
        · rw [if_neg (nle2 (by omega) (by rw [List.length_take]; omega) (by omega))]
          rw [List.length_take] at e1
          have hXW : (Q ++ ((ordL A x l).take i).filter P).length < W := by omega
          rw [List.take_of_length_le (by omega)] at f1 f5
          rw [ix12, gI_nI (by omega) (by decide), rI_n (by omega), Os.2 i (by omega)]
          simp only [lt_eq, gI_nI (show (ordL A x l).getD i 0 < 30 by omega) (show 30 < 2 ^ 31 by decide), rI_n (show (ordL A x l).getD i 0 < 2 ^ 31 by omega), nI_1]
          rw [show (30 : Int32) + nI ((ordL A x l).getD i 0) = nI (30 + (ordL A x l).getD i 0) from nI_add 30 _, gI_nI (by omega) (by decide), rI_n (by omega), (ss.1 _ c1).2.2.2.2.2.1, may_m ps ss c1, Option.bind_some]
          have meas : ∀ z : llMem, (rowOf A l).length - ((z, nI (i + 1)) : llMem × Int32).2.toNatClampNeg < (rowOf A l).length - ((s, nI i) : llMem × Int32).2.toNatClampNeg := fun z => by
            dsimp only
            rw [nI_clamp (by omega), nI_clamp (by omega)]; omega
          have skip : P ((ordL A x l).getD i 0) = false → (∃ s', (some (Sum.inl (s, nI (i + 1))) : Option ((llMem × Int32) ⊕ llMem)) = some (.inl s') ∧ (∃ i, s'.2 = nI i ∧ i ≤ (rowOf A l).length ∧ GL s'.1 l ((Q ++ ((ordL A x l).take i).filter P).take W) ∧ Sm [92, 96, 97] m s'.1 ∧ (∀ k, k ≠ l → s'.1.1 97 k = m.1 97 k) ∧ (∀ k, k / 12 ≠ l → s'.1.1 96 k = m.1 96 k) ∧ ∀ c, s'.1.1 92 c = if c ∈ ((Q ++ ((ordL A x l).take i).filter P).take W).drop Q.length then 1 else m.1 92 c) ∧ (rowOf A l).length - s'.2.toNatClampNeg < (rowOf A l).length - ((s, nI i) : llMem × Int32).2.toNatClampNeg) := by
            intro q
            have ft : ((ordL A x l).take (i + 1)).filter P = ((ordL A x l).take i).filter P := by
              rw [take_s hi, List.filter_append, List.filter_cons_of_neg (by rw [q]; decide), List.filter_nil, List.append_nil]
            refine ⟨_, rfl, ⟨i + 1, rfl, by omega, ?_, f2, f3, f4, ?_⟩, meas s⟩
            · rw [ft, List.take_of_length_le (by omega)]; exact f1
            · rw [ft, List.take_of_length_le (by omega)]; exact f5
          -- its flag
          have nin : (ordL A x l).getD i 0 ∉ ((ordL A x l).take i).filter P := by
            intro z
            have z2 := (List.mem_filter.mp z).1
            obtain ⟨j, hj, ej⟩ := getD_el z2
            rw [List.length_take] at hj
            have nd := getD_pw (ordL_nodup A x l) (show j < i by omega) hi
            have : ((ordL A x l).take i).getD j 0 = (ordL A x l).getD j 0 := by
              rw [List.getD_eq_getElem?_getD, List.getElem?_take, if_pos (by omega), ← List.getD_eq_getElem?_getD]
            rw [this] at ej
            exact nd ej
          have flag : s.1 92 ((ordL A x l).getD i 0) = b01 (Q.contains ((ordL A x l).getD i 0)) := by
            rw [f5, List.drop_left, if_neg nin, hf _ hm]
          rw [flag]
          cases qQ : Q.contains ((ordL A x l).getD i 0)
          · rw [if_neg (show ¬ ¬ b01 false = 0 from fun z => z rfl)]
            rcases rs_cases hs c1 with ⟨r1, r2⟩ | ⟨r1, r2⟩
            · rw [if_neg (fun z => z r2)]
              by_cases e2 : mayB A x ((ordL A x l).getD i 0) = may
              · have hPt : P ((ordL A x l).getD i 0) = true := by rw [P0, r1, e2]; simp
                rw [if_neg (fun z => z (by rw [e2]))]
                have ft : ((ordL A x l).take (i + 1)).filter P = ((ordL A x l).take i).filter P ++ [(ordL A x l).getD i 0] := by
                  rw [take_s hi, List.filter_append, List.filter_cons_of_pos hPt, List.filter_nil]
                have h12' : (Q ++ ((ordL A x l).take i).filter P).length < 12 := by
                  have := fin (i + 1) (by omega)
                  rw [this, ft, List.length_append, List.length_append, List.length_singleton] at h12
                  rw [List.length_append]; omega
                obtain ⟨s', k1, k2, k3, k4, k5, k6⟩ := goesUp_m ps hl c1 c2 f1 h12'
                rw [k1, bd_mk]
                refine Or.inl ⟨_, rfl, ⟨i + 1, rfl, by omega, ?_, f2.trans k3, fun k hk => (k5 k hk).trans (f3 k hk), fun k hk => (k6 k hk).trans (f4 k hk), fun c => ?_⟩, meas s'⟩
                · rw [ft, ← List.append_assoc, List.take_of_length_le (by rw [List.length_append, List.length_singleton]; omega)]
                  exact k2
                · rw [ft, ← List.append_assoc, List.take_of_length_le (by rw [List.length_append, List.length_singleton]; omega), k4]
                  have hd : ((Q ++ ((ordL A x l).take i).filter P) ++ [(ordL A x l).getD i 0]).drop Q.length = (Q ++ ((ordL A x l).take i).filter P).drop Q.length ++ [(ordL A x l).getD i 0] := by
                    rw [List.drop_append_of_le_length (by rw [List.length_append]; omega)]
                  rw [hd]
                  by_cases ec : c = (ordL A x l).getD i 0
                  · rw [ec, upd_same, if_pos (by simp)]
                  · rw [upd_ne ec, f5 c]
                    by_cases em : c ∈ (Q ++ ((ordL A x l).take i).filter P).drop Q.length
                    · rw [if_pos em, if_pos (List.mem_append_left _ em)]
                    · rw [if_neg em, if_neg]
                      intro z
                      rcases List.mem_append.mp z with z | z
                      · exact em z
                      · exact ec (List.mem_singleton.mp z)
              · rw [if_pos (fun z => e2 (by
                  revert z
                  cases mayB A x ((ordL A x l).getD i 0) <;> cases may <;> decide))]
                refine Or.inl (skip ?_)
                rw [P0]
                have : (mayB A x ((ordL A x l).getD i 0) == may) = false := by
                  cases h : (mayB A x ((ordL A x l).getD i 0) == may) with
                  | false => rfl
                  | true => exact absurd (eq_of_beq h) e2
                rw [this, Bool.and_false]
            · rw [if_pos (by rw [r2]; decide)]
              refine Or.inl (skip ?_)
              rw [P0, r1]; rfl
          · rw [if_pos (show ¬ b01 true = 0 by decide)]
            refine Or.inl (skip ?_)
            rw [P0]; exact hQP _ (List.contains_iff_mem.mp qQ)) (by show (rowOf A l).length - (0 : Int32).toNatClampNeg < llFuel; exact llF (by omega))
  obtain ⟨e, q1, q2⟩ := key
  unfold fx_X12_picks_69
  rw [q1]
  exact ⟨e, rfl, q2⟩
