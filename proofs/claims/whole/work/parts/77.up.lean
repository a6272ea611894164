/-! who goes up: lists, and the class -/
def riN (A : Ab) (x : llMem) (l : Nat) : Nat := max (min (max (A.dn l) (wanB A x (l + 1))) (mayN A x (l + 1))) (wanB A x (l + 1))
def upQ (A : Ab) (x : llMem) (l : Nat) : List Nat := (ordL A x l).filter (mayB A x) ++ (ordL A x l).filter (fun c => !rs x c && !mayB A x c)
def upL (A : Ab) (x : llMem) (l : Nat) : List Nat := if l = 0 then [] else (upQ A x l).take (riN A x (l - 1))
def styL (A : Ab) (x : llMem) (l : Nat) : List Nat := (ordL A x l).filter (fun c => !rs x c && !(upL A x l).contains c)
def falN (A : Ab) (x : llMem) (l : Nat) : Nat := riN A x l - wanB A x (l + 1)
def dwnL (A : Ab) (x : llMem) (l : Nat) : List Nat := if l + 1 < A.nl then (styL A x l).drop ((styL A x l).length - falN A x l) else []
def sprL (A : Ab) (x : llMem) (l : Nat) : List Nat := if l + 1 < A.nl then ((styL A x l).take ((styL A x l).length - falN A x l)).drop ((styL A x l).length - A.dn l) else []
def waiB (A : Ab) (c : Nat) : Bool := (A.st c).isNone && !(A.gone c)
def comL (A : Ab) (x : llMem) : List Nat := ((List.range A.nc).filter (waiB A)).take (wanB A x A.nl)
def cL (A : Ab) (x : llMem) (l : Nat) : Bool := (decide (l = 0) || decide ((upL A x l).length = riN A x (l - 1))) && (decide (l + 1 = A.nl) || decide (falN A x l ≤ (styL A x l).length))
def allB (p : Nat → Bool) : Nat → Bool
  | 0 => true
  | n + 1 => allB p n && p n
def canE (A : Ab) (x : llMem) : Bool := decide (0 < A.nl) && allB (cL A x) A.nl && decide ((comL A x).length = wanB A x A.nl)
theorem wanB_le (A : Ab) (x : llMem) (k : Nat) : wanB A x k ≤ A.nc := filt_len _ _
theorem mayN_le (A : Ab) (x : llMem) (k : Nat) : mayN A x k ≤ A.nc := filt_len _ _
theorem riN_le {A : Ab} {x m : llMem} (hp : IPyr A x m) {l : Nat} (hl : l < A.nl) : wanB A x (l + 1) ≤ riN A x l ∧ riN A x l ≤ 30 := by
  have h1 := wanB_le A x (l + 1)
  have h2 := mayN_le A x (l + 1)
  have hn := hp.ncB
  unfold riN
  omega
theorem nI_max {a b : Nat} (ha : a < 2 ^ 31) (hb : b < 2 ^ 31) : (if nI a < nI b then nI b else nI a) = nI (max a b) := by
  by_cases e : a < b
  · rw [if_pos (lt2 ha hb e), show max a b = b by omega]
  · rw [if_neg (nlt2 ha hb (by omega)), show max a b = a by omega]
theorem nI_min {a b : Nat} (ha : a < 2 ^ 31) (hb : b < 2 ^ 31) : (if nI a < nI b then nI a else nI b) = nI (min a b) := by
  by_cases e : a < b
  · rw [if_pos (lt2 ha hb e), show min a b = a by omega]
  · rw [if_neg (nlt2 ha hb (by omega)), show min a b = b by omega]
theorem setNumbers_x {A : Ab} {x m u : llMem} {mc : Nat} {ml : Nat → Nat × Nat} (hp : IPyr A x m) (hs : ISea A x m mc ml) (hB : Bas x u) {l : Nat} (hl : l < A.nl) : ∃ u', fx_X3_setNumbers_63 u (nI l) = some (u', ()) ∧ Sm [64, 65] u u' ∧ u'.1 64 = upd (u.1 64) l (nI (riN A x l)) ∧ u'.1 65 = upd (u.1 65) l (nI (falN A x l)) := by
  have hn := hp.ncB
  have hn2 := hp.nlB
  have w1 := wanB_le A x (l + 1)
  have w2 := mayN_le A x (l + 1)
  have w3 := riN_le hp hl (x := x)
  have hd := (hp.lv hl).2.2.2.2.2.2.2.2.2.2.2.2.2.1
  unfold fx_X3_setNumbers_63
  rw [wantingOf_x hp hs hB (by omega), Option.bind_some, nI_1, mayRiseFrom_x hp hs hB (by omega)]
  simp only [gI_nI (show l < 4 by omega) (show 4 < 2 ^ 31 by decide), rI_n (show l < 2 ^ 31 by omega), nI_clamp (show l < 2 ^ 31 by omega), lt_eq, Option.bind_some]
  rw [(hB 6 (by decide)).1, (hp.lv hl).2.2.1, nI_max (by omega) (by omega), nI_min (by omega) (by omega), show min (mayN A x (l + 1)) (max (A.dn l) (wanB A x (l + 1))) = min (max (A.dn l) (wanB A x (l + 1))) (mayN A x (l + 1)) from Nat.min_comm _ _, nI_max (by omega) (by omega)]
  refine ⟨_, rfl, (Sm.SI (by simp)).trans (Sm.SI (by simp)), ?_, ?_⟩
  · rw [SI_ne (by decide), SI_same]; rfl
  · rw [SI_same, SI_same, upd_same, SI_ne (by decide), pk_sub (by unfold riN at w3; omega)]; rfl
/-- a list of movers in the class -/
def WL (u : llMem) (j : Nat) (L : List Nat) : Prop := u.1 66 j = nI L.length ∧ ∀ i, i < L.length → u.1 67 (30 * j + i) = nI (L.getD i 0)
def AF (u u' : llMem) (j : Nat) : Prop := (∀ k, k ≠ j → u'.1 66 k = u.1 66 k) ∧ ∀ k, k / 30 ≠ j → u'.1 67 k = u.1 67 k
theorem AF.refl (u : llMem) (j : Nat) : AF u u j := ⟨fun _ _ => rfl, fun _ _ => rfl⟩
theorem AF.trans {a b c : llMem} {j : Nat} (h1 : AF a b j) (h2 : AF b c j) : AF a c j := ⟨fun k hk => (h2.1 k hk).trans (h1.1 k hk), fun k hk => (h2.2 k hk).trans (h1.2 k hk)⟩
theorem AF.wl {u u' : llMem} {j i : Nat} {L : List Nat} (h : AF u u' j) (hi : i ≠ j) (hL : L.length ≤ 30) (hw : WL u i L) : WL u' i L := ⟨by rw [h.1 i hi]; exact hw.1, fun k hk => by rw [h.2 _ (by omega)]; exact hw.2 k hk⟩
theorem add_x {u : llMem} {l w c : Nat} {L : List Nat} (h : WL u (4 * l + w) L) (hL : L.length < 30) (hl : l < 4) (hw : w < 4) (hc : c < 30) (aim : Int32) {W : Int32} (hW : W = nI w) : ∃ u', fx_X3_add_63 u (nI l) W (nI c) aim = some (u', ()) ∧ WL u' (4 * l + w) (L ++ [c]) ∧ AF u u' (4 * l + w) ∧ Sm [66, 67, 68] u u' ∧ u'.1 68 = upd (u.1 68) c aim := by
  subst hW
  have i1 : nI l * 4 + nI w = nI (4 * l + w) := by rw [show (4 : Int32) = nI 4 from rfl, pk_mul, nI_add, Nat.mul_comm]
  have i2 : nI (4 * l + w) * 30 + nI L.length = nI (30 * (4 * l + w) + L.length) := by rw [show (30 : Int32) = nI 30 from rfl, pk_mul, nI_add, Nat.mul_comm]
  unfold fx_X3_add_63
  rw [i1]
  simp only [lt_eq, gI_nI (show 4 * l + w < 16 by omega) (show 16 < 2 ^ 31 by decide), rI_n (show 4 * l + w < 2 ^ 31 by omega), h.1, i2, gI_nI (show 30 * (4 * l + w) + L.length < 480 by omega) (show 480 < 2 ^ 31 by decide), nI_clamp (show 30 * (4 * l + w) + L.length < 2 ^ 31 by omega), SI_ne (show 66 ≠ 67 by decide), nI_1, nI_clamp (show 4 * l + w < 2 ^ 31 by omega), gI_nI hc (show 30 < 2 ^ 31 by decide), nI_clamp (show c < 2 ^ 31 by omega)]
  rw [if_neg (Lnle 30 (by omega) (by decide) hL)]
  refine ⟨_, rfl, ⟨?_, fun i hi => ?_⟩, ⟨fun k hk => ?_, fun k hk => ?_⟩, ((Sm.SI (by simp)).trans (Sm.SI (by simp))).trans (Sm.SI (by simp)), ?_⟩
  · rw [SI_ne (by decide), SI_same, upd_same, List.length_append, List.length_singleton]
  · rw [List.length_append, List.length_singleton] at hi
    rw [SI_ne (by decide), SI_ne (by decide), SI_same]
    by_cases e : i = L.length
    · rw [e, upd_same, getD_last]
    · rw [upd_ne (by omega), getD_left (by omega)]; exact h.2 i (by omega)
  · rw [SI_ne (by decide), SI_same, upd_ne hk, SI_ne (by decide)]
  · rw [SI_ne (by decide), SI_ne (by decide), SI_same, upd_ne (by omega)]
  · rw [SI_same, SI_ne (by decide), SI_ne (by decide)]
theorem countOf_x {u : llMem} {l w : Nat} {L : List Nat} (h : WL u (4 * l + w) L) (hl : l < 4) (hw : w < 4) {W : Int32} (hW : W = nI w) : fx_X3_countOf_63 u (nI l) W = some (nI L.length) := by
  subst hW
  have i1 : nI l * 4 + nI w = nI (4 * l + w) := by rw [show (4 : Int32) = nI 4 from rfl, pk_mul, nI_add, Nat.mul_comm]
  unfold fx_X3_countOf_63
  rw [i1, gI_nI (by omega) (by decide), rI_n (by omega), h.1]
/-- an order that lies in the class's table -/
def Tab (A : Ab) (x u : llMem) (l : Nat) : Prop := u.1 43 2 = nI (rowOf A l).length ∧ ∀ i, i < (rowOf A l).length → u.1 44 i = nI ((ordL A x l).getD i 0)
theorem Arr.tab {A : Ab} {x u u' : llMem} {l : Nat} (h : Arr A x u u' l) : Tab A x u' l := ⟨h.2.2.1, h.2.2.2.1⟩
theorem Tab.sm {A : Ab} {x u u' : llMem} {l : Nat} {X : List Nat} (h : Tab A x u l) (hs : Sm X u u') (hX : 43 ∉ X ∧ 44 ∉ X) : Tab A x u' l := by
  unfold Tab
  rw [(hs 43 hX.1).1, (hs 44 hX.2).1]; exact h
theorem take_take_app (a b : List Nat) (W : Nat) : ((a.take W) ++ b).take W = (a ++ b).take W := by
  by_cases h : W ≤ a.length
  · rw [List.take_append_of_le_length (by rw [List.length_take]; omega), List.take_append_of_le_length h, List.take_take, Nat.min_self]
  · rw [List.take_of_length_le (show a.length ≤ W by omega)]
theorem sendUpThose_x {A : Ab} {x m u : llMem} {mc : Nat} {ml : Nat → Nat × Nat} (hp : IPyr A x m) (hs : ISea A x m mc ml) (hB : Bas x u) {l W : Nat} (hl : l < A.nl) (hl1 : 1 ≤ l) (hT : Tab A x u l) (h64 : u.1 64 (l - 1) = nI W) (hW : W ≤ 30) {Q : List Nat} (hQ : WL u (4 * l) Q) (hQW : Q.length ≤ W) (may : Bool) (h12 : Q.length + ((ordL A x l).filter (fun c => !rs x c && (mayB A x c == may))).length ≤ 12) :
    ∃ u', fx_X3_sendUpThose_63 u (nI l) (b01 may) = some (u', ()) ∧ WL u' (4 * l) ((Q ++ (ordL A x l).filter (fun c => !rs x c && (mayB A x c == may))).take W) ∧ AF u u' (4 * l) ∧ Sm [66, 67, 68] u u' ∧ ∀ c, u'.1 68 c = if c ∈ ((Q ++ (ordL A x l).filter (fun c => !rs x c && (mayB A x c == may))).take W).drop Q.length then nI (l - 1) else u.1 68 c := by
  have hn := hp.ncB
  have hn2 := hp.nlB
  have h12r := row_12 hp hl
  have hol := ordL_len A x l
  generalize hP : (fun c => !rs x c && (mayB A x c == may)) = P at *
  have P0 : ∀ c, P c = (!rs x c && (mayB A x c == may)) := fun c => by rw [← hP]
  have fin : ∀ i, i ≤ (ordL A x l).length → (ordL A x l).filter P = ((ordL A x l).take i).filter P ++ ((ordL A x l).drop i).filter P := fun i _ => by rw [← List.filter_append, List.take_append_drop]
  have key := loop_meas (body := fx_X3_sendUpThose_63_l2 (nI l) (b01 may)) (fun s => ∃ i, s.2 = nI i ∧ i ≤ (rowOf A l).length ∧ WL s.1 (4 * l) ((Q ++ ((ordL A x l).take i).filter P).take W) ∧ AF u s.1 (4 * l) ∧ Sm [66, 67, 68] u s.1 ∧ ∀ c, s.1.1 68 c = if c ∈ ((Q ++ ((ordL A x l).take i).filter P).take W).drop Q.length then nI (l - 1) else u.1 68 c) (fun s => (rowOf A l).length - s.2.toNatClampNeg) (fun e => WL e (4 * l) ((Q ++ (ordL A x l).filter P).take W) ∧ AF u e (4 * l) ∧ Sm [66, 67, 68] u e ∧ ∀ c, e.1 68 c = if c ∈ ((Q ++ (ordL A x l).filter P).take W).drop Q.length then nI (l - 1) else u.1 68 c) llFuel (u, 0) ⟨0, rfl, by omega, by
      rw [List.take_zero, List.filter_nil, List.append_nil, List.take_of_length_le hQW]; exact hQ, AF.refl _ _, Sm.refl _ _, fun c => by
      rw [List.take_zero, List.filter_nil, List.append_nil, List.take_of_length_le hQW, List.drop_length, if_neg (by simp)]⟩ (by
      rintro ⟨s, v⟩ ⟨i, hv, hin, f1, f2, f3, f4⟩
      dsimp only at hv f1 f2 f3 f4
      subst hv
      have Ts := hT.sm f3 (by decide)
      have Bs := hB.sm f3 (fun c hc => by simp at hc; omega)
      have hXl : (Q ++ ((ordL A x l).take i).filter P).length ≤ 12 := by
        have := fin i (by omega)
        rw [this, List.length_append] at h12
        rw [List.length_append]; omega
      unfold fx_X3_sendUpThose_63_l2 fx_X3_sendUpThose_63_j75_b2
      dsimp only
      rw [Ts.1]
      by_cases e0 : i = (rowOf A l).length
      · rw [if_pos (le2 (by omega) (by omega) (by omega))]
        rw [e0, ← hol, List.take_length] at f1 f4
        exact Or.inr ⟨_, rfl, f1, f2, f3, f4⟩
      · have hi : i < (ordL A x l).length := by omega
        obtain ⟨c1, c2⟩ := ordL_mem.mp (getD_in hi)
        rw [if_neg (nle2 (by omega) (by omega) (by omega)), countOf_x (w := 0) (W := 0) f1 (by omega) (by decide) rfl, Option.bind_some, pk_m1' hl1, gI_nI (by omega) (by decide), rI_n (by omega), (f3 64 (by decide)).1, h64]
        by_cases e1 : W ≤ ((Q ++ ((ordL A x l).take i).filter P).take W).length
        · rw [if_pos (le2 (by omega) (by rw [List.length_take]; omega) e1)]
          rw [List.length_take] at e1
          have eq : (Q ++ (ordL A x l).filter P).take W = (Q ++ ((ordL A x l).take i).filter P).take W := by
            rw [fin i (by omega), ← List.append_assoc, List.take_append_of_le_length (by omega)]
          rw [← eq] at f1 f4
          exact Or.inr ⟨_, rfl, f1, f2, f3, f4⟩
        · rw [if_neg (nle2 (by omega) (by rw [List.length_take]; omega) (by omega))]
          rw [List.length_take] at e1
          have hXW : (Q ++ ((ordL A x l).take i).filter P).length < W := by omega
          rw [List.take_of_length_le (by omega)] at f1 f4
          rw [gI_nI (by omega) (by decide), rI_n (by omega), Ts.2 i (by omega)]
          simp only [lt_eq, gI_nI (show (ordL A x l).getD i 0 < 30 by omega) (show 30 < 2 ^ 31 by decide), rI_n (show (ordL A x l).getD i 0 < 2 ^ 31 by omega), nI_1, Nat.sub_add_cancel hl1]
          rw [(Bs 18 (by decide)).1, mayRise_x hp hs Bs c1, Option.bind_some]
          have meas : ∀ z : llMem, (rowOf A l).length - ((z, nI (i + 1)) : llMem × Int32).2.toNatClampNeg < (rowOf A l).length - ((s, nI i) : llMem × Int32).2.toNatClampNeg := fun z => by
            dsimp only
            rw [nI_clamp (by omega), nI_clamp (by omega)]; omega
          have skip : P ((ordL A x l).getD i 0) = false → (∃ s', (some (Sum.inl (s, nI (i + 1))) : Option ((llMem × Int32) ⊕ llMem)) = some (.inl s') ∧ (∃ i, s'.2 = nI i ∧ i ≤ (rowOf A l).length ∧ WL s'.1 (4 * l) ((Q ++ ((ordL A x l).take i).filter P).take W) ∧ AF u s'.1 (4 * l) ∧ Sm [66, 67, 68] u s'.1 ∧ ∀ c, s'.1.1 68 c = if c ∈ ((Q ++ ((ordL A x l).take i).filter P).take W).drop Q.length then nI (l - 1) else u.1 68 c) ∧ (rowOf A l).length - s'.2.toNatClampNeg < (rowOf A l).length - ((s, nI i) : llMem × Int32).2.toNatClampNeg) := by
            intro q
            have ft : ((ordL A x l).take (i + 1)).filter P = ((ordL A x l).take i).filter P := by
              rw [take_s hi, List.filter_append, List.filter_cons_of_neg (by rw [q]; decide), List.filter_nil, List.append_nil]
            refine ⟨_, rfl, ⟨i + 1, rfl, by omega, ?_, f2, f3, ?_⟩, meas s⟩
            · rw [ft, List.take_of_length_le (by omega)]; exact f1
            · rw [ft, List.take_of_length_le (by omega)]; exact f4
          rcases rs_cases hs c1 with ⟨r1, r2⟩ | ⟨r1, r2⟩
          · rw [if_neg (fun z => z r2)]
            by_cases e2 : mayB A x ((ordL A x l).getD i 0) = may
            · have hPt : P ((ordL A x l).getD i 0) = true := by rw [P0, r1, e2]; simp
              rw [if_neg (fun z => z (by rw [e2]))]
              have ft : ((ordL A x l).take (i + 1)).filter P = ((ordL A x l).take i).filter P ++ [(ordL A x l).getD i 0] := by
                rw [take_s hi, List.filter_append, List.filter_cons_of_pos hPt, List.filter_nil]
              have hz : WL s (4 * l + 0) (Q ++ ((ordL A x l).take i).filter P) := f1
              obtain ⟨s', k1, k2, k3, k4, k5⟩ := add_x (w := 0) (W := 0) (c := (ordL A x l).getD i 0) hz (by omega) (by omega) (by decide) (by omega) (nI (l - 1)) rfl
              have em : nI l - 1 = nI (l - 1) := pk_m1' hl1
              rw [k1, bd_mk]
              refine Or.inl ⟨_, rfl, ⟨i + 1, rfl, by omega, ?_, f2.trans k3, f3.trans k4, fun c => ?_⟩, meas s'⟩
              · rw [ft, ← List.append_assoc, List.take_of_length_le (by rw [List.length_append, List.length_singleton]; omega)]
                exact k2
              · rw [ft, ← List.append_assoc, List.take_of_length_le (by rw [List.length_append, List.length_singleton]; omega), k5]
                have hd : ((Q ++ ((ordL A x l).take i).filter P) ++ [(ordL A x l).getD i 0]).drop Q.length = (Q ++ ((ordL A x l).take i).filter P).drop Q.length ++ [(ordL A x l).getD i 0] := by
                  rw [List.drop_append_of_le_length (by rw [List.length_append]; omega)]
                rw [hd]
                by_cases ec : c = (ordL A x l).getD i 0
                · rw [ec, upd_same, if_pos (by simp)]
                · rw [upd_ne ec, f4 c]
                  by_cases em : c ∈ (Q ++ ((ordL A x l).take i).filter P).drop Q.length
                  · rw [if_pos em, if_pos (List.mem_append_left _ em)]
                  · rw [if_neg em, if_neg]
                    intro z
                    rcases List.mem_append.mp z with z | z
                    · exact em z
                    · exact ec (List.mem_singleton.mp z)
            · rw [if_pos (fun z => e2 (by
                revert z
                cases mayB A x ((ordL A x l).getD i 0) <;> cases may <;> decide))]
              refine Or.inl (skip ?_)
              rw [P0]
              have : (mayB A x ((ordL A x l).getD i 0) == may) = false := by
                cases h : (mayB A x ((ordL A x l).getD i 0) == may) with
                | false => rfl
                | true => exact absurd (eq_of_beq h) e2
              rw [this, Bool.and_false]
          · rw [if_pos (by rw [r2]; decide)]
            exact Or.inl (skip (by rw [P0, r1]; rfl))) (by
      dsimp only
      rw [show ((0 : Int32)).toNatClampNeg = 0 from rfl]
      exact llF (by omega))
  obtain ⟨e, e1, e2⟩ := key
  unfold fx_X3_sendUpThose_63
  rw [e1]
  exact ⟨e, rfl, e2⟩
