/-! the class chooses -/
theorem cpI_le {ρ : Type} (u : llMem) (c0 c1 n N : Nat) (hn : n ≤ N) (hN : N < 2 ^ 31) (kx : llMem → Option ρ) : cpI u c0 N c1 N 0 0 (nI n) kx = kx (llSA u c1 (va_cpy (u.1 c0) (u.1 c1) 0 0 n)) := by
  unfold cpI
  rw [if_neg, nI_clamp (by omega)]
  · rfl
  · rw [nI_clamp (by omega)]
    rintro (h | h | h | h | h)
    · exact absurd h (by decide)
    · exact absurd h (by decide)
    · exact nI_nneg (show n < 2 ^ 31 by omega) h
    · revert h; show ¬ N < 0 + n; omega
    · revert h; show ¬ N < 0 + n; omega
theorem sub_combos {R L : List Nat} (h : R.Sublist L) : R ∈ combos R.length L := by
  induction h with
  | slnil => exact List.mem_singleton.mpr rfl
  | @cons R L a h ih =>
    cases R with
    | nil => unfold combos; exact List.mem_singleton.mpr rfl
    | cons c R =>
      rw [List.length_cons, combos_cons]
      exact List.mem_append_right _ ih
  | @cons_cons R L a h ih =>
    rw [List.length_cons, combos_cons]
    exact List.mem_append_left _ (List.mem_map.mpr ⟨R, ih, rfl⟩)
theorem sum_le {g : Nat → Nat} {B : Nat} (b : List Nat) (h : ∀ z, z ∈ b → g z ≤ B) : (b.map g).sum ≤ B * b.length := by
  induction b with
  | nil => simp
  | cons a b ih =>
    rw [List.map_cons, List.sum_cons, List.length_cons, Nat.mul_succ]
    have h1 := h a (List.mem_cons_self ..)
    have h2 := ih (fun z hz => h z (List.mem_cons_of_mem _ hz))
    omega
theorem pairSum_le {f : Nat → Nat → Nat} {n : Nat} (hf : ∀ a b, a < n → b < n → f a b ≤ 140) (b : List Nat) (hb : ∀ z, z ∈ b → z < n) : pairSum f b ≤ 140 * b.length * b.length := by
  induction b with
  | nil => exact Nat.zero_le _
  | cons a b ih =>
    show (b.map (f a)).sum + pairSum f b ≤ _
    have h1 := sum_le (g := f a) (B := 140) b (fun z hz => hf a z (hb a (List.mem_cons_self ..)) (hb z (List.mem_cons_of_mem _ hz)))
    have h2 := ih (fun z hz => hb z (List.mem_cons_of_mem _ hz))
    rw [List.length_cons]
    have : 140 * (b.length + 1) * (b.length + 1) = 140 * b.length * b.length + 280 * b.length + 140 := by
      rw [Nat.mul_add, Nat.mul_one, show 140 * (b.length + 1) = 140 * b.length + 140 by omega, Nat.add_mul]; omega
    omega
theorem miR_le {A : Ab} {x m : llMem} (hp : IPyr A x m) (l : Nat) : ∀ a b, a < (rowOf A l).length → b < (rowOf A l).length → miR A l a b ≤ 140 := fun a b ha hb => mi_le hp (row_mem.mp (getD_in ha)).1 (row_mem.mp (getD_in hb)).1
def VB (A : Ab) (l : Nat) (Q : List (List Nat)) : Prop := ∀ b, b ∈ Q → b.Sublist (List.range (rowOf A l).length) ∧ b.length = A.sz l
theorem VB.cost {A : Ab} {x m : llMem} (hp : IPyr A x m) {l : Nat} (h6 : A.sz l ≤ 6) {Q : List (List Nat)} (h : VB A l Q) : costP (miR A l) Q ≤ 5040 * Q.length := by
  induction Q with
  | nil => exact Nat.zero_le _
  | cons b Q ih =>
    have h1 := ih (fun c hc => h c (List.mem_cons_of_mem _ hc))
    obtain ⟨h2, h3⟩ := h b (List.mem_cons_self ..)
    have h4 := pairSum_le (miR_le hp l) b (fun z hz => List.mem_range.mp (h2.subset hz))
    have h5 : 140 * b.length * b.length ≤ 5040 := by
      rw [h3]
      have : 140 * A.sz l * A.sz l ≤ 140 * 6 * 6 := Nat.mul_le_mul (Nat.mul_le_mul (Nat.le_refl _) h6) h6
      omega
    show pairSum (miR A l) b + costP (miR A l) Q ≤ _
    rw [List.length_cons]; omega
def BS (A : Ab) (l : Nat) (u : llMem) : Option (List (List Nat)) → Prop
  | none => u.1 52 16 = 2147483647
  | some P => u.1 52 16 = nI (costP (miR A l) P) ∧ P.length = A.dv l ∧ VB A l P ∧ ∀ i, i < A.dv l → u.1 62 i = nI (mkN (P.getD i []))
theorem BS.cmp {A : Ab} {x m u : llMem} (hp : IPyr A x m) {l : Nat} (h6 : A.sz l ≤ 6) (h3 : A.dv l ≤ 3) {best : Option (List (List Nat))} (h : BS A l u best) {c : Nat} (hc : c ≤ 30000) : (u.1 52 16 ≤ nI c ↔ ∃ P, best = some P ∧ costP (miR A l) P ≤ c) := by
  cases best with
  | none =>
    have h : u.1 52 16 = 2147483647 := h
    rw [h, Int32.le_iff_toInt_le, nI_toInt (by omega)]
    constructor
    · intro q
      have : (2147483647 : Int32).toInt = 2147483647 := by decide
      omega
    · rintro ⟨P, q, _⟩; cases q
  | some P =>
    obtain ⟨h1, h2, h4, _⟩ := h
    have h5 := h4.cost hp h6
    rw [h2] at h5
    rw [h1, Int32.le_iff_toInt_le, nI_toInt (by omega), nI_toInt (by omega)]
    constructor
    · intro q; exact ⟨P, rfl, by omega⟩
    · rintro ⟨P', q, z⟩
      injection q with q
      subst q; omega
def CF (k : Nat) (u u' : llMem) : Prop := Sm [52, 61, 62] u u' ∧ (∀ j, j ≠ 16 → u'.1 52 j = u.1 52 j) ∧ ∀ j, j < k → u'.1 61 j = u.1 61 j
theorem CF.refl (k : Nat) (u : llMem) : CF k u u := ⟨Sm.refl _ _, fun _ _ => rfl, fun _ _ => rfl⟩
theorem CF.trans {k : Nat} {u v w : llMem} (h1 : CF k u v) (h2 : CF k v w) : CF k u w := ⟨h1.1.trans h2.1, fun j hj => (h2.2.1 j hj).trans (h1.2.1 j hj), fun j hj => (h2.2.2 j hj).trans (h1.2.2 j hj)⟩
/-- what the choosing reads -/
def CB (A : Ab) (l : Nat) (u : llMem) : Prop := PB A l u ∧ LSt (miR A l) u (combos (A.sz l) (List.range (rowOf A l).length)) ∧ ∀ i, i ≤ (rowOf A l).length - A.sz l + 1 → u.1 60 i = nI (posN (rowOf A l).length (A.sz l) i)
theorem CF.cb {A : Ab} {l k : Nat} {u u' : llMem} (h : CF k u u') (hC : CB A l u) : CB A l u' := by
  obtain ⟨⟨a1, a2, a3, a4⟩, ⟨b1, b2, b3⟩, c⟩ := hC
  unfold CB PB LSt
  rw [h.2.1 5 (by decide), h.2.1 6 (by decide), h.2.1 7 (by decide), h.2.1 10 (by decide), (h.1 56 (by decide)).1, (h.1 58 (by decide)).1, (h.1 59 (by decide)).1, (h.1 60 (by decide)).1]
  exact ⟨⟨a1, a2, a3, a4⟩, ⟨b1, b2, b3⟩, c⟩
theorem up1_no {c : List (List Nat) → Nat} {P p : List (List Nat)} (h : c P ≤ c p) : up1 c (some P) p = some P := by
  show (if c p < c P then some p else some P) = _
  rw [if_neg (by omega)]
theorem up1_yes {c : List (List Nat) → Nat} {best : Option (List (List Nat))} {p : List (List Nat)} (h : ¬ ∃ P, best = some P ∧ c P ≤ c p) : up1 c best p = some p := by
  cases best with
  | none => rfl
  | some P =>
    show (if c p < c P then some p else some P) = _
    by_cases e : c p < c P
    · rw [if_pos e]
    · exact absurd ⟨P, rfl, by omega⟩ h
theorem lastC_x {A : Ab} {x m u : llMem} (hp : IPyr A x m) {l : Nat} (hl : l < A.nl) (rec : llMem → Int32 → Int32 → Int32 → Option (llMem × Unit)) {k : Nat} {Q : List (List Nat)} {R : List Nat} {best : Option (List (List Nat))} (hk : k + 1 = A.dv l) (hQ : Q.length = k) (hV : VB A l Q) (hR : R.Sublist (List.range (rowOf A l).length)) (hRl : R.length = A.sz l) (hC : CB A l u) (h61 : ∀ i, i < k → u.1 61 i = nI (mkN (Q.getD i []))) (hb : BS A l u best) :
    ∃ u', fx_X4_choose_52_body rec u (nI k) (nI (mkN R)) (nI (costP (miR A l) Q)) = some (u', ()) ∧ BS A l u' (up1 (costP (miR A l)) best (Q ++ [R])) ∧ CF k u u' := by
  have h12 := row_12 hp hl
  have lv := hp.lv hl
  have hsz6 : A.sz l ≤ 6 := lv.2.2.2.2.2.2.2.2.2.2.2.1
  have hdv3 : A.dv l ≤ 3 := lv.2.2.2.2.2.2.2.2.2.1
  have hV' : VB A l (Q ++ [R]) := fun b hb' => by
    rcases List.mem_append.mp hb' with q | q
    · exact hV b q
    · rw [List.mem_singleton.mp q]; exact ⟨hR, hRl⟩
  have hcost := hV'.cost hp hsz6
  rw [List.length_append, List.length_singleton, hQ, hk] at hcost
  have hcs : costP (miR A l) (Q ++ [R]) = costP (miR A l) Q + pairSum (miR A l) R := by
    rw [costP_app]; show _ + (pairSum (miR A l) R + 0) = _; rw [Nat.add_zero]
  have hR12 : ∀ z, z ∈ R → z < 12 := fun z hz => by have := List.mem_range.mp (hR.subset hz); omega
  have hm := mk_lt hR12
  have h59 : u.1 59 (mkN R) = nI (pairSum (miR A l) R) := hC.2.1.2.2 R (by rw [← hRl]; exact sub_combos hR)
  unfold fx_X4_choose_52_body
  rw [hC.1.2.2.1, pk_m1' (by omega), if_neg (nlt2 (by omega) (by omega) (by omega)), gI_nI (by omega) (by decide), rI_n (by omega), h59, nI_add, ← hcs]
  by_cases e : ∃ P, best = some P ∧ costP (miR A l) P ≤ costP (miR A l) (Q ++ [R])
  · rw [if_pos ((hb.cmp hp hsz6 hdv3 (by omega)).mpr e)]
    obtain ⟨P, rfl, q⟩ := e
    exact ⟨u, rfl, by rw [up1_no q]; exact hb, CF.refl _ _⟩
  · rw [if_neg (fun z => e ((hb.cmp hp hsz6 hdv3 (by omega)).mp z)), gI_nI (by omega) (by decide), nI_clamp (by omega), lt_eq, SI_ne (by decide), hC.1.2.2.1, cpI_le _ 61 62 (A.dv l) 3 hdv3 (by decide)]
    rw [gI_nI (by omega) (by decide), lt_eq, up1_yes e]
    have e59 : rI (llSA (llSI u 61 k (nI (mkN R))) 62 (va_cpy ((llSI u 61 k (nI (mkN R))).1 61) ((llSI u 61 k (nI (mkN R))).1 62) 0 0 (A.dv l))) 59 (nI (mkN R)) = nI (pairSum (miR A l) R) := by
      rw [rI_n (by omega), (llSA_ne 59 (by decide)).1, SI_ne (by decide), h59]
    rw [e59, nI_add, ← hcs]
    refine ⟨_, rfl, ⟨?_, ?_, hV', fun i hi => ?_⟩, ⟨((Sm.SI (by decide)).trans (Sm.SA (by decide))).trans (Sm.SI (by decide)), fun j hj => ?_, fun j hj => ?_⟩⟩
    · rw [SI_same, upd_same]
    · rw [List.length_append, List.length_singleton, hQ, hk]
    · rw [SI_ne (by decide)]
      have : (llSA (llSI u 61 k (nI (mkN R))) 62 (va_cpy ((llSI u 61 k (nI (mkN R))).1 61) ((llSI u 61 k (nI (mkN R))).1 62) 0 0 (A.dv l))).1 62 = va_cpy ((llSI u 61 k (nI (mkN R))).1 61) ((llSI u 61 k (nI (mkN R))).1 62) 0 0 (A.dv l) := by simp [llSA]
      rw [this]
      unfold va_cpy
      rw [if_pos (by omega), SI_same, Nat.zero_add, Nat.sub_zero]
      by_cases ei : i = k
      · rw [ei, upd_same, ← hQ, List.getD_eq_getElem?_getD, List.getElem?_append_right (Nat.le_refl _), Nat.sub_self]; rfl
      · rw [upd_ne ei, h61 i (by omega), List.getD_eq_getElem?_getD, List.getD_eq_getElem?_getD, List.getElem?_append_left (show i < Q.length by omega)]
    · rw [SI_same, upd_ne hj, (llSA_ne 52 (by decide)).1, SI_ne (by decide)]
    · rw [SI_ne (by decide), (llSA_ne 61 (by decide)).1, SI_same, upd_ne (by omega)]
