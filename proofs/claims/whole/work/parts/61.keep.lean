/-! what can be undone: one more -/
def Dee (nc : Nat) (ml : Nat → Nat × Nat) (kd who val : Int32) (c0 c1 : Nat) (B0 B1 : Nat → Int32) : Prop :=
  ((kd = 0 ∧ val = nI c0 ∧ c0 ≤ c1 ∧ (∀ e, e < 120 → B0 e = B1 e) ∧ ∀ h a, h < 30 → a < 30 → B0 (120 + (30 * h + a)) = if ∃ i, i < c0 ∧ ml i = (h, a) then B1 (120 + (30 * h + a)) else -1) ∨
   (∃ c, c < nc ∧ who = nI c ∧ c0 = c1 ∧
    ((kd = 1 ∧ B0 (30 + c) = 0 ∧ ∀ e, e < 1020 → e ≠ 30 + c → B0 e = B1 e) ∨
     (kd = 2 ∧ B0 (60 + c) = 0 ∧ ∀ e, e < 1020 → e ≠ 60 + c → B0 e = B1 e) ∨
     (kd = 3 ∧ B0 (90 + c) = B1 (90 + c) - val ∧ (∃ g, g ≤ 999 ∧ B0 (90 + c) = nI g) ∧ ∀ e, e < 1020 → e ≠ 90 + c → B0 e = B1 e) ∨
     (kd = 4 ∧ B0 c = val ∧ (∃ g, g ≤ 9 ∧ val = nI g) ∧ ∀ e, e < 1020 → e ≠ c → B0 e = B1 e))))
theorem IDe_iff {A : Ab} {x m : llMem} {mc : Nat} {ml : Nat → Nat × Nat} {k : Nat} {cj : Nat → Nat} : IDe A x m mc ml k cj ↔ k ≤ 8 ∧ x.1 26 2 = nI k ∧ m.1 69 14 = nI k ∧ cj k = mc ∧ ∀ j, j < k → Dee A.nc ml (x.1 27 j) (x.1 28 j) (x.1 29 j) (cj j) (cj (j + 1)) (blkM m k j) (blkM m k (j + 1)) := Iff.rfl
theorem Dee.le {nc : Nat} {ml : Nat → Nat × Nat} {kd who val : Int32} {c0 c1 : Nat} {B0 B1 : Nat → Int32} (h : Dee nc ml kd who val c0 c1 B0 B1) : c0 ≤ c1 := by
  rcases h with h | ⟨c, _, _, h, _⟩
  · exact h.2.2.1
  · omega
theorem Dee.congr {nc : Nat} {ml ml' : Nat → Nat × Nat} {kd who val : Int32} {c0 c1 : Nat} {B0 B1 B0' B1' : Nat → Int32} (h : Dee nc ml kd who val c0 c1 B0 B1) (hn : nc ≤ 30) (hm : ∀ i, i < c0 → ml' i = ml i) (h0 : ∀ e, e < 1020 → B0' e = B0 e) (h1 : ∀ e, e < 1020 → B1' e = B1 e) : Dee nc ml' kd who val c0 c1 B0' B1' := by
  rcases h with ⟨q1, q2, q3, q4, q5⟩ | ⟨c, q1, q2, q3, q4⟩
  · refine Or.inl ⟨q1, q2, q3, fun e he => ?_, fun h a hh ha => ?_⟩
    · rw [h0 e (by omega), h1 e (by omega), q4 e he]
    · rw [h0 _ (by omega), h1 _ (by omega), q5 h a hh ha]
      by_cases e : ∃ i, i < c0 ∧ ml i = (h, a)
      · rw [if_pos e, if_pos]
        obtain ⟨i, e1, e2⟩ := e
        exact ⟨i, e1, by rw [hm i e1]; exact e2⟩
      · rw [if_neg e, if_neg]
        rintro ⟨i, e1, e2⟩
        exact e ⟨i, e1, by rw [← hm i e1]; exact e2⟩
  · refine Or.inr ⟨c, q1, q2, q3, ?_⟩
    rcases q4 with ⟨a1, a2, a3⟩ | ⟨a1, a2, a3⟩ | ⟨a1, a2, a3, a4⟩ | ⟨a1, a2, a3, a4⟩
    · exact Or.inl ⟨a1, by rw [h0 _ (by omega)]; exact a2, fun e he hne => by rw [h0 e he, h1 e he]; exact a3 e he hne⟩
    · exact Or.inr (Or.inl ⟨a1, by rw [h0 _ (by omega)]; exact a2, fun e he hne => by rw [h0 e he, h1 e he]; exact a3 e he hne⟩)
    · exact Or.inr (Or.inr (Or.inl ⟨a1, by rw [h0 _ (by omega), h1 _ (by omega)]; exact a2, by rw [h0 _ (by omega)]; exact a3, fun e he hne => by rw [h0 e he, h1 e he]; exact a4 e he hne⟩))
    · exact Or.inr (Or.inr (Or.inr ⟨a1, by rw [h0 _ (by omega)]; exact a2, a3, fun e he hne => by rw [h0 e he, h1 e he]; exact a4 e he hne⟩))
/-- what the reference's keeps() does -/
def KpM (m m' : llMem) (k q : Nat) : Prop := (∀ i, i ≠ 69 → i ≠ 78 → m'.1 i = m.1 i) ∧ m'.2 = m.2 ∧ (∀ j, j ≠ 14 → m'.1 69 j = m.1 69 j) ∧ m'.1 69 14 = nI (q + 1) ∧ (∀ e, e < 1020 → m'.1 78 (1020 * q + e) = m.1 77 e) ∧ ∀ j e, j < q → e < 1020 → m'.1 78 (1020 * j + e) = m.1 78 (1020 * (j + (k - q)) + e)
theorem ix1020 (a b : Nat) : (1020 : Int32) * nI a + nI b = nI (1020 * a + b) := by rw [show (1020 : Int32) = nI 1020 from rfl, pk_mul, nI_add]
theorem keeps1_m (m : llMem) {q : Nat} (hq : q ≤ 7) (h : m.1 69 14 = nI q) : ∃ m', fx_X12_keeps_69_j50 m = some (m', ()) ∧ KpM m m' q q := by
  obtain ⟨e, h1, f1, f2, f3, f4⟩ := loop_inv (body := fx_X12_keeps_69_l52) (fun i s => s.2 = nI i ∧ (∀ c, c ≠ 78 → s.1.1 c = m.1 c) ∧ s.1.2 = m.2 ∧ (∀ e, e < i → s.1.1 78 (1020 * q + e) = m.1 77 e) ∧ ∀ j, j < 1020 * q → s.1.1 78 j = m.1 78 j) (fun e => (∀ c, c ≠ 78 → e.1 c = m.1 c) ∧ e.2 = m.2 ∧ (∀ j, j < 1020 → e.1 78 (1020 * q + j) = m.1 77 j) ∧ ∀ j, j < 1020 * q → e.1 78 j = m.1 78 j) 1020 llFuel (m, 0) ⟨rfl, fun _ _ => rfl, rfl, fun e he => by omega, fun _ _ => rfl⟩ (by
      rintro i ⟨s, v⟩ hi ⟨hv, f1, f2, f3, f4⟩
      dsimp only at hv f1 f2 f3 f4
      subst hv
      unfold fx_X12_keeps_69_l52
      dsimp only
      rw [if_neg (Lnle 1020 (by omega) (by decide) hi), gI_nI (by omega) (by decide), f1 69 (by decide), h, ix1020, gI_nI (by omega) (by decide), rI_n (by omega), nI_clamp (by omega), f1 77 (by decide)]
      simp only [lt_eq, nI_1]
      refine ⟨_, rfl, rfl, fun c hc => ?_, f2, fun e he => ?_, fun j hj => ?_⟩
      · rw [SI_ne hc]; exact f1 c hc
      · rw [SI_same]
        by_cases q0 : e = i
        · subst q0; rw [upd_same]
        · rw [upd_ne (by omega)]; exact f3 e (by omega)
      · rw [SI_same, upd_ne (by omega)]; exact f4 j hj) (by
      rintro ⟨s, v⟩ ⟨hv, f1, f2, f3, f4⟩
      dsimp only at hv f1 f2 f3 f4
      subst hv
      unfold fx_X12_keeps_69_l52
      dsimp only
      rw [if_pos (Lle 1020 (by decide) (by decide) (Nat.le_refl _))]
      exact ⟨_, rfl, f1, f2, f3, f4⟩) (llF (by omega))
  unfold fx_X12_keeps_69_j50
  rw [h1]
  simp only [Option.bind_some, lt_eq]
  rw [f1 69 (by decide), h, nI_1]
  refine ⟨_, rfl, fun i h1 h2 => ?_, f2, fun j hj => ?_, ?_, fun e he => ?_, fun j e hj he => ?_⟩
  · rw [SI_ne h1]; exact f1 i h2
  · rw [SI_at hj, f1 69 (by decide)]
  · rw [SI_same, upd_same]
  · rw [SI_ne (by decide)]; exact f3 e he
  · rw [SI_ne (by decide), Nat.sub_self, Nat.add_zero]; exact f4 _ (by omega)
theorem keeps_m (m : llMem) {k : Nat} (hk : k ≤ 8) (h : m.1 69 14 = nI k) : ∃ m', fx_X12_keeps_69 m = some (m', ()) ∧ KpM m m' k (min k 7) := by
  unfold fx_X12_keeps_69
  by_cases e : k = 8
  · subst e
    obtain ⟨u, h1, f1, f2, f3, f4⟩ := loop_inv (body := fx_X12_keeps_69_l11) (fun i s => s.2 = nI i ∧ (∀ c, c ≠ 78 → s.1.1 c = m.1 c) ∧ s.1.2 = m.2 ∧ (∀ e, e < i → s.1.1 78 e = m.1 78 (e + 1020)) ∧ ∀ j, i ≤ j → s.1.1 78 j = m.1 78 j) (fun e => (∀ c, c ≠ 78 → e.1 c = m.1 c) ∧ e.2 = m.2 ∧ (∀ j, j < 7140 → e.1 78 j = m.1 78 (j + 1020)) ∧ True) 7140 llFuel (m, 0) ⟨rfl, fun _ _ => rfl, rfl, fun e he => by omega, fun _ _ => rfl⟩ (by
        rintro i ⟨s, v⟩ hi ⟨hv, f1, f2, f3, f4⟩
        dsimp only at hv f1 f2 f3 f4
        subst hv
        unfold fx_X12_keeps_69_l11
        dsimp only
        rw [if_neg (Lnle 7140 (by omega) (by decide) hi), show nI i + 1020 = nI (i + 1020) from nI_add i 1020, gI_nI (by omega) (by decide), gI_nI (by omega) (by decide), rI_n (by omega), nI_clamp (by omega)]
        simp only [lt_eq, nI_1]
        refine ⟨_, rfl, rfl, fun c hc => ?_, f2, fun e he => ?_, fun j hj => ?_⟩
        · rw [SI_ne hc]; exact f1 c hc
        · rw [SI_same]
          by_cases q0 : e = i
          · subst q0; rw [upd_same, f4 _ (by omega)]
          · rw [upd_ne (by omega)]; exact f3 e (by omega)
        · rw [SI_same, upd_ne (by omega)]; exact f4 j (by omega)) (by
        rintro ⟨s, v⟩ ⟨hv, f1, f2, f3, f4⟩
        dsimp only at hv f1 f2 f3 f4
        subst hv
        unfold fx_X12_keeps_69_l11
        dsimp only
        rw [if_pos (Lle 7140 (by decide) (by decide) (Nat.le_refl _))]
        exact ⟨_, rfl, f1, f2, f3, trivial⟩) (llF (by omega))
    have e14 : (llSI u 69 14 (u.1 69 14 - 1)).1 69 14 = nI 7 := by rw [SI_same, upd_same, f1 69 (by decide), h]; rfl
    obtain ⟨m', g1, g2, g3, g4, g5, g6, g7⟩ := keeps1_m (llSI u 69 14 (u.1 69 14 - 1)) (q := 7) (by decide) e14
    rw [h, if_neg (fun q => q rfl), h1]
    simp only [Option.bind_some, lt_eq]
    rw [g1, show min 8 7 = 7 from rfl]
    refine ⟨m', rfl, fun i i1 i2 => ?_, ?_, fun j hj => ?_, g5, fun e he => ?_, fun j e hj he => ?_⟩
    · rw [g2 i i1 i2, SI_ne i1]; exact f1 i i2
    · rw [g3]; exact f2
    · rw [g4 j hj, SI_at hj, f1 69 (by decide)]
    · rw [g6 e he, SI_ne (by decide), f1 77 (by decide)]
    · rw [g7 j e hj he, SI_ne (by decide), Nat.sub_self, Nat.add_zero, f3 _ (by omega), show 1020 * (j + (8 - 7)) + e = 1020 * j + e + 1020 by omega]
  · have hq : min k 7 = k := by omega
    rw [hq, h, if_pos (neL 8 (by omega) (by decide) e)]
    exact keeps1_m m (by omega) h
/-- what the class's keep does -/
def KpX (x x' : llMem) (k q : Nat) (a b c : Int32) : Prop := (∀ i, i < 26 ∨ 29 < i → x'.1 i = x.1 i) ∧ x'.2 = x.2 ∧ x'.1 26 2 = nI (q + 1) ∧ (x'.1 27 q = a ∧ x'.1 28 q = b ∧ x'.1 29 q = c) ∧ ∀ j, j < q → x'.1 27 j = x.1 27 (j + (k - q)) ∧ x'.1 28 j = x.1 28 (j + (k - q)) ∧ x'.1 29 j = x.1 29 (j + (k - q))
theorem keep1_x (x : llMem) {q : Nat} (hq : q ≤ 7) (h : x.1 26 2 = nI q) (a b c : Int32) : ∃ x', fx_X2_keep_26_j60 x a b c = some (x', ()) ∧ KpX x x' q q a b c := by
  unfold fx_X2_keep_26_j60
  rw [h, gI_nI (by omega) (by decide), nI_clamp (by omega)]
  simp only [lt_eq, SI_ne (show 26 ≠ 27 by decide), SI_ne (show 26 ≠ 28 by decide), SI_ne (show 26 ≠ 29 by decide), h, gI_nI (show q < 8 by omega) (show 8 < 2 ^ 31 by decide), nI_clamp (show q < 2 ^ 31 by omega), nI_1]
  refine ⟨_, rfl, fun i hi => ?_, rfl, ?_, ⟨?_, ?_, ?_⟩, fun j hj => ⟨?_, ?_, ?_⟩⟩
  · rw [SI_ne (by omega), SI_ne (by omega), SI_ne (by omega), SI_ne (by omega)]
  · rw [SI_same, upd_same]
  · rw [SI_ne (by decide), SI_ne (by decide), SI_ne (by decide), SI_same, upd_same]
  · rw [SI_ne (by decide), SI_ne (by decide), SI_same, upd_same]
  · rw [SI_ne (by decide), SI_same, upd_same]
  · rw [SI_ne (by decide), SI_ne (by decide), SI_ne (by decide), SI_same, upd_ne (by omega), Nat.sub_self, Nat.add_zero]
  · rw [SI_ne (by decide), SI_ne (by decide), SI_same, upd_ne (by omega), SI_ne (by decide), Nat.sub_self, Nat.add_zero]
  · rw [SI_ne (by decide), SI_same, upd_ne (by omega), SI_ne (by decide), SI_ne (by decide), Nat.sub_self, Nat.add_zero]
theorem cpI_17 {ρ : Type} (u : llMem) (c : Nat) (kx : llMem → Option ρ) : cpI u c 8 c 8 1 0 7 kx = kx (llSA u c (va_cpy (u.1 c) (u.1 c) 1 0 7)) := by
  unfold cpI
  rw [if_neg (by decide)]
  rfl
theorem keep_x (x : llMem) {k : Nat} (hk : k ≤ 8) (h : x.1 26 2 = nI k) (a b c : Int32) : ∃ x', fx_X2_keep_26 x a b c = some (x', ()) ∧ KpX x x' k (min k 7) a b c := by
  unfold fx_X2_keep_26
  by_cases e : k = 8
  · subst e
    rw [h, if_neg (nltL 8 (by decide) (by decide) (Nat.le_refl _)), cpI_17, cpI_17, cpI_17]
    simp only [lt_eq]
    obtain ⟨x', g1, g2, g3, g4, g5, g6⟩ := keep1_x (llSI (llSA (llSA (llSA x 27 (va_cpy (x.1 27) (x.1 27) 1 0 7)) 28 (va_cpy ((llSA x 27 (va_cpy (x.1 27) (x.1 27) 1 0 7)).1 28) ((llSA x 27 (va_cpy (x.1 27) (x.1 27) 1 0 7)).1 28) 1 0 7)) 29 (va_cpy ((llSA (llSA x 27 (va_cpy (x.1 27) (x.1 27) 1 0 7)) 28 (va_cpy ((llSA x 27 (va_cpy (x.1 27) (x.1 27) 1 0 7)).1 28) ((llSA x 27 (va_cpy (x.1 27) (x.1 27) 1 0 7)).1 28) 1 0 7)).1 29) ((llSA (llSA x 27 (va_cpy (x.1 27) (x.1 27) 1 0 7)) 28 (va_cpy ((llSA x 27 (va_cpy (x.1 27) (x.1 27) 1 0 7)).1 28) ((llSA x 27 (va_cpy (x.1 27) (x.1 27) 1 0 7)).1 28) 1 0 7)).1 29) 1 0 7)) 26 2 7) (q := 7) (by decide) (by rw [SI_same, upd_same]; rfl) a b c
    refine ⟨x', g1, fun i hi => ?_, ?_, g4, g5, fun j hj => ?_⟩
    · rw [g2 i hi, SI_ne (by omega), SA_ne (by omega), SA_ne (by omega), SA_ne (by omega)]
    · rw [g3]; rfl
    · change j < 7 at hj
      obtain ⟨q1, q2, q3⟩ := g6 j hj
      rw [Nat.sub_self, Nat.add_zero] at q1 q2 q3
      have cp : ∀ f : Nat → Int32, va_cpy f f 1 0 7 j = f (j + (8 - 7)) := fun f => by
        rw [pk_cpy_in (by omega) (by omega)]
        congr 1
        omega
      refine ⟨?_, ?_, ?_⟩
      · rw [q1, SI_ne (by decide), SA_ne (by decide), SA_ne (by decide), SA_same, cp]; rfl
      · rw [q2, SI_ne (by decide), SA_ne (by decide), SA_same, SA_ne (by decide), cp]; rfl
      · rw [q3, SI_ne (by decide), SA_same, SA_ne (by decide), SA_ne (by decide), cp]; rfl
  · have hq : min k 7 = k := by omega
    rw [hq, h, if_pos (ltL 8 (by omega) (by decide) (by omega))]
    exact keep1_x x (by omega) h a b c
theorem IDe.mono {A : Ab} {x m : llMem} {mc : Nat} {ml : Nat → Nat × Nat} {k : Nat} {cj : Nat → Nat} (h : IDe A x m mc ml k cj) : ∀ d j, j + d = k → cj j ≤ mc
  | 0, j, e => by rw [show j = k by omega, h.2.2.2.1]; exact Nat.le_refl _
  | d + 1, j, e => by
    have h1 := h.mono d (j + 1) (by omega)
    have h2 := ((IDe_iff.mp h).2.2.2.2 j (by omega)).le
    omega
/-- one deed more -/
theorem IDe.push {A : Ab} {x m x' m' : llMem} {mc mc' : Nat} {ml ml' : Nat → Nat × Nat} {k : Nat} {cj : Nat → Nat} {a b c : Int32} (h : IDe A x m mc ml k cj) (hn : A.nc ≤ 30) {xk mk : llMem} (hx : KpX xk x' k (min k 7) a b c) (hxk : ∀ i, i ∈ [27, 28, 29] → xk.1 i = x.1 i) (hm : KpM m mk k (min k 7)) (h69 : m'.1 69 14 = mk.1 69 14) (h78 : m'.1 78 = mk.1 78) (hml : ∀ i, i < mc → ml' i = ml i) (hd : Dee A.nc ml' a b c mc mc' (m.1 77) (m'.1 77)) : ∃ k' cj', IDe A x' m' mc' ml' k' cj' := by
  have h' := IDe_iff.mp h
  obtain ⟨d1, d2, d3, d4, d5⟩ := h'
  refine ⟨min k 7 + 1, fun j => if j ≤ min k 7 then cj (j + (k - min k 7)) else mc', IDe_iff.mpr ⟨by omega, hx.2.2.1, by rw [h69]; exact hm.2.2.2.1, by rw [if_neg (by omega)], fun j hj => ?_⟩⟩
  have B : ∀ i, i ≤ min k 7 → ∀ e, e < 1020 → blkM m' (min k 7 + 1) i e = blkM m k (i + (k - min k 7)) e := fun i hi e he => by
    unfold blkM
    rw [if_pos (by omega), h78]
    by_cases q : i = min k 7
    · rw [q, hm.2.2.2.2.1 e he, if_neg (by omega)]
    · rw [hm.2.2.2.2.2 i e (by omega) he, if_pos (by omega)]
  by_cases q : j = min k 7
  · rw [q, if_pos (Nat.le_refl _), if_neg (by omega), show min k 7 + (k - min k 7) = k by omega, d4, hx.2.2.2.1.1, hx.2.2.2.1.2.1, hx.2.2.2.1.2.2]
    refine hd.congr hn (fun _ _ => rfl) (fun e he => ?_) (fun e he => ?_)
    · rw [B _ (Nat.le_refl _) e he]
      unfold blkM
      rw [if_neg (by omega)]
    · unfold blkM
      rw [if_neg (by omega)]
  · have hj' : j < min k 7 := by omega
    obtain ⟨t1, t2, t3⟩ := hx.2.2.2.2 j hj'
    rw [if_pos (by omega), if_pos (by omega), t1, t2, t3, hxk 27 (by simp), hxk 28 (by simp), hxk 29 (by simp), show j + 1 + (k - min k 7) = j + (k - min k 7) + 1 by omega]
    have hle := h.mono (k - (j + (k - min k 7))) (j + (k - min k 7)) (by omega)
    refine (d5 (j + (k - min k 7)) (by omega)).congr hn (fun i hi => hml i (by omega)) (fun e he => B j (by omega) e he) (fun e he => ?_)
    rw [B (j + 1) (by omega) e he, show j + 1 + (k - min k 7) = j + (k - min k 7) + 1 by omega]
