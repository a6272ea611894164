abbrev Tk : Type := Nat × Nat × Option (List Nat ⊕ (Nat ⊕ Nat))
/-- level, of, down, need, club, grade, in -/
def kws : List (List Nat) := [[11, 4, 21, 4, 11], [14, 5], [3, 14, 22, 13], [13, 4, 4, 3], [2, 11, 20, 1], [6, 17, 0, 3, 4], [8, 13]]
def kw (j : Nat) : List Nat := kws.getD j []
theorem kw_ok : ∀ j, j < 7 → (kw j).length ≤ 7 ∧ 1 ≤ (kw j).length ∧ (∀ a ∈ kw j, a < 26) ∧ (kw j).length = llLen.getD j 0 := by decide
def p8r : List Nat → Nat
  | [] => 0
  | a :: t => p8r t * 256 + (97 + a)
def p5r : List Nat → Nat
  | [] => 0
  | a :: t => p5r t * 32 + (a + 1)
theorem p8_r (w : List Nat) : p8 w = p8r w.reverse := by
  have h : ∀ (v : List Nat), p8 v.reverse = p8r v := by
    intro v
    induction v with
    | nil => rfl
    | cons a t ih => rw [List.reverse_cons, p8_snoc, ih]; rfl
  rw [← h w.reverse, List.reverse_reverse]
theorem p5_r (w : List Nat) : p5 w = p5r w.reverse := by
  have h : ∀ (v : List Nat), p5 v.reverse = p5r v := by
    intro v
    induction v with
    | nil => rfl
    | cons a t ih => rw [List.reverse_cons, p5_snoc, ih]; rfl
  rw [← h w.reverse, List.reverse_reverse]
theorem p8r_inj : ∀ (v v' : List Nat), (∀ a ∈ v, a < 26) → (∀ a ∈ v', a < 26) → p8r v = p8r v' → v = v'
  | [], [], _, _, _ => rfl
  | [], a :: t, _, _, h => by unfold p8r at h; omega
  | a :: t, [], _, _, h => by simp only [p8r] at h; omega
  | a :: t, b :: s, h1, h2, h => by
    have ha := h1 a (by simp)
    have hb := h2 b (by simp)
    simp only [p8r] at h
    have e1 : a = b := by omega
    have e2 := p8r_inj t s (fun x hx => h1 x (by simp [hx])) (fun x hx => h2 x (by simp [hx])) (by omega)
    rw [e1, e2]
theorem p5r_inj : ∀ (v v' : List Nat), (∀ a ∈ v, a < 26) → (∀ a ∈ v', a < 26) → p5r v = p5r v' → v = v'
  | [], [], _, _, _ => rfl
  | [], a :: t, _, _, h => by unfold p5r at h; omega
  | a :: t, [], _, _, h => by simp only [p5r] at h; omega
  | a :: t, b :: s, h1, h2, h => by
    have ha := h1 a (by simp)
    have hb := h2 b (by simp)
    simp only [p5r] at h
    have e1 : a = b := by omega
    have e2 := p5r_inj t s (fun x hx => h1 x (by simp [hx])) (fun x hx => h2 x (by simp [hx])) (by omega)
    rw [e1, e2]
theorem p8_inj {w w' : List Nat} (h1 : ∀ a ∈ w, a < 26) (h2 : ∀ a ∈ w', a < 26) (h : p8 w = p8 w') : w = w' := by
  rw [p8_r, p8_r] at h
  have e := congrArg List.reverse (p8r_inj _ _ (by simpa using h1) (by simpa using h2) h)
  rwa [List.reverse_reverse, List.reverse_reverse] at e
theorem p5_inj {w w' : List Nat} (h1 : ∀ a ∈ w, a < 26) (h2 : ∀ a ∈ w', a < 26) (h : p5 w = p5 w') : w = w' := by
  rw [p5_r, p5_r] at h
  have e := congrArg List.reverse (p5r_inj _ _ (by simpa using h1) (by simpa using h2) h)
  rwa [List.reverse_reverse, List.reverse_reverse] at e
theorem p8r_lt : ∀ (v : List Nat), (∀ a ∈ v, a < 26) → p8r v < 256 ^ v.length
  | [], _ => by decide
  | a :: t, h => by
    have h1 := p8r_lt t (fun x hx => h x (by simp [hx]))
    have ha := h a (by simp)
    simp only [p8r, List.length_cons, Nat.pow_succ]
    omega
theorem p5r_lt : ∀ (v : List Nat), (∀ a ∈ v, a < 26) → p5r v < 32 ^ v.length
  | [], _ => by decide
  | a :: t, h => by
    have h1 := p5r_lt t (fun x hx => h x (by simp [hx]))
    have ha := h a (by simp)
    simp only [p5r, List.length_cons, Nat.pow_succ]
    omega
theorem p8_lt {w : List Nat} (h : ∀ a ∈ w, a < 26) (hl : w.length ≤ 7) : p8 w < 2 ^ 56 := by
  have h1 := p8r_lt w.reverse (by simpa using h)
  rw [List.length_reverse] at h1
  rw [p8_r]
  have : (256 : Nat) ^ w.length ≤ 256 ^ 7 := Nat.pow_le_pow_right (by decide) hl
  have e : (256 : Nat) ^ 7 = 2 ^ 56 := by decide
  omega
theorem p5_lt {w : List Nat} (h : ∀ a ∈ w, a < 26) (hl : w.length ≤ 7) : p5 w < 2 ^ 35 := by
  have h1 := p5r_lt w.reverse (by simpa using h)
  rw [List.length_reverse] at h1
  rw [p5_r]
  have : (32 : Nat) ^ w.length ≤ 32 ^ 7 := Nat.pow_le_pow_right (by decide) hl
  have e : (32 : Nat) ^ 7 = 2 ^ 35 := by decide
  omega
/-- a piece is what it is: its letters, its length -/
def TkOk (t : Tk) : Prop := t.1 ≤ t.2.1 ∧ t.2.1 ≤ 700 ∧ match t.2.2 with
  | none => True
  | some (.inl w) => w.length = t.2.1 - t.1 ∧ 1 ≤ w.length ∧ ∀ a ∈ w, a < 26
  | some (.inr (.inl v)) => t.2.1 - t.1 ≤ 3 → v ≤ 999
  | some (.inr (.inr s)) => s < 256
theorem lets_ok (bb : Nat → Nat) (q : Nat) : ∀ i, (∀ k, q ≤ k → k < q + i → isLt (bb k) = true) → ∀ a ∈ lets bb q i, a < 26
  | 0, _ => fun a h => by simp [lets] at h
  | i + 1, h => fun a ha => by
    have h2 := isLt_iff.mp (h (q + i) (by omega) (by omega))
    rw [lets] at ha
    rcases List.mem_append.mp ha with h3 | h3
    · exact lets_ok bb q i (fun k x y => h k x (by omega)) a h3
    · rw [List.mem_singleton.mp h3]; omega
theorem tok_ok (bb : Nat → Nat) (n p : Nat) (hp : p ≤ n) (hn : n ≤ 700) (hb : ∀ k, k < n → bb k < 256) : TkOk (tok bb n p) ∧ p ≤ (tok bb n p).1 ∧ (tok bb n p).2.1 ≤ n ∧ ((tok bb n p).2.2 ≠ none → (tok bb n p).1 < (tok bb n p).2.1) := by
  obtain ⟨r1, r2, r3, r4⟩ := run_spec bb n isBl hp
  unfold tok
  generalize run bb n isBl p = q at *
  by_cases hq : q < n
  · rw [if_pos hq]
    by_cases hL : isLt (bb q) = true
    · rw [if_pos hL]
      obtain ⟨s1, s2, s3, s4⟩ := run_spec bb n isLt (p := q) (by omega)
      generalize hr : run bb n isLt q = r at *
      have hlt : q < r := by
        rcases Nat.lt_or_ge q r with h | h
        · exact h
        · have : r = q := by omega
          rw [this] at s4
          have := s4 hq
          rw [hL] at this; cases this
      refine ⟨⟨s1, by show r ≤ 700; omega, lets_len _ _ _, by rw [lets_len]; omega, lets_ok bb q (r - q) (fun k x y => s3 k x (by omega))⟩, r1, s2, fun _ => hlt⟩
    · rw [if_neg hL]
      by_cases hD : isDg (bb q) = true
      · rw [if_pos hD]
        obtain ⟨s1, s2, s3, s4⟩ := run_spec bb n isDg (p := q) (by omega)
        generalize hr : run bb n isDg q = r at *
        have hlt : q < r := by
          rcases Nat.lt_or_ge q r with h | h
          · exact h
          · have : r = q := by omega
            rw [this] at s4
            have := s4 hq
            rw [hD] at this; cases this
        refine ⟨⟨s1, by show r ≤ 700; omega, fun h3 => ?_⟩, r1, s2, fun _ => hlt⟩
        have h3 : r - q ≤ 3 := h3
        have h5 := dec_lt bb q (r - q) (fun k x y => s3 k x (by omega))
        have h6 := pow_le_10 h3
        show dec bb q (r - q) ≤ 999
        omega
      · rw [if_neg hD]
        exact ⟨⟨by show q ≤ q + 1; omega, by show q + 1 ≤ 700; omega, hb q hq⟩, r1, by show q + 1 ≤ n; omega, fun _ => by show q < q + 1; omega⟩
  · rw [if_neg hq]
    exact ⟨⟨Nat.le_refl _, by show q ≤ 700; omega, trivial⟩, r1, r2, fun h => absurd rfl h⟩
/-- the class: is the piece this word -/
theorem isWord_x {u : llMem} {t : Tk} (h : CT u t) (ht : TkOk t) {k : List Nat} (hk : ∀ a ∈ k, a < 26) (hk7 : k.length ≤ 7) {z : Int64} (hz : z = lN (p8 k)) : fx_X9_isWord_1 u z = some (if t.2.2 = some (.inl k) then 1 else 0) := by
  obtain ⟨-, -, h3⟩ := h
  obtain ⟨-, -, t3⟩ := ht
  unfold fx_X9_isWord_1
  cases hx : t.2.2 with
  | none =>
    rw [hx] at h3
    rw [h3, if_pos (by decide), gB_0, if_neg (by simp)]
  | some y =>
    rw [hx] at h3 t3
    cases y with
    | inl w =>
      obtain ⟨w1, w2, w3⟩ := t3
      by_cases h7 : w.length ≤ 7
      · simp only [if_pos h7] at h3
        rw [h3.1, if_neg (by simp), h3.2, hz]
        by_cases e : w = k
        · rw [if_neg (by rw [e]; intro q; exact q (lg_eq.mpr rfl)), gB_1, if_pos (by rw [e])]
        · rw [if_pos (fun q => e (p8_inj w3 hk ((pk_lEQ (by have := p8_lt w3 h7; omega) (by have := p8_lt hk hk7; omega)).mp (lg_eq.mp q)))), gB_0, if_neg (by intro q; exact e (by injection q with q; injection q))]
      · simp only [if_neg h7] at h3
        rw [h3, if_pos (by decide), gB_0, if_neg (by intro q; injection q with q; injection q with q; rw [q] at h7; exact h7 hk7)]
    | inr y =>
      cases y with
      | inl v =>
        by_cases h7 : t.2.1 - t.1 ≤ 3
        · simp only [if_pos h7] at h3
          rw [h3.1, if_pos (by decide), gB_0, if_neg (by simp)]
        · simp only [if_neg h7] at h3
          rw [h3, if_pos (by decide), gB_0, if_neg (by simp)]
      | inr v =>
        rw [h3.1, if_pos (by decide), gB_0, if_neg (by simp)]
theorem isSign_x {u : llMem} {t : Tk} (h : CT u t) (ht : TkOk t) {k : Nat} (hk : k < 256) {z : Int32} (hz : z = nI k) : fx_X9_isSign_1 u z = some (if t.2.2 = some (.inr (.inr k)) then 1 else 0) := by
  obtain ⟨-, -, h3⟩ := h
  obtain ⟨-, -, t3⟩ := ht
  unfold fx_X9_isSign_1
  cases hx : t.2.2 with
  | none =>
    rw [hx] at h3
    rw [h3, if_pos (by decide), gB_0, if_neg (by simp)]
  | some y =>
    rw [hx] at h3 t3
    cases y with
    | inl w =>
      by_cases h7 : w.length ≤ 7
      · simp only [if_pos h7] at h3
        rw [h3.1, if_pos (by decide), gB_0, if_neg (by simp)]
      · simp only [if_neg h7] at h3
        rw [h3, if_pos (by decide), gB_0, if_neg (by simp)]
    | inr y =>
      cases y with
      | inl v =>
        by_cases h7 : t.2.1 - t.1 ≤ 3
        · simp only [if_pos h7] at h3
          rw [h3.1, if_pos (by decide), gB_0, if_neg (by simp)]
        · simp only [if_neg h7] at h3
          rw [h3, if_pos (by decide), gB_0, if_neg (by simp)]
      | inr v =>
        have t3 : v < 256 := t3
        rw [h3.1, if_neg (by simp), h3.2, hz]
        by_cases e : v = k
        · rw [if_neg (by rw [e]; simp), gB_1, if_pos (by rw [e])]
        · rw [if_pos (fun q => e ((nI_eq (by omega) (by omega)).mp q)), gB_0, if_neg (by simp [e])]
/-- is the piece a name -/
def isNm (t : Tk) : Prop := ∃ w, t.2.2 = some (.inl w) ∧ w.length ≤ 7 ∧ w ∉ kws
theorem isNm_dec (t : Tk) : isNm t ∨ ¬ isNm t := Classical.em _
theorem kw8 : p8 (kw 0) = 465558725996 ∧ p8 (kw 1) = 28518 ∧ p8 (kw 2) = 1685026670 ∧ p8 (kw 3) = 1852138852 ∧ p8 (kw 4) = 1668052322 ∧ p8 (kw 5) = 444300616805 ∧ p8 (kw 6) = 26990 := by decide
theorem kws_mem {w : List Nat} : w ∈ kws ↔ w = kw 0 ∨ w = kw 1 ∨ w = kw 2 ∨ w = kw 3 ∨ w = kw 4 ∨ w = kw 5 ∨ w = kw 6 := by
  simp [kws, kw]
theorem lg_kw {w : List Nat} (h : ∀ a ∈ w, a < 26) (h7 : w.length ≤ 7) {j : Nat} (hj : j < 7) {z : Int64} (hz : z = lN (p8 (kw j))) : lg_cmp (lN (p8 w)) z = 0 ↔ w = kw j := by
  obtain ⟨k1, k2, k3, k4⟩ := kw_ok j hj
  rw [lg_eq, hz, pk_lEQ (by have := p8_lt h h7; omega) (by have := p8_lt k3 k1; omega)]
  exact ⟨fun e => p8_inj h k3 e, fun e => by rw [e]⟩
theorem isName_x {u : llMem} {t : Tk} (h : CT u t) (ht : TkOk t) : (isNm t → fx_X9_isName_1 u = some 1) ∧ (¬ isNm t → fx_X9_isName_1 u = some 0) := by
  obtain ⟨-, -, h3⟩ := h
  obtain ⟨-, -, t3⟩ := ht
  cases hx : t.2.2 with
  | none =>
    rw [hx] at h3
    refine ⟨fun ⟨w, e, _⟩ => (by rw [hx] at e; cases e), fun _ => ?_⟩
    unfold fx_X9_isName_1
    rw [h3, if_pos (by decide), gB_0]
  | some y =>
    rw [hx] at h3 t3
    cases y with
    | inl w =>
      obtain ⟨w1, w2, w3⟩ := t3
      by_cases h7 : w.length ≤ 7
      · simp only [if_pos h7] at h3
        have e1 := lg_kw w3 h7 (j := 0) (z := 465558725996) (by decide) (by rw [kw8.1]; rfl)
        have e2 := lg_kw w3 h7 (j := 1) (z := 28518) (by decide) (by rw [kw8.2.1]; rfl)
        have e3 := lg_kw w3 h7 (j := 2) (z := 1685026670) (by decide) (by rw [kw8.2.2.1]; rfl)
        have e4 := lg_kw w3 h7 (j := 3) (z := 1852138852) (by decide) (by rw [kw8.2.2.2.1]; rfl)
        have e5 := lg_kw w3 h7 (j := 4) (z := 1668052322) (by decide) (by rw [kw8.2.2.2.2.1]; rfl)
        have e6 := lg_kw w3 h7 (j := 5) (z := 444300616805) (by decide) (by rw [kw8.2.2.2.2.2.1]; rfl)
        have e7 := lg_kw w3 h7 (j := 6) (z := 26990) (by decide) (by rw [kw8.2.2.2.2.2.2]; rfl)
        unfold fx_X9_isName_1
        rw [h3.1, if_neg (by simp), h3.2]
        refine ⟨fun ⟨v, e, _, hv⟩ => ?_, fun hn => ?_⟩
        · rw [hx] at e
          injection e with e
          injection e with e
          rw [← e, kws_mem] at hv
          rw [if_neg (fun q => hv (Or.inl (e1.mp q))), if_neg (fun q => hv (Or.inr (Or.inl (e2.mp q)))), if_neg (fun q => hv (Or.inr (Or.inr (Or.inl (e3.mp q))))), if_neg (fun q => hv (Or.inr (Or.inr (Or.inr (Or.inl (e4.mp q)))))), if_neg (fun q => hv (Or.inr (Or.inr (Or.inr (Or.inr (Or.inl (e5.mp q))))))), if_neg (fun q => hv (Or.inr (Or.inr (Or.inr (Or.inr (Or.inr (Or.inl (e6.mp q)))))))), if_neg (fun q => hv (Or.inr (Or.inr (Or.inr (Or.inr (Or.inr (Or.inr (e7.mp q)))))))), gB_1]
        · have hm : w ∈ kws := by
            rcases Classical.em (w ∈ kws) with q | q
            · exact q
            · exact absurd ⟨w, hx, h7, q⟩ hn
          simp only [gB_0, gB_1]
          rw [kws_mem] at hm
          rcases hm with hm | hm | hm | hm | hm | hm | hm
          · rw [if_pos (e1.mpr hm)]
          · rw [if_pos (e2.mpr hm)]; simp only [ite_self]
          · rw [if_pos (e3.mpr hm)]; simp only [ite_self]
          · rw [if_pos (e4.mpr hm)]; simp only [ite_self]
          · rw [if_pos (e5.mpr hm)]; simp only [ite_self]
          · rw [if_pos (e6.mpr hm)]; simp only [ite_self]
          · rw [if_pos (e7.mpr hm)]; simp only [ite_self]
      · simp only [if_neg h7] at h3
        refine ⟨fun ⟨v, e, h8, _⟩ => ?_, fun _ => ?_⟩
        · rw [hx] at e
          injection e with e
          injection e with e
          rw [← e] at h8
          exact absurd h8 h7
        · unfold fx_X9_isName_1
          rw [h3, if_pos (by decide), gB_0]
    | inr y =>
      refine ⟨fun ⟨w, e, _⟩ => (by rw [hx] at e; injection e with e; cases e), fun _ => ?_⟩
      unfold fx_X9_isName_1
      cases y with
      | inl v =>
        by_cases h7 : t.2.1 - t.1 ≤ 3
        · simp only [if_pos h7] at h3
          rw [h3.1, if_pos (by decide), gB_0]
        · simp only [if_neg h7] at h3
          rw [h3, if_pos (by decide), gB_0]
      | inr v =>
        rw [h3.1, if_pos (by decide), gB_0]
