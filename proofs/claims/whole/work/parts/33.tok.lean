/-! pieces of a text -/
def isBl (b : Nat) : Bool := b == 32 || b == 10
def isLt (b : Nat) : Bool := decide (97 ≤ b) && decide (b ≤ 122)
def isDg (b : Nat) : Bool := decide (48 ≤ b) && decide (b ≤ 57)
def rto (P : Nat → Bool) : Nat → Nat → Nat
  | 0, p => p
  | f + 1, p => if P p then rto P f (p + 1) else p
theorem rto_spec (P : Nat → Bool) : ∀ (f p : Nat), p ≤ rto P f p ∧ rto P f p ≤ p + f ∧ (∀ k, p ≤ k → k < rto P f p → P k = true) ∧ (rto P f p < p + f → P (rto P f p) = false)
  | 0, p => ⟨Nat.le_refl _, Nat.le_refl _, fun k h1 h2 => by unfold rto at h2; omega, fun h => by unfold rto at h; omega⟩
  | f + 1, p => by
    unfold rto
    by_cases hP : P p = true
    · rw [if_pos hP]
      obtain ⟨h1, h2, h3, h4⟩ := rto_spec P f (p + 1)
      refine ⟨by omega, by omega, fun k h5 h6 => ?_, fun h => h4 (by omega)⟩
      by_cases hk : k = p
      · rw [hk]; exact hP
      · exact h3 k (by omega) h6
    · rw [if_neg hP]
      exact ⟨Nat.le_refl _, by omega, fun k h1 h2 => by omega, fun _ => by simpa using hP⟩
def run (bb : Nat → Nat) (n : Nat) (Q : Nat → Bool) (p : Nat) : Nat := rto (fun k => Q (bb k)) (n - p) p
theorem run_spec (bb : Nat → Nat) (n : Nat) (Q : Nat → Bool) {p : Nat} (hp : p ≤ n) : p ≤ run bb n Q p ∧ run bb n Q p ≤ n ∧ (∀ k, p ≤ k → k < run bb n Q p → Q (bb k) = true) ∧ (run bb n Q p < n → Q (bb (run bb n Q p)) = false) := by
  obtain ⟨h1, h2, h3, h4⟩ := rto_spec (fun k => Q (bb k)) (n - p) p
  exact ⟨h1, by unfold run; omega, h3, fun h => h4 (by unfold run at h; omega)⟩
def lets (bb : Nat → Nat) (q : Nat) : Nat → List Nat
  | 0 => []
  | k + 1 => lets bb q k ++ [bb (q + k) - 97]
theorem lets_len (bb : Nat → Nat) (q : Nat) : ∀ k, (lets bb q k).length = k
  | 0 => rfl
  | k + 1 => by simp [lets, lets_len bb q k]
def dec (bb : Nat → Nat) (q : Nat) : Nat → Nat
  | 0 => 0
  | k + 1 => dec bb q k * 10 + (bb (q + k) - 48)
/-- the piece that stands next from p on: its place, its end, what it is (a word's letters, a number, a sign; nothing at the end) -/
def tok (bb : Nat → Nat) (n p : Nat) : Nat × Nat × Option (List Nat ⊕ (Nat ⊕ Nat)) :=
  if run bb n isBl p < n then
    if isLt (bb (run bb n isBl p)) then (run bb n isBl p, run bb n isLt (run bb n isBl p), some (.inl (lets bb (run bb n isBl p) (run bb n isLt (run bb n isBl p) - run bb n isBl p))))
    else if isDg (bb (run bb n isBl p)) then (run bb n isBl p, run bb n isDg (run bb n isBl p), some (.inr (.inl (dec bb (run bb n isBl p) (run bb n isDg (run bb n isBl p) - run bb n isBl p)))))
    else (run bb n isBl p, run bb n isBl p + 1, some (.inr (.inr (bb (run bb n isBl p)))))
  else (run bb n isBl p, run bb n isBl p, none)
/-- the class's tape holds the bytes; the reference's -/
def TX (u : llMem) (bb : Nat → Nat) (n : Nat) : Prop := n ≤ 700 ∧ u.1 1 1 = nI n ∧ ∀ k, k < n → u.1 2 k = nI (bb k) ∧ bb k < 256
def TM (u : llMem) (bb : Nat → Nat) (n : Nat) : Prop := n ≤ 700 ∧ u.1 69 16 = nI n ∧ ∀ k, k < n → u.1 79 k = nI (bb k) ∧ bb k < 256
/-- what the class has of the piece read last; the reference -/
def CT (u : llMem) (t : Nat × Nat × Option (List Nat ⊕ (Nat ⊕ Nat))) : Prop := u.1 1 3 = nI t.1 ∧ u.1 1 9 = nI t.2.1 ∧ match t.2.2 with
  | none => u.1 1 2 = 0
  | some (.inl w) => if w.length ≤ 7 then u.1 1 2 = 1 ∧ u.2.1 1 6 = lN (p8 w) else u.1 1 2 = 4
  | some (.inr (.inl v)) => if t.2.1 - t.1 ≤ 3 then u.1 1 2 = 2 ∧ u.1 1 4 = nI v else u.1 1 2 = 4
  | some (.inr (.inr s)) => u.1 1 2 = 3 ∧ u.1 1 5 = nI s
def MT (u : llMem) (t : Nat × Nat × Option (List Nat ⊕ (Nat ⊕ Nat))) : Prop := u.1 69 22 = nI t.1 ∧ u.1 69 23 = nI t.2.1 ∧ match t.2.2 with
  | none => u.1 69 21 = 0
  | some (.inl w) => u.1 69 21 = 1 ∧ (w.length ≤ 7 → u.2.1 69 24 = lN (p5 w))
  | some (.inr (.inl v)) => u.1 69 21 = 2 ∧ (t.2.1 - t.1 ≤ 3 → u.1 69 25 = nI v)
  | some (.inr (.inr s)) => u.1 69 21 = 3 ∧ u.1 69 26 = nI s
theorem TX.rd {u : llMem} {bb : Nat → Nat} {n : Nat} (h : TX u bb n) {k : Nat} (hk : k < n) : rI u 2 (nI k) = nI (bb k) := by
  unfold rI; rw [nI_clamp (by have := h.1; omega)]; exact (h.2.2 k hk).1
theorem TM.rd {u : llMem} {bb : Nat → Nat} {n : Nat} (h : TM u bb n) {k : Nat} (hk : k < n) : rI u 79 (nI k) = nI (bb k) := by
  unfold rI; rw [nI_clamp (by have := h.1; omega)]; exact (h.2.2 k hk).1
/-- only places ks of cell c have changed among the ints, and the longs of that cell -/
def SmF (c : Nat) (ks : List Nat) (u u' : llMem) : Prop := (∀ i, i ≠ c → u'.1 i = u.1 i ∧ u'.2.1 i = u.2.1 i ∧ u'.2.2 i = u.2.2 i) ∧ ∀ k, k ∉ ks → u'.1 c k = u.1 c k
theorem SmF.refl (c : Nat) (ks : List Nat) (u : llMem) : SmF c ks u u := ⟨fun _ _ => ⟨rfl, rfl, rfl⟩, fun _ _ => rfl⟩
theorem SmF.trans {c : Nat} {ks : List Nat} {u v w : llMem} (h1 : SmF c ks u v) (h2 : SmF c ks v w) : SmF c ks u w := ⟨fun i hi => by
  obtain ⟨a1, a2, a3⟩ := h1.1 i hi
  obtain ⟨b1, b2, b3⟩ := h2.1 i hi
  exact ⟨b1.trans a1, b2.trans a2, b3.trans a3⟩, fun k hk => (h2.2 k hk).trans (h1.2 k hk)⟩
theorem SmF.SI {c : Nat} {ks : List Nat} {u : llMem} {k : Nat} {v : Int32} (h : k ∈ ks) : SmF c ks u (llSI u c k v) := ⟨fun i hi => llSA_ne i hi, fun j hj => by rw [SI_same]; exact upd_ne (fun e => hj (e ▸ h))⟩
theorem SmF.SL {c : Nat} {ks : List Nat} {u : llMem} {k : Nat} {v : Int64} : SmF c ks u (llSL u c k v) := ⟨fun i hi => llSLA_ne i hi, fun _ _ => rfl⟩
theorem SmF.mono {c : Nat} {ks ks' : List Nat} {u v : llMem} (h : SmF c ks u v) (hk : ∀ k, k ∈ ks → k ∈ ks') : SmF c ks' u v := ⟨h.1, fun k hn => h.2 k (fun hx => hn (hk k hx))⟩
theorem TX.of {u u' : llMem} {bb : Nat → Nat} {n : Nat} {ks : List Nat} (h : TX u bb n) (hs : SmF 1 ks u u') (hk : 1 ∉ ks) : TX u' bb n := ⟨h.1, by rw [hs.2 1 hk]; exact h.2.1, fun k hk2 => by rw [(hs.1 2 (by decide)).1]; exact h.2.2 k hk2⟩
theorem TM.of {u u' : llMem} {bb : Nat → Nat} {n : Nat} {ks : List Nat} (h : TM u bb n) (hs : SmF 69 ks u u') (hk : 16 ∉ ks) : TM u' bb n := ⟨h.1, by rw [hs.2 16 hk]; exact h.2.1, fun k hk2 => by rw [(hs.1 79 (by decide)).1]; exact h.2.2 k hk2⟩
theorem nI_eqL {a b : Nat} {x : Int32} (ha : a < 2 ^ 31) (hb : b < 2 ^ 31) (hx : x = nI b) : nI a = x ↔ a = b := by rw [hx]; exact nI_eq ha hb
/-- the class: blanks are passed -/
theorem nextL_x (u : llMem) (bb : Nat → Nat) (n p : Nat) (hT : TX u bb n) (hp : p ≤ n) (hat : u.1 1 9 = nI p) : ∃ e, loop fx_X9_next_1_l0 llFuel u = some e ∧ SmF 1 [9] u e ∧ e.1 1 9 = nI (run bb n isBl p) ∧ e.2 = u.2 := by
  obtain ⟨r1, r2, r3, r4⟩ := run_spec bb n isBl hp
  have h700 := hT.1
  refine loop_inv (fun i s => SmF 1 [9] u s ∧ s.1 1 9 = nI (p + i) ∧ s.2 = u.2) _ (run bb n isBl p - p) llFuel u ⟨SmF.refl _ _ _, by rw [Nat.add_zero]; exact hat, rfl⟩ ?_ ?_ (by unfold llFuel; omega)
  · intro i s hi ⟨a1, a2, a3⟩
    have hT' := hT.of a1 (by decide)
    have hlt : p + i < n := by omega
    have hb := r3 (p + i) (by omega) (by omega)
    have hrd := hT'.rd hlt
    have hb256 := (hT.2.2 (p + i) hlt).2
    refine ⟨llSI s 1 9 (nI (p + i) + 1), ?_, a1.trans (SmF.SI (by simp)), by rw [SI_same, upd_same, nI_1, Nat.add_assoc], a3⟩
    unfold fx_X9_next_1_l0 fx_X9_next_1_j39_b0
    simp only [lt_eq]
    rw [a2, hT'.2.1, if_neg (fun q => absurd ((nI_leI (by omega) (by omega)).mp q) (by omega)), gI_nI (by omega) (by decide), hrd]
    simp only [isBl, Bool.or_eq_true, beq_iff_eq] at hb
    rcases hb with hb | hb
    · rw [if_pos (by rw [hb]; decide)]
    · rw [if_neg (by rw [hb]; decide), gI_nI (by omega) (by decide), if_neg (by rw [hb]; decide)]
  · intro s ⟨a1, a2, a3⟩
    have hT' := hT.of a1 (by decide)
    rw [show p + (run bb n isBl p - p) = run bb n isBl p by omega] at a2
    refine ⟨s, ?_, a1, a2, a3⟩
    unfold fx_X9_next_1_l0
    rw [a2, hT'.2.1]
    by_cases hlt : run bb n isBl p < n
    · have hb := r4 hlt
      have hrd := hT'.rd hlt
      have hb256 := (hT.2.2 _ hlt).2
      simp only [isBl, Bool.or_eq_false_iff, beq_eq_false_iff_ne] at hb
      rw [if_neg (nle2 (by omega) (by omega) hlt), gI_nI (by omega) (by decide), hrd, if_neg (neL 32 (by omega) (by decide) hb.1), gI_nI (by omega) (by decide), if_pos (neL 10 (by omega) (by decide) hb.2)]
    · rw [if_pos (le2 (by omega) (by omega) (by omega))]
theorem lN_tn {n : Nat} (h : n < 2 ^ 64) : (lN n).toBitVec.toNat = n := by
  show (BitVec.ofNat 64 n).toNat = n
  rw [BitVec.toNat_ofNat]
  exact Nat.mod_eq_of_lt h
/-- words as Int64: shift and or -/
theorem lN_shl8 {a b : Nat} (ha : a < 2 ^ 48) (hb : b < 256) : (lN a <<< (Int32.toInt64 8 &&& 63)) ||| (Int32.toInt64 (nI b)) = lN (a * 256 + b) := by
  have e1 : (Int32.toInt64 8 &&& 63) = (8 : Int64) := by decide
  rw [e1, nI_l (by omega)]
  apply Int64.toBitVec_inj.mp
  rw [Int64.toBitVec_or, Int64.toBitVec_shiftLeft]
  apply BitVec.eq_of_toNat_eq
  have e2 : ((8 : Int64).toBitVec.smod 64).toNat = 8 := by decide
  have n1 := lN_tn (n := a) (by omega)
  have n2 := lN_tn (n := b) (by omega)
  have n3 := lN_tn (n := a * 256 + b) (by omega)
  rw [BitVec.toNat_or, n2, n3]
  show (((lN a).toBitVec <<< ((8 : Int64).toBitVec.smod 64)).toNat ||| b) = _
  rw [BitVec.shiftLeft_eq', e2, BitVec.toNat_shiftLeft, n1, Nat.shiftLeft_eq]
  rw [Nat.mod_eq_of_lt (by omega)]
  have := Nat.shiftLeft_add_eq_or_of_lt (i := 8) (b := b) (by omega) a
  rw [Nat.shiftLeft_eq] at this
  rw [← this]
