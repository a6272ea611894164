theorem CT.at {u : llMem} {t : Tk} (h : CT u t) : u.1 1 9 = nI t.2.1 := h.2.1
theorem tokD {bb : Nat → Nat} {n p : Nat} {u : llMem} (hT : TX u bb n) (hp : p ≤ n) : TkOk (tok bb n p) ∧ p ≤ (tok bb n p).1 ∧ (tok bb n p).2.1 ≤ n ∧ ((tok bb n p).2.2 ≠ none → (tok bb n p).1 < (tok bb n p).2.1) := tok_ok bb n p hp hT.1 (fun k hk => (hT.2.2 k hk).2)
theorem tokDM {bb : Nat → Nat} {n p : Nat} {u : llMem} (hT : TM u bb n) (hp : p ≤ n) : TkOk (tok bb n p) ∧ p ≤ (tok bb n p).1 ∧ (tok bb n p).2.1 ≤ n ∧ ((tok bb n p).2.2 ≠ none → (tok bb n p).1 < (tok bb n p).2.1) := tok_ok bb n p hp hT.1 (fun k hk => (hT.2.2 k hk).2)
/-- the class: a fault -/
def FX (u : llMem) (k : Int32) (pl : Nat) : Prop := u.1 1 7 = k ∧ u.1 1 8 = nI pl
def FM (u : llMem) (k : Int32) (pl : Nat) : Prop := u.1 69 19 = k ∧ u.1 69 20 = nI pl
theorem fail_x (u : llMem) (k : Int32) (pl : Nat) (h : u.1 1 3 = nI pl) : ∃ u', fx_X9_fail_1 u k = some (u', 0) ∧ SmF 1 [7, 8] u u' ∧ FX u' k pl := by
  unfold fx_X9_fail_1
  simp only [lt_eq, gB_0]
  refine ⟨_, rfl, (SmF.SI (by simp)).trans (SmF.SI (by simp)), ?_, ?_⟩
  · rw [SI_same, upd_ne (by decide), SI_same, upd_same]
  · rw [SI_same, upd_same, SI_same, upd_ne (by decide)]; exact h
theorem fails_m (u : llMem) (k : Int32) (pl : Nat) (h : u.1 69 22 = nI pl) (h0 : u.1 69 19 = 0) : ∃ u', fx_X12_fails_69 u k = some (u', 0) ∧ SmF 69 [19, 20] u u' ∧ FM u' k pl := by
  unfold fx_X12_fails_69
  rw [h0, if_neg (by simp)]
  simp only [lt_eq, gB_0]
  refine ⟨_, rfl, (SmF.SI (by simp)).trans (SmF.SI (by simp)), ?_, ?_⟩
  · rw [SI_same, upd_ne (by decide), SI_same, upd_same]
  · rw [SI_same, upd_same, SI_same, upd_ne (by decide)]; exact h
/-- what a reading step of the class changes in its own cell -/
abbrev kX : List Nat := [2, 3, 4, 5, 7, 8, 9]
abbrev kM : List Nat := [19, 20, 21, 22, 23, 25, 26, 27]
theorem takeWord_x {u : llMem} {bb : Nat → Nat} {n p : Nat} (hT : TX u bb n) (hp : p ≤ n) (hat : u.1 1 9 = nI p) {k : List Nat} (hk : ∀ a ∈ k, a < 26) (hk7 : k.length ≤ 7) {z : Int64} (hz : z = lN (p8 k)) :
    ((tok bb n p).2.2 = some (.inl k) → ∃ u', fx_X9_takeWord_1 u z = some (u', 1) ∧ SmF 1 kX u u' ∧ u'.1 1 7 = u.1 1 7 ∧ u'.1 1 8 = u.1 1 8 ∧ CT u' (tok bb n p)) ∧
    (¬ (tok bb n p).2.2 = some (.inl k) → ∃ u', fx_X9_takeWord_1 u z = some (u', 0) ∧ SmF 1 kX u u' ∧ FX u' 1 (tok bb n p).1) := by
  obtain ⟨v, e1, e2, e3⟩ := next_x u bb n p hT hp hat
  have hd := tokD hT hp
  have hw := isWord_x e3 hd.1 hk hk7 hz
  unfold fx_X9_takeWord_1 fx_X9_takeWord_1_j20
  rw [e1, bd_eq, hw]
  simp only [Option.bind_some, gB_0, gB_1]
  refine ⟨fun h => ?_, fun h => ?_⟩
  · rw [if_pos h, if_pos (by decide)]
    exact ⟨v, rfl, e2.mono (by simp), e2.2 7 (by decide), e2.2 8 (by decide), e3⟩
  · rw [if_neg h, if_neg (by simp)]
    obtain ⟨w, f1, f2, f3⟩ := fail_x v 1 _ e3.1
    rw [f1, bd_eq]
    refine ⟨w, ?_, (e2.mono (by simp)).trans (f2.mono (by simp)), f3⟩
    simp
theorem takeSign_x {u : llMem} {bb : Nat → Nat} {n p : Nat} (hT : TX u bb n) (hp : p ≤ n) (hat : u.1 1 9 = nI p) {k : Nat} (hk : k < 256) {z : Int32} (hz : z = nI k) :
    ((tok bb n p).2.2 = some (.inr (.inr k)) → ∃ u', fx_X9_takeSign_1 u z = some (u', 1) ∧ SmF 1 kX u u' ∧ u'.1 1 7 = u.1 1 7 ∧ u'.1 1 8 = u.1 1 8 ∧ CT u' (tok bb n p)) ∧
    (¬ (tok bb n p).2.2 = some (.inr (.inr k)) → ∃ u', fx_X9_takeSign_1 u z = some (u', 0) ∧ SmF 1 kX u u' ∧ FX u' 1 (tok bb n p).1) := by
  obtain ⟨v, e1, e2, e3⟩ := next_x u bb n p hT hp hat
  have hd := tokD hT hp
  have hw := isSign_x e3 hd.1 hk hz
  unfold fx_X9_takeSign_1 fx_X9_takeSign_1_j20
  rw [e1, bd_eq, hw]
  simp only [Option.bind_some, gB_0, gB_1]
  refine ⟨fun h => ?_, fun h => ?_⟩
  · rw [if_pos h, if_pos (by decide)]
    exact ⟨v, rfl, e2.mono (by simp), e2.2 7 (by decide), e2.2 8 (by decide), e3⟩
  · rw [if_neg h, if_neg (by simp)]
    obtain ⟨w, f1, f2, f3⟩ := fail_x v 1 _ e3.1
    rw [f1, bd_eq]
    refine ⟨w, ?_, (e2.mono (by simp)).trans (f2.mono (by simp)), f3⟩
    simp
theorem takeName_x {u : llMem} {bb : Nat → Nat} {n p : Nat} (hT : TX u bb n) (hp : p ≤ n) (hat : u.1 1 9 = nI p) :
    (isNm (tok bb n p) → ∃ u', fx_X9_takeName_1 u = some (u', 1) ∧ SmF 1 kX u u' ∧ u'.1 1 7 = u.1 1 7 ∧ u'.1 1 8 = u.1 1 8 ∧ CT u' (tok bb n p)) ∧
    (¬ isNm (tok bb n p) → ∃ u', fx_X9_takeName_1 u = some (u', 0) ∧ SmF 1 kX u u' ∧ FX u' 1 (tok bb n p).1) := by
  obtain ⟨v, e1, e2, e3⟩ := next_x u bb n p hT hp hat
  have hd := tokD hT hp
  have hw := isName_x e3 hd.1
  unfold fx_X9_takeName_1 fx_X9_takeName_1_j19
  rw [e1, bd_eq]
  refine ⟨fun h => ?_, fun h => ?_⟩
  · rw [hw.1 h]
    simp only [Option.bind_some, gB_0, gB_1]
    rw [if_pos (by decide)]
    exact ⟨v, rfl, e2.mono (by simp), e2.2 7 (by decide), e2.2 8 (by decide), e3⟩
  · rw [hw.2 h]
    simp only [Option.bind_some, gB_0, gB_1]
    obtain ⟨w, f1, f2, f3⟩ := fail_x v 1 _ e3.1
    rw [f1, bd_eq]
    refine ⟨w, ?_, (e2.mono (by simp)).trans (f2.mono (by simp)), f3⟩
    simp
/-- a number that may stand there -/
def isNum (t : Tk) (v : Nat) : Prop := t.2.2 = some (.inr (.inl v)) ∧ t.2.1 - t.1 ≤ 3
theorem takeNumber_x {u : llMem} {bb : Nat → Nat} {n p : Nat} (hT : TX u bb n) (hp : p ≤ n) (hat : u.1 1 9 = nI p) (a0 a1 : Int32) :
    (∀ v, isNum (tok bb n p) v → ¬ nI v < a0 → nI v ≤ a1 → ∃ u', fx_X9_takeNumber_1 u a0 a1 = some (u', nI v) ∧ SmF 1 kX u u' ∧ u'.1 1 7 = u.1 1 7 ∧ u'.1 1 8 = u.1 1 8 ∧ CT u' (tok bb n p)) ∧
    (∀ v, isNum (tok bb n p) v → (nI v < a0 ∨ ¬ nI v ≤ a1) → ∃ u', fx_X9_takeNumber_1 u a0 a1 = some (u', -1) ∧ SmF 1 kX u u' ∧ FX u' 3 (tok bb n p).1) ∧
    ((∀ v, ¬ isNum (tok bb n p) v) → ∃ u', fx_X9_takeNumber_1 u a0 a1 = some (u', -1) ∧ SmF 1 kX u u' ∧ FX u' 1 (tok bb n p).1) := by
  obtain ⟨w, e1, e2, e3⟩ := next_x u bb n p hT hp hat
  have hd := tokD hT hp
  have e3' := e3
  obtain ⟨c1, c2, c3⟩ := e3'
  unfold fx_X9_takeNumber_1 fx_X9_takeNumber_1_j36
  rw [e1, bd_eq]
  refine ⟨fun v hv h1 h2 => ?_, fun v hv h1 => ?_, fun hv => ?_⟩
  · rw [hv.1] at c3
    simp only [if_pos hv.2] at c3
    rw [if_pos c3.1, c3.2, if_neg h1, if_pos h2]
    exact ⟨w, rfl, e2.mono (by simp), e2.2 7 (by decide), e2.2 8 (by decide), e3⟩
  · rw [hv.1] at c3
    simp only [if_pos hv.2] at c3
    obtain ⟨z, f1, f2, f3⟩ := fail_x w 3 _ c1
    rw [if_pos c3.1, c3.2, f1, bd_eq]
    refine ⟨z, ?_, (e2.mono (by simp)).trans (f2.mono (by simp)), f3⟩
    rcases h1 with h1 | h1
    · rw [if_pos h1]
    · rw [if_neg h1]; simp only [ite_self]
  · have h2 : ¬ w.1 1 2 = 2 := by
      cases hx : (tok bb n p).2.2 with
      | none => rw [hx] at c3; rw [c3]; decide
      | some y =>
        rw [hx] at c3
        cases y with
        | inl s =>
          by_cases h7 : s.length ≤ 7
          · simp only [if_pos h7] at c3; rw [c3.1]; decide
          · simp only [if_neg h7] at c3; rw [c3]; decide
        | inr y =>
          cases y with
          | inl s =>
            by_cases h7 : (tok bb n p).2.1 - (tok bb n p).1 ≤ 3
            · exact absurd ⟨hx, h7⟩ (hv s)
            · simp only [if_neg h7] at c3; rw [c3]; decide
          | inr s => rw [c3.1]; decide
    obtain ⟨z, f1, f2, f3⟩ := fail_x w 1 _ c1
    rw [if_neg h2, f1, bd_eq]
    exact ⟨z, rfl, (e2.mono (by simp)).trans (f2.mono (by simp)), f3⟩
theorem i64_le {a b : Int32} : Int32.toInt64 a ≤ Int32.toInt64 b ↔ a ≤ b := by
  rw [Int64.le_iff_toInt_le, Int32.le_iff_toInt_le, Int32.toInt_toInt64, Int32.toInt_toInt64]
theorem MT.len {u : llMem} {t : Tk} (h : MT u t) (ht : TkOk t) : (u.1 69 23) - (u.1 69 22) = nI (t.2.1 - t.1) := by rw [h.1, h.2.1, pk_sub ht.1]
theorem MT.sort {u : llMem} {t : Tk} (h : MT u t) : (u.1 69 21 = 2 ↔ ∃ v, t.2.2 = some (.inr (.inl v))) ∧ (u.1 69 21 = 3 ↔ ∃ v, t.2.2 = some (.inr (.inr v))) ∧ (u.1 69 21 = 0 ↔ t.2.2 = none) := by
  obtain ⟨-, -, h3⟩ := h
  cases hx : t.2.2 with
  | none => rw [hx] at h3; rw [h3]; simp
  | some y =>
    rw [hx] at h3
    cases y with
    | inl w => rw [h3.1]; simp
    | inr y =>
      cases y with
      | inl w => rw [h3.1]; simp
      | inr w => rw [h3.1]; simp
/-- the reference: a word, a sign, a number is taken; it stands at the piece at p -/
theorem takesSign_m {u : llMem} {bb : Nat → Nat} {n p : Nat} (hT : TM u bb n) (hp : p ≤ n) (hM : MT u (tok bb n p)) (h0 : u.1 69 19 = 0) {k : Nat} (hk : k < 256) {z : Int32} (hz : z = nI k) :
    ((tok bb n p).2.2 = some (.inr (.inr k)) → ∃ u', fx_X12_takesSign_69 u z = some (u', 1) ∧ SmF 69 kM u u' ∧ u'.1 69 19 = 0 ∧ u'.1 69 20 = u.1 69 20 ∧ MT u' (tok bb n (tok bb n p).2.1)) ∧
    (¬ (tok bb n p).2.2 = some (.inr (.inr k)) → ∃ u', fx_X12_takesSign_69 u z = some (u', 0) ∧ SmF 69 kM u u' ∧ FM u' 1 (tok bb n p).1) := by
  have hd := tokDM hT hp
  have hs := hM.sort
  unfold fx_X12_takesSign_69 fx_X12_takesSign_69_j16
  refine ⟨fun h => ?_, fun h => ?_⟩
  · have h3 := hM.2.2
    rw [h] at h3
    obtain ⟨v, e1, e2, e3⟩ := next_m u bb n (tok bb n p).2.1 hT hd.2.2.1 hM.2.1
    rw [h3.1, if_neg (by simp), h3.2, if_pos (by rw [hz]), e1, bd_eq, gB_1]
    exact ⟨v, rfl, e2.mono (by simp), by rw [e2.2 19 (by decide)]; exact h0, e2.2 20 (by decide), e3⟩
  · obtain ⟨v, f1, f2, f3⟩ := fails_m u 1 _ hM.1 h0
    rw [f1, bd_eq, gB_0]
    refine ⟨v, ?_, f2.mono (by simp), f3⟩
    by_cases h3 : u.1 69 21 = 3
    · obtain ⟨w, hw⟩ := hs.2.1.mp h3
      have h4 := hM.2.2
      have h5 := hd.1.2.2
      rw [hw] at h4 h5
      have h5 : w < 256 := h5
      rw [h4.1, if_neg (by simp), h4.2, if_neg (by rw [hz]; intro q; exact h (by rw [hw, (nI_eq (by omega) (by omega)).mp q]))]
    · rw [if_pos h3]
theorem readNumber_m {u : llMem} {bb : Nat → Nat} {n p : Nat} (hT : TM u bb n) (hp : p ≤ n) (hM : MT u (tok bb n p)) (h0 : u.1 69 19 = 0) (a0 a1 : Int32) :
    (∀ v, isNum (tok bb n p) v → ¬ nI v < a0 → nI v ≤ a1 → ∃ u', fx_X12_readNumber_69 u a0 a1 = some (u', 1) ∧ SmF 69 kM u u' ∧ u'.1 69 19 = 0 ∧ u'.1 69 20 = u.1 69 20 ∧ u'.1 69 27 = nI v ∧ MT u' (tok bb n (tok bb n p).2.1)) ∧
    (∀ v, isNum (tok bb n p) v → (nI v < a0 ∨ ¬ nI v ≤ a1) → ∃ u', fx_X12_readNumber_69 u a0 a1 = some (u', 0) ∧ SmF 69 kM u u' ∧ FM u' 3 (tok bb n p).1) ∧
    ((∀ v, ¬ isNum (tok bb n p) v) → ∃ u', fx_X12_readNumber_69 u a0 a1 = some (u', 0) ∧ SmF 69 kM u u' ∧ FM u' 1 (tok bb n p).1) := by
  have hd := tokDM hT hp
  have hs := hM.sort
  unfold fx_X12_readNumber_69 fx_X12_readNumber_69_j21
  rw [hM.len hd.1]
  refine ⟨fun v hv h1 h2 => ?_, fun v hv h1 => ?_, fun hv => ?_⟩
  · have h3 := hM.2.2
    rw [hv.1] at h3
    have b1 : SmF 69 kM u (llSI u 69 27 (nI v)) := SmF.SI (by simp)
    rw [h3.1, if_neg (by simp), if_pos (leL 3 (by have := hd.1.2.1; omega) (by decide) hv.2), h3.2 hv.2, isIn_eq, if_pos ⟨i64_le.mpr (Int32.not_lt.mp h1), i64_le.mpr h2⟩]
    simp only [Option.bind_some, lt_eq]
    rw [if_pos (by decide)]
    obtain ⟨w, e1, e2, e3⟩ := next_m (llSI u 69 27 (nI v)) bb n (tok bb n p).2.1 (hT.of b1 (by decide)) hd.2.2.1 (by rw [SI_same, upd_ne (by decide)]; exact hM.2.1)
    rw [e1, bd_eq, gB_1]
    refine ⟨w, rfl, b1.trans (e2.mono (by simp)), ?_, ?_, ?_, e3⟩
    · rw [e2.2 19 (by decide), SI_same, upd_ne (by decide)]; exact h0
    · rw [e2.2 20 (by decide), SI_same, upd_ne (by decide)]
    · rw [e2.2 27 (by decide), SI_same, upd_same]
  · have h3 := hM.2.2
    rw [hv.1] at h3
    obtain ⟨w, f1, f2, f3⟩ := fails_m u 3 _ hM.1 h0
    rw [h3.1, if_neg (by simp), if_pos (leL 3 (by have := hd.1.2.1; omega) (by decide) hv.2), h3.2 hv.2, isIn_eq, if_neg (fun q => by
      rcases h1 with h1 | h1
      · exact absurd h1 (Int32.not_lt.mpr (i64_le.mp q.1))
      · exact h1 (i64_le.mp q.2))]
    simp only [Option.bind_some]
    rw [f1, bd_eq, gB_0]
    exact ⟨w, by simp, f2.mono (by simp), f3⟩
  · obtain ⟨w, f1, f2, f3⟩ := fails_m u 1 _ hM.1 h0
    rw [f1, bd_eq, gB_0]
    refine ⟨w, ?_, f2.mono (by simp), f3⟩
    by_cases h2 : u.1 69 21 = 2
    · obtain ⟨v, hx⟩ := hs.1.mp h2
      rw [h2, if_neg (by simp), if_neg (nleL 3 (by have := hd.1.2.1; omega) (by decide) (by
        rcases Nat.lt_or_ge 3 ((tok bb n p).2.1 - (tok bb n p).1) with h | h
        · exact h
        · exact absurd ⟨hx, h⟩ (hv v)))]
    · rw [if_pos h2]
theorem takes_m1 {u : llMem} {bb : Nat → Nat} {n p : Nat} (hT : TM u bb n) (hp : p ≤ n) (hM : MT u (tok bb n p)) (h0 : u.1 69 19 = 0) :
    ((tok bb n p).2.2 = some (.inl (kw 1)) → ∃ u', fx_X12_takes_69_s1 u = some (u', 1) ∧ SmF 69 kM u u' ∧ u'.1 69 19 = 0 ∧ u'.1 69 20 = u.1 69 20 ∧ MT u' (tok bb n (tok bb n p).2.1)) ∧
    (¬ (tok bb n p).2.2 = some (.inl (kw 1)) → ∃ u', fx_X12_takes_69_s1 u = some (u', 0) ∧ SmF 69 kM u u' ∧ FM u' 1 (tok bb n p).1) := by
  have hd := tokDM hT hp
  unfold fx_X12_takes_69_s1
  rw [isWord_m1 hM hd.1]
  simp only [Option.bind_some]
  refine ⟨fun h => ?_, fun h => ?_⟩
  · obtain ⟨v, e1, e2, e3⟩ := next_m u bb n (tok bb n p).2.1 hT hd.2.2.1 hM.2.1
    rw [if_pos h, if_pos (by decide), e1, bd_eq, gB_1]
    exact ⟨v, rfl, e2.mono (by simp), by rw [e2.2 19 (by decide)]; exact h0, e2.2 20 (by decide), e3⟩
  · obtain ⟨v, f1, f2, f3⟩ := fails_m u 1 _ hM.1 h0
    rw [if_neg h, if_neg (by simp), f1, bd_eq, gB_0]
    exact ⟨v, rfl, f2.mono (by simp), f3⟩
theorem takes_m2 {u : llMem} {bb : Nat → Nat} {n p : Nat} (hT : TM u bb n) (hp : p ≤ n) (hM : MT u (tok bb n p)) (h0 : u.1 69 19 = 0) :
    ((tok bb n p).2.2 = some (.inl (kw 2)) → ∃ u', fx_X12_takes_69_s2 u = some (u', 1) ∧ SmF 69 kM u u' ∧ u'.1 69 19 = 0 ∧ u'.1 69 20 = u.1 69 20 ∧ MT u' (tok bb n (tok bb n p).2.1)) ∧
    (¬ (tok bb n p).2.2 = some (.inl (kw 2)) → ∃ u', fx_X12_takes_69_s2 u = some (u', 0) ∧ SmF 69 kM u u' ∧ FM u' 1 (tok bb n p).1) := by
  have hd := tokDM hT hp
  unfold fx_X12_takes_69_s2
  rw [isWord_m2 hM hd.1]
  simp only [Option.bind_some]
  refine ⟨fun h => ?_, fun h => ?_⟩
  · obtain ⟨v, e1, e2, e3⟩ := next_m u bb n (tok bb n p).2.1 hT hd.2.2.1 hM.2.1
    rw [if_pos h, if_pos (by decide), e1, bd_eq, gB_1]
    exact ⟨v, rfl, e2.mono (by simp), by rw [e2.2 19 (by decide)]; exact h0, e2.2 20 (by decide), e3⟩
  · obtain ⟨v, f1, f2, f3⟩ := fails_m u 1 _ hM.1 h0
    rw [if_neg h, if_neg (by simp), f1, bd_eq, gB_0]
    exact ⟨v, rfl, f2.mono (by simp), f3⟩
theorem takes_m3 {u : llMem} {bb : Nat → Nat} {n p : Nat} (hT : TM u bb n) (hp : p ≤ n) (hM : MT u (tok bb n p)) (h0 : u.1 69 19 = 0) :
    ((tok bb n p).2.2 = some (.inl (kw 3)) → ∃ u', fx_X12_takes_69_s3 u = some (u', 1) ∧ SmF 69 kM u u' ∧ u'.1 69 19 = 0 ∧ u'.1 69 20 = u.1 69 20 ∧ MT u' (tok bb n (tok bb n p).2.1)) ∧
    (¬ (tok bb n p).2.2 = some (.inl (kw 3)) → ∃ u', fx_X12_takes_69_s3 u = some (u', 0) ∧ SmF 69 kM u u' ∧ FM u' 1 (tok bb n p).1) := by
  have hd := tokDM hT hp
  unfold fx_X12_takes_69_s3
  rw [isWord_m3 hM hd.1]
  simp only [Option.bind_some]
  refine ⟨fun h => ?_, fun h => ?_⟩
  · obtain ⟨v, e1, e2, e3⟩ := next_m u bb n (tok bb n p).2.1 hT hd.2.2.1 hM.2.1
    rw [if_pos h, if_pos (by decide), e1, bd_eq, gB_1]
    exact ⟨v, rfl, e2.mono (by simp), by rw [e2.2 19 (by decide)]; exact h0, e2.2 20 (by decide), e3⟩
  · obtain ⟨v, f1, f2, f3⟩ := fails_m u 1 _ hM.1 h0
    rw [if_neg h, if_neg (by simp), f1, bd_eq, gB_0]
    exact ⟨v, rfl, f2.mono (by simp), f3⟩
theorem takes_m5 {u : llMem} {bb : Nat → Nat} {n p : Nat} (hT : TM u bb n) (hp : p ≤ n) (hM : MT u (tok bb n p)) (h0 : u.1 69 19 = 0) :
    ((tok bb n p).2.2 = some (.inl (kw 5)) → ∃ u', fx_X12_takes_69_s5 u = some (u', 1) ∧ SmF 69 kM u u' ∧ u'.1 69 19 = 0 ∧ u'.1 69 20 = u.1 69 20 ∧ MT u' (tok bb n (tok bb n p).2.1)) ∧
    (¬ (tok bb n p).2.2 = some (.inl (kw 5)) → ∃ u', fx_X12_takes_69_s5 u = some (u', 0) ∧ SmF 69 kM u u' ∧ FM u' 1 (tok bb n p).1) := by
  have hd := tokDM hT hp
  unfold fx_X12_takes_69_s5
  rw [isWord_m5 hM hd.1]
  simp only [Option.bind_some]
  refine ⟨fun h => ?_, fun h => ?_⟩
  · obtain ⟨v, e1, e2, e3⟩ := next_m u bb n (tok bb n p).2.1 hT hd.2.2.1 hM.2.1
    rw [if_pos h, if_pos (by decide), e1, bd_eq, gB_1]
    exact ⟨v, rfl, e2.mono (by simp), by rw [e2.2 19 (by decide)]; exact h0, e2.2 20 (by decide), e3⟩
  · obtain ⟨v, f1, f2, f3⟩ := fails_m u 1 _ hM.1 h0
    rw [if_neg h, if_neg (by simp), f1, bd_eq, gB_0]
    exact ⟨v, rfl, f2.mono (by simp), f3⟩
