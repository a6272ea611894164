theorem packed_0 (u : llMem) : fx_X12_packed_s0 u = some (lN (p5 (kw 0))) := rfl
theorem packed_1 (u : llMem) : fx_X12_packed_s1 u = some (lN (p5 (kw 1))) := rfl
theorem packed_2 (u : llMem) : fx_X12_packed_s2 u = some (lN (p5 (kw 2))) := rfl
theorem packed_3 (u : llMem) : fx_X12_packed_s3 u = some (lN (p5 (kw 3))) := rfl
theorem packed_4 (u : llMem) : fx_X12_packed_s4 u = some (lN (p5 (kw 4))) := rfl
theorem packed_5 (u : llMem) : fx_X12_packed_s5 u = some (lN (p5 (kw 5))) := rfl
theorem packed_6 (u : llMem) : fx_X12_packed_s6 u = some (lN (p5 (kw 6))) := rfl
theorem isWordM {u : llMem} {t : Tk} (h : MT u t) (ht : TkOk t) {j : Nat} (hj : j < 7) : (if ¬ (u.1 69 21) = 1 then gB 0 (some (0 : Int32)) else (fx_strlen j u).bind (fun r1 => if ¬ ((u.1 69 23) - (u.1 69 22)) = r1 then gB 0 (some 0) else (some (lN (p5 (kw j)))).bind (fun r2 => if ¬ (lg_cmp (u.2.1 69 24) r2) = 0 then gB 0 (some 0) else gB 1 (some 1)))) = some (if t.2.2 = some (.inl (kw j)) then 1 else 0) := by
  obtain ⟨k1, k2, k3, k4⟩ := kw_ok j hj
  obtain ⟨m1, m2, h3⟩ := h
  obtain ⟨t1, t2, t3⟩ := ht
  simp only [gB_0, gB_1]
  cases hx : t.2.2 with
  | none =>
    rw [hx] at h3
    rw [h3, if_pos (by decide), if_neg (by simp)]
  | some y =>
    rw [hx] at h3 t3
    cases y with
    | inl w =>
      obtain ⟨w1, w2, w3⟩ := t3
      rw [h3.1, if_neg (by simp), m1, m2, pk_sub t1]
      show (if ¬ nI (t.2.1 - t.1) = nI (llLen.getD j 0) then some (0 : Int32) else if ¬ lg_cmp (u.2.1 69 24) (lN (p5 (kw j))) = 0 then some 0 else some 1) = _
      rw [← k4, ← w1]
      by_cases hl : w.length = (kw j).length
      · rw [if_neg (by rw [hl]; simp), h3.2 (by omega)]
        by_cases e : w = kw j
        · rw [if_neg (by rw [e]; intro q; exact q (lg_eq.mpr rfl)), if_pos (by rw [e])]
        · rw [if_pos (fun q => e (p5_inj w3 k3 ((pk_lEQ (by have := p5_lt w3 (by omega); omega) (by have := p5_lt k3 k1; omega)).mp (lg_eq.mp q)))), if_neg (by intro q; exact e (by injection q with q; injection q))]
      · rw [if_pos (fun q => hl ((nI_eq (by omega) (by omega)).mp q)), if_neg (by intro q; injection q with q; injection q with q; exact hl (by rw [q]))]
    | inr y =>
      cases y with
      | inl v => rw [h3.1, if_pos (by decide), if_neg (by simp)]
      | inr v => rw [h3.1, if_pos (by decide), if_neg (by simp)]
theorem isWord_m0 {u : llMem} {t : Tk} (h : MT u t) (ht : TkOk t) : fx_X12_isWord_69_s0 u = some (if t.2.2 = some (.inl (kw 0)) then 1 else 0) := by
  rw [← isWordM h ht (j := 0) (by decide)]
  unfold fx_X12_isWord_69_s0
  rw [packed_0]
theorem isWord_m1 {u : llMem} {t : Tk} (h : MT u t) (ht : TkOk t) : fx_X12_isWord_69_s1 u = some (if t.2.2 = some (.inl (kw 1)) then 1 else 0) := by
  rw [← isWordM h ht (j := 1) (by decide)]
  unfold fx_X12_isWord_69_s1
  rw [packed_1]
theorem isWord_m2 {u : llMem} {t : Tk} (h : MT u t) (ht : TkOk t) : fx_X12_isWord_69_s2 u = some (if t.2.2 = some (.inl (kw 2)) then 1 else 0) := by
  rw [← isWordM h ht (j := 2) (by decide)]
  unfold fx_X12_isWord_69_s2
  rw [packed_2]
theorem isWord_m3 {u : llMem} {t : Tk} (h : MT u t) (ht : TkOk t) : fx_X12_isWord_69_s3 u = some (if t.2.2 = some (.inl (kw 3)) then 1 else 0) := by
  rw [← isWordM h ht (j := 3) (by decide)]
  unfold fx_X12_isWord_69_s3
  rw [packed_3]
theorem isWord_m4 {u : llMem} {t : Tk} (h : MT u t) (ht : TkOk t) : fx_X12_isWord_69_s4 u = some (if t.2.2 = some (.inl (kw 4)) then 1 else 0) := by
  rw [← isWordM h ht (j := 4) (by decide)]
  unfold fx_X12_isWord_69_s4
  rw [packed_4]
theorem isWord_m5 {u : llMem} {t : Tk} (h : MT u t) (ht : TkOk t) : fx_X12_isWord_69_s5 u = some (if t.2.2 = some (.inl (kw 5)) then 1 else 0) := by
  rw [← isWordM h ht (j := 5) (by decide)]
  unfold fx_X12_isWord_69_s5
  rw [packed_5]
theorem isWord_m6 {u : llMem} {t : Tk} (h : MT u t) (ht : TkOk t) : fx_X12_isWord_69_s6 u = some (if t.2.2 = some (.inl (kw 6)) then 1 else 0) := by
  rw [← isWordM h ht (j := 6) (by decide)]
  unfold fx_X12_isWord_69_s6
  rw [packed_6]
theorem one_ne : ¬ (1 : Int32) = 0 := by decide
theorem isName_m {u : llMem} {t : Tk} (h : MT u t) (ht : TkOk t) : (isNm t → fx_X12_isName_69 u = some 1) ∧ (¬ isNm t → fx_X12_isName_69 u = some 0) := by
  unfold fx_X12_isName_69
  rw [isWord_m0 h ht, isWord_m1 h ht, isWord_m2 h ht, isWord_m3 h ht, isWord_m4 h ht, isWord_m5 h ht, isWord_m6 h ht]
  obtain ⟨m1, m2, h3⟩ := h
  obtain ⟨t1, t2, t3⟩ := ht
  simp only [gB_0, gB_1, Option.bind_some]
  cases hx : t.2.2 with
  | none =>
    rw [hx] at h3
    refine ⟨fun ⟨w, e, _⟩ => (by rw [hx] at e; cases e), fun _ => ?_⟩
    rw [h3, if_pos (by decide)]
  | some y =>
    rw [hx] at h3 t3
    cases y with
    | inr y =>
      refine ⟨fun ⟨w, e, _⟩ => (by rw [hx] at e; injection e with e; cases e), fun _ => ?_⟩
      cases y with
      | inl v => rw [h3.1, if_pos (by decide)]
      | inr v => rw [h3.1, if_pos (by decide)]
    | inl w =>
      obtain ⟨w1, w2, w3⟩ := t3
      rw [h3.1, if_neg (by simp), m1, m2, pk_sub t1, ← w1]
      have inj : ∀ k : List Nat, (some (Sum.inl w) : Option (List Nat ⊕ (Nat ⊕ Nat))) = some (.inl k) ↔ w = k := fun k => ⟨fun q => by injection q with q; injection q, fun q => by rw [q]⟩
      by_cases h7 : w.length ≤ 7
      · rw [if_neg (Lnlt 7 (by omega) (by decide) h7)]
        refine ⟨fun ⟨v, e, _, hv⟩ => ?_, fun hn => ?_⟩
        · rw [hx] at e
          have e := (inj v).mp e
          rw [← e, kws_mem] at hv
          have g : ∀ j, w = kw j → ¬ (w = kw 0 ∨ w = kw 1 ∨ w = kw 2 ∨ w = kw 3 ∨ w = kw 4 ∨ w = kw 5 ∨ w = kw 6) → j < 7 → False := fun j hj hn hl => by
            rcases (show j = 0 ∨ j = 1 ∨ j = 2 ∨ j = 3 ∨ j = 4 ∨ j = 5 ∨ j = 6 by omega) with rfl | rfl | rfl | rfl | rfl | rfl | rfl <;> exact hn (by simp [hj])
          rw [if_neg (fun q => g 0 ((inj _).mp q) hv (by decide)), if_neg (fun q => g 1 ((inj _).mp q) hv (by decide)), if_neg (fun q => g 2 ((inj _).mp q) hv (by decide)), if_neg (fun q => g 3 ((inj _).mp q) hv (by decide)), if_neg (fun q => g 4 ((inj _).mp q) hv (by decide)), if_neg (fun q => g 5 ((inj _).mp q) hv (by decide)), if_neg (fun q => g 6 ((inj _).mp q) hv (by decide))]
          simp
        · have hm : w ∈ kws := by
            rcases Classical.em (w ∈ kws) with q | q
            · exact q
            · exact absurd ⟨w, hx, h7, q⟩ hn
          rw [kws_mem] at hm
          rcases hm with hm | hm | hm | hm | hm | hm | hm
          · rw [if_pos (c := some (Sum.inl w) = some (Sum.inl (kw 0))) ((inj _).mpr hm), if_pos one_ne]
          · rw [if_pos (c := some (Sum.inl w) = some (Sum.inl (kw 1))) ((inj _).mpr hm), if_pos one_ne]; simp only [ite_self]
          · rw [if_pos (c := some (Sum.inl w) = some (Sum.inl (kw 2))) ((inj _).mpr hm), if_pos one_ne]; simp only [ite_self]
          · rw [if_pos (c := some (Sum.inl w) = some (Sum.inl (kw 3))) ((inj _).mpr hm), if_pos one_ne]; simp only [ite_self]
          · rw [if_pos (c := some (Sum.inl w) = some (Sum.inl (kw 4))) ((inj _).mpr hm), if_pos one_ne]; simp only [ite_self]
          · rw [if_pos (c := some (Sum.inl w) = some (Sum.inl (kw 5))) ((inj _).mpr hm), if_pos one_ne]; simp only [ite_self]
          · rw [if_pos (c := some (Sum.inl w) = some (Sum.inl (kw 6))) ((inj _).mpr hm), if_pos one_ne]; simp only [ite_self]
      · rw [if_pos (Llt 7 (by omega) (by decide) (by omega))]
        refine ⟨fun ⟨v, e, h8, _⟩ => ?_, fun _ => rfl⟩
        rw [hx] at e
        have e := (inj v).mp e
        rw [← e] at h8
        exact absurd h8 h7
