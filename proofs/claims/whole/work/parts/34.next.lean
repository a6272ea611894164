theorem lN_shl5 {a c : Nat} (ha : a < 2 ^ 50) (hc : c < 32) : (lN a <<< (Int32.toInt64 5 &&& 63)) ||| (Int32.toInt64 (nI c)) = lN (a * 32 + c) := by
  have e1 : (Int32.toInt64 5 &&& 63) = (5 : Int64) := by decide
  rw [e1, nI_l (by omega)]
  apply Int64.toBitVec_inj.mp
  rw [Int64.toBitVec_or, Int64.toBitVec_shiftLeft]
  apply BitVec.eq_of_toNat_eq
  have e2 : ((5 : Int64).toBitVec.smod 64).toNat = 5 := by decide
  have n1 := lN_tn (n := a) (by omega)
  have n2 := lN_tn (n := c) (by omega)
  have n3 := lN_tn (n := a * 32 + c) (by omega)
  rw [BitVec.toNat_or, n2, n3]
  show (((lN a).toBitVec <<< ((5 : Int64).toBitVec.smod 64)).toNat ||| c) = _
  rw [BitVec.shiftLeft_eq', e2, BitVec.toNat_shiftLeft, n1, Nat.shiftLeft_eq]
  rw [Nat.mod_eq_of_lt (by omega)]
  have := Nat.shiftLeft_add_eq_or_of_lt (i := 5) (b := c) (by omega) a
  rw [Nat.shiftLeft_eq] at this
  rw [← this]
theorem p8_snoc (w : List Nat) (a : Nat) : p8 (w ++ [a]) = p8 w * 256 + (97 + a) := by unfold p8; rw [List.foldl_append]; rfl
theorem p5_snoc (w : List Nat) (a : Nat) : p5 (w ++ [a]) = p5 w * 32 + (a + 1) := by unfold p5; rw [List.foldl_append]; rfl
theorem isLt_iff {b : Nat} : isLt b = true ↔ 97 ≤ b ∧ b ≤ 122 := by simp [isLt]
theorem isDg_iff {b : Nat} : isDg b = true ↔ 48 ≤ b ∧ b ≤ 57 := by simp [isDg]
theorem isLt_not {b : Nat} (h : isLt b = false) : b < 97 ∨ 122 < b := by
  rcases Nat.lt_or_ge b 97 with h1 | h1
  · exact Or.inl h1
  · rcases Nat.lt_or_ge 122 b with h2 | h2
    · exact Or.inr h2
    · rw [isLt_iff.mpr ⟨h1, h2⟩] at h; cases h
theorem isDg_not {b : Nat} (h : isDg b = false) : b < 48 ∨ 57 < b := by
  rcases Nat.lt_or_ge b 48 with h1 | h1
  · exact Or.inl h1
  · rcases Nat.lt_or_ge 57 b with h2 | h2
    · exact Or.inr h2
    · rw [isDg_iff.mpr ⟨h1, h2⟩] at h; cases h
theorem p8_lets_lt (bb : Nat → Nat) (q : Nat) : ∀ i, (∀ k, q ≤ k → k < q + i → isLt (bb k) = true) → p8 (lets bb q i) < 256 ^ i
  | 0, _ => by show (0 : Nat) < 1; decide
  | i + 1, h => by
    have h1 := p8_lets_lt bb q i (fun k a b => h k a (by omega))
    have h2 := isLt_iff.mp (h (q + i) (by omega) (by omega))
    rw [lets, p8_snoc, Nat.pow_succ]
    omega
theorem p5_lets_lt (bb : Nat → Nat) (q : Nat) : ∀ i, (∀ k, q ≤ k → k < q + i → isLt (bb k) = true) → p5 (lets bb q i) < 32 ^ i
  | 0, _ => by show (0 : Nat) < 1; decide
  | i + 1, h => by
    have h1 := p5_lets_lt bb q i (fun k a b => h k a (by omega))
    have h2 := isLt_iff.mp (h (q + i) (by omega) (by omega))
    rw [lets, p5_snoc, Nat.pow_succ]
    omega
theorem dec_lt (bb : Nat → Nat) (q : Nat) : ∀ i, (∀ k, q ≤ k → k < q + i → isDg (bb k) = true) → dec bb q i < 10 ^ i
  | 0, _ => by show (0 : Nat) < 1; decide
  | i + 1, h => by
    have h1 := dec_lt bb q i (fun k a b => h k a (by omega))
    have h2 := isDg_iff.mp (h (q + i) (by omega) (by omega))
    rw [dec, Nat.pow_succ]
    omega
theorem pow_le_6 {i : Nat} (h : i ≤ 6) : (256 : Nat) ^ i ≤ 2 ^ 48 := by
  rcases (show i = 0 ∨ i = 1 ∨ i = 2 ∨ i = 3 ∨ i = 4 ∨ i = 5 ∨ i = 6 by omega) with rfl | rfl | rfl | rfl | rfl | rfl | rfl <;> decide
theorem pow_le_65 {i : Nat} (h : i ≤ 6) : (32 : Nat) ^ i ≤ 2 ^ 30 := by
  rcases (show i = 0 ∨ i = 1 ∨ i = 2 ∨ i = 3 ∨ i = 4 ∨ i = 5 ∨ i = 6 by omega) with rfl | rfl | rfl | rfl | rfl | rfl | rfl <;> decide
theorem pow_le_10 {i : Nat} (h : i ≤ 3) : (10 : Nat) ^ i ≤ 1000 := by
  rcases (show i = 0 ∨ i = 1 ∨ i = 2 ∨ i = 3 by omega) with rfl | rfl | rfl | rfl <;> decide
theorem SL_same (u : llMem) (c k : Nat) (v : Int64) : (llSL u c k v).2.1 c k = v := by simp [llSL, llSLA, vp_updL]
theorem SL_1 (u : llMem) (c k : Nat) (v : Int64) : (llSL u c k v).1 = u.1 := rfl
/-- the class reads a word -/
theorem word_x (u : llMem) (bb : Nat → Nat) (n q : Nat) (hT : TX u bb n) (hq : q ≤ n) (hat : u.1 1 9 = nI q) (hpl : u.1 1 3 = nI q) : ∃ u', fx_X9_readWord_1 u = some (u', ()) ∧ SmF 1 [2, 9] u u' ∧ u'.1 1 9 = nI (run bb n isLt q) ∧ (if run bb n isLt q - q ≤ 7 then u'.1 1 2 = 1 ∧ u'.2.1 1 6 = lN (p8 (lets bb q (run bb n isLt q - q))) else u'.1 1 2 = 4) := by
  obtain ⟨r1, r2, r3, r4⟩ := run_spec bb n isLt hq
  have h700 := hT.1
  generalize hr : run bb n isLt q = r at *
  obtain ⟨e, h1, h2, h3, h4⟩ := loop_inv (body := fx_X9_readWord_1_l5) (fun i s => SmF 1 [9] u s ∧ s.1 1 9 = nI (q + i) ∧ (i ≤ 7 → s.2.1 1 6 = lN (p8 (lets bb q i)))) (fun e => SmF 1 [9] u e ∧ e.1 1 9 = nI r ∧ (r - q ≤ 7 → e.2.1 1 6 = lN (p8 (lets bb q (r - q))))) (r - q) llFuel (llSL u 1 6 0) ⟨SmF.SL, hat, fun _ => SL_same _ _ _ _⟩ (by
      intro i s hi ⟨a1, a2, a3⟩
      have hT' := hT.of a1 (by decide)
      have hlt : q + i < n := by omega
      have hb := isLt_iff.mp (r3 (q + i) (by omega) (by omega))
      have hrd := hT'.rd hlt
      refine ⟨llSI (llSL s 1 6 ((s.2.1 1 6 <<< (Int32.toInt64 8 &&& 63)) ||| Int32.toInt64 (nI (bb (q + i))))) 1 9 (nI (q + i) + 1), ?_, a1.trans (SmF.SL.trans (SmF.SI (by simp))), by rw [SI_same, upd_same, nI_1, Nat.add_assoc], fun h7 => ?_⟩
      · unfold fx_X9_readWord_1_l5
        simp only [lt_eq, SL_1]
        rw [a2, hT'.2.1, if_neg (nle2 (by omega) (by omega) hlt), gI_nI (by omega) (by decide), hrd, if_neg (nltL 97 (by omega) (by decide) hb.1), gI_nI (by omega) (by decide), if_neg (Lnlt 122 (by omega) (by decide) hb.2), gI_nI (by omega) (by decide)]
      · show (llSL s 1 6 _).2.1 1 6 = _
        rw [SL_same, a3 (by omega)]
        have hp := p8_lets_lt bb q i (fun k x y => r3 k x (by omega))
        have hp2 := pow_le_6 (i := i) (by omega)
        rw [lN_shl8 (by omega) (by omega), lets, p8_snoc, show 97 + (bb (q + i) - 97) = bb (q + i) by omega]) (by
      intro s ⟨a1, a2, a3⟩
      have hT' := hT.of a1 (by decide)
      rw [show q + (r - q) = r by omega] at a2
      refine ⟨s, ?_, a1, a2, a3⟩
      unfold fx_X9_readWord_1_l5
      rw [a2, hT'.2.1]
      by_cases hlt : r < n
      · have hb := isLt_not (r4 hlt)
        have hrd := hT'.rd hlt
        have hb256 := (hT.2.2 _ hlt).2
        rw [if_neg (nle2 (by omega) (by omega) hlt), gI_nI (by omega) (by decide), hrd]
        rcases hb with hb | hb
        · rw [if_pos (ltL 97 (by omega) (by decide) hb)]
        · rw [if_neg (nltL 97 (by omega) (by decide) (by omega)), gI_nI (by omega) (by decide), if_pos (Llt 122 (by omega) (by decide) hb)]
      · rw [if_pos (le2 (by omega) (by omega) (by omega))]) (by unfold llFuel; omega)
  unfold fx_X9_readWord_1
  simp only [lt_eq]
  rw [h1]
  have hpl' : e.1 1 3 = nI q := by rw [h2.2 3 (by decide)]; exact hpl
  simp only [Option.bind_some]
  rw [h3, hpl', pk_sub r1]
  by_cases h7 : r - q ≤ 7
  · rw [if_neg (Lnlt 7 (by omega) (by decide) h7)]
    refine ⟨llSI e 1 2 1, rfl, (h2.mono (by simp)).trans (SmF.SI (by simp)), ?_, ?_⟩
    · rw [SI_same, upd_ne (by decide)]; exact h3
    · rw [if_pos h7]
      exact ⟨by rw [SI_same, upd_same], h4 h7⟩
  · rw [if_pos (Llt 7 (by omega) (by decide) (by omega))]
    refine ⟨llSI e 1 2 4, rfl, (h2.mono (by simp)).trans (SmF.SI (by simp)), ?_, ?_⟩
    · rw [SI_same, upd_ne (by decide)]; exact h3
    · rw [if_neg h7, SI_same, upd_same]
/-- the class reads a number -/
theorem number_x (u : llMem) (bb : Nat → Nat) (n q : Nat) (hT : TX u bb n) (hq : q ≤ n) (hat : u.1 1 9 = nI q) (hpl : u.1 1 3 = nI q) : ∃ u', fx_X9_readNumber_1 u = some (u', ()) ∧ SmF 1 [2, 4, 9] u u' ∧ u'.1 1 9 = nI (run bb n isDg q) ∧ (if run bb n isDg q - q ≤ 3 then u'.1 1 2 = 2 ∧ u'.1 1 4 = nI (dec bb q (run bb n isDg q - q)) else u'.1 1 2 = 4) := by
  obtain ⟨r1, r2, r3, r4⟩ := run_spec bb n isDg hq
  have h700 := hT.1
  generalize hr : run bb n isDg q = r at *
  obtain ⟨e, h1, h2, h3, h4⟩ := loop_inv (body := fx_X9_readNumber_1_l5) (fun i s => SmF 1 [4, 9] u s ∧ s.1 1 9 = nI (q + i) ∧ (i ≤ 3 → s.1 1 4 = nI (dec bb q i))) (fun e => SmF 1 [4, 9] u e ∧ e.1 1 9 = nI r ∧ (r - q ≤ 3 → e.1 1 4 = nI (dec bb q (r - q)))) (r - q) llFuel (llSI u 1 4 0) ⟨SmF.SI (by simp), by rw [SI_same, upd_ne (by decide)]; exact hat, fun _ => by rw [SI_same, upd_same]; rfl⟩ (by
      intro i s hi ⟨a1, a2, a3⟩
      have hT' := hT.of a1 (by decide)
      have hlt : q + i < n := by omega
      have hb := isDg_iff.mp (r3 (q + i) (by omega) (by omega))
      have hrd := hT'.rd hlt
      refine ⟨llSI (llSI s 1 4 ((s.1 1 4 * 10 + nI (bb (q + i))) - 48)) 1 9 (nI (q + i) + 1), ?_, a1.trans ((SmF.SI (by simp)).trans (SmF.SI (by simp))), by rw [SI_same, upd_same, nI_1, Nat.add_assoc], fun h7 => ?_⟩
      · unfold fx_X9_readNumber_1_l5
        simp only [lt_eq]
        have e9 : (llSI s 1 4 ((s.1 1 4 * 10 + nI (bb (q + i))) - 48)).1 1 9 = nI (q + i) := by rw [SI_same, upd_ne (by decide)]; exact a2
        rw [a2, hT'.2.1, if_neg (nle2 (by omega) (by omega) hlt), gI_nI (by omega) (by decide), hrd, if_neg (nltL 48 (by omega) (by decide) hb.1), gI_nI (by omega) (by decide), if_neg (Lnlt 57 (by omega) (by decide) hb.2), gI_nI (by omega) (by decide), e9]
      · rw [SI_same, upd_ne (by decide), SI_same, upd_same, a3 (by omega)]
        have hp := dec_lt bb q i (fun k x y => r3 k x (by omega))
        have hp2 := pow_le_10 (i := i) (by omega)
        rw [show (10 : Int32) = nI 10 from rfl, show (48 : Int32) = nI 48 from rfl, pk_mul, nI_add, pk_sub (by omega), dec]
        congr 1
        omega) (by
      intro s ⟨a1, a2, a3⟩
      have hT' := hT.of a1 (by decide)
      rw [show q + (r - q) = r by omega] at a2
      refine ⟨s, ?_, a1, a2, a3⟩
      unfold fx_X9_readNumber_1_l5
      rw [a2, hT'.2.1]
      by_cases hlt : r < n
      · have hb := isDg_not (r4 hlt)
        have hrd := hT'.rd hlt
        have hb256 := (hT.2.2 _ hlt).2
        rw [if_neg (nle2 (by omega) (by omega) hlt), gI_nI (by omega) (by decide), hrd]
        rcases hb with hb | hb
        · rw [if_pos (ltL 48 (by omega) (by decide) hb)]
        · rw [if_neg (nltL 48 (by omega) (by decide) (by omega)), gI_nI (by omega) (by decide), if_pos (Llt 57 (by omega) (by decide) hb)]
      · rw [if_pos (le2 (by omega) (by omega) (by omega))]) (by unfold llFuel; omega)
  unfold fx_X9_readNumber_1
  simp only [lt_eq]
  rw [h1]
  have hpl' : e.1 1 3 = nI q := by rw [h2.2 3 (by decide)]; exact hpl
  simp only [Option.bind_some]
  rw [h3, hpl', pk_sub r1]
  by_cases h7 : r - q ≤ 3
  · rw [if_neg (Lnlt 3 (by omega) (by decide) h7)]
    refine ⟨llSI e 1 2 2, rfl, (h2.mono (by simp)).trans (SmF.SI (by simp)), ?_, ?_⟩
    · rw [SI_same, upd_ne (by decide)]; exact h3
    · rw [if_pos h7]
      exact ⟨by rw [SI_same, upd_same], by rw [SI_same, upd_ne (by decide)]; exact h4 h7⟩
  · rw [if_pos (Llt 3 (by omega) (by decide) (by omega))]
    refine ⟨llSI e 1 2 4, rfl, (h2.mono (by simp)).trans (SmF.SI (by simp)), ?_, ?_⟩
    · rw [SI_same, upd_ne (by decide)]; exact h3
    · rw [if_neg h7, SI_same, upd_same]
/-- THE CLASS'S next(): the piece that stands next -/
theorem next_x (u : llMem) (bb : Nat → Nat) (n p : Nat) (hT : TX u bb n) (hp : p ≤ n) (hat : u.1 1 9 = nI p) : ∃ u', fx_X9_next_1 u = some (u', ()) ∧ SmF 1 [2, 3, 4, 5, 9] u u' ∧ CT u' (tok bb n p) := by
  obtain ⟨r1, r2, -, -⟩ := run_spec bb n isBl hp
  obtain ⟨e, h1, h2, h3, -⟩ := nextL_x u bb n p hT hp hat
  have h700 := hT.1
  unfold fx_X9_next_1 tok
  rw [h1]
  simp only [Option.bind_some, lt_eq]
  generalize run bb n isBl p = q at *
  have b1 : SmF 1 [2, 3, 4, 5, 9] u (llSI e 1 3 (e.1 1 9)) := (h2.mono (by simp)).trans (SmF.SI (by simp))
  have hT1 := hT.of b1 (by decide)
  have c9 : (llSI e 1 3 (e.1 1 9)).1 1 9 = nI q := by rw [SI_same, upd_ne (by decide)]; exact h3
  have c3 : (llSI e 1 3 (e.1 1 9)).1 1 3 = nI q := by rw [SI_same, upd_same]; exact h3
  generalize llSI e 1 3 (e.1 1 9) = v at *
  by_cases hq : q < n
  · rw [c9, hT1.2.1, if_pos (lt2 (by omega) (by omega) hq), if_pos hq, gI_nI (by omega) (by decide), hT1.rd hq]
    have hb256 := (hT.2.2 _ hq).2
    have b2 : SmF 1 [2, 3, 4, 5, 9] u (llSI v 1 5 (nI (bb q))) := b1.trans (SmF.SI (by simp))
    have d9 : (llSI v 1 5 (nI (bb q))).1 1 9 = nI q := by rw [SI_same, upd_ne (by decide)]; exact c9
    have d3 : (llSI v 1 5 (nI (bb q))).1 1 3 = nI q := by rw [SI_same, upd_ne (by decide)]; exact c3
    have d5 : (llSI v 1 5 (nI (bb q))).1 1 5 = nI (bb q) := by rw [SI_same, upd_same]
    generalize llSI v 1 5 (nI (bb q)) = w at *
    have hT2 := hT.of b2 (by decide)
    rw [d5]
    by_cases hL : isLt (bb q) = true
    · have hb := isLt_iff.mp hL
      rw [if_neg (nltL 97 (by omega) (by decide) hb.1), if_neg (Lnlt 122 (by omega) (by decide) hb.2), if_pos hL]
      obtain ⟨z, z1, z2, z3, z4⟩ := word_x w bb n q hT2 (by omega) d9 d3
      rw [z1]
      refine ⟨z, rfl, b2.trans (z2.mono (by simp)), ?_, z3, ?_⟩
      · rw [z2.2 3 (by decide)]; exact d3
      · show if (lets bb q (run bb n isLt q - q)).length ≤ 7 then _ else _
        rw [lets_len]
        exact z4
    · have hL : isLt (bb q) = false := by simpa using hL
      have key : (if nI (bb q) < 97 then fx_X9_next_1_j115 w else if 122 < nI (bb q) then fx_X9_next_1_j115 w else bd (fx_X9_readWord_1 w) fun u8 _ => some (u8, ())) = fx_X9_next_1_j115 w := by
        rcases isLt_not hL with hb | hb
        · rw [if_pos (ltL 97 (by omega) (by decide) hb)]
        · rw [if_neg (nltL 97 (by omega) (by decide) (by omega)), if_pos (Llt 122 (by omega) (by decide) hb)]
      rw [key, if_neg (by rw [hL]; decide)]
      unfold fx_X9_next_1_j115 fx_X9_next_1_j140
      simp only [lt_eq]
      rw [d5]
      by_cases hD : isDg (bb q) = true
      · have hb := isDg_iff.mp hD
        rw [if_neg (nltL 48 (by omega) (by decide) hb.1), if_neg (Lnlt 57 (by omega) (by decide) hb.2), if_pos hD]
        obtain ⟨z, z1, z2, z3, z4⟩ := number_x w bb n q hT2 (by omega) d9 d3
        rw [z1]
        refine ⟨z, rfl, b2.trans (z2.mono (by simp)), ?_, z3, z4⟩
        rw [z2.2 3 (by decide)]; exact d3
      · have hD : isDg (bb q) = false := by simpa using hD
        rw [if_neg (show ¬ isDg (bb q) = true by rw [hD]; decide)]
        have fin : ∃ u', some (llSI (llSI w 1 2 3) 1 9 ((llSI w 1 2 3).1 1 9 + 1), ()) = some (u', ()) ∧ SmF 1 [2, 3, 4, 5, 9] u u' ∧ CT u' (q, q + 1, some (.inr (.inr (bb q)))) := by
          refine ⟨_, rfl, b2.trans ((SmF.SI (by simp)).trans (SmF.SI (by simp))), ?_, ?_, ?_, ?_⟩
          · rw [SI_same, upd_ne (by decide), SI_same, upd_ne (by decide)]; exact d3
          · rw [SI_same, upd_same, SI_same, upd_ne (by decide), d9, nI_1]
          · rw [SI_same, upd_ne (by decide), SI_same, upd_same]
          · rw [SI_same, upd_ne (by decide), SI_same, upd_ne (by decide)]; exact d5
        rcases isDg_not hD with hb | hb
        · rw [if_pos (ltL 48 (by omega) (by decide) hb)]; exact fin
        · rw [if_neg (nltL 48 (by omega) (by decide) (by omega)), if_pos (Llt 57 (by omega) (by decide) hb)]; exact fin
  · rw [c9, hT1.2.1, if_neg (nlt2 (by omega) (by omega) (by omega)), if_neg hq]
    refine ⟨_, rfl, b1.trans (SmF.SI (by simp)), ?_, ?_, ?_⟩
    · rw [SI_same, upd_ne (by decide)]; exact c3
    · rw [SI_same, upd_ne (by decide)]; exact c9
    · show (llSI v 1 2 0).1 1 2 = 0
      rw [SI_same, upd_same]
