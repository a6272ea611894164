theorem bd_mk {α β : Type} (u : llMem) (a : α) (k : llMem → α → Option β) : bd (some (u, a)) k = k u a := rfl
theorem MT.congr {u u' : llMem} {t : Tk} (h : MT u t) (h1 : u'.1 69 = u.1 69) (h2 : u'.2.1 69 = u.2.1 69) : MT u' t := by unfold MT at h ⊢; rw [h1, h2]; exact h
theorem CT.congr {u u' : llMem} {t : Tk} (h : CT u t) (h1 : u'.1 1 = u.1 1) (h2 : u'.2.1 1 = u.2.1 1) : CT u' t := by unfold CT at h ⊢; rw [h1, h2]; exact h
theorem RR.mc {x m m' : llMem} {bb : Nat → Nat} {n p : Nat} (h : RR x m bb n p) (h1 : m'.1 69 = m.1 69) (h2 : m'.2.1 69 = m.2.1 69) (h3 : m'.1 79 = m.1 79) : RR x m' bb n p := by
  obtain ⟨hT, ⟨t1, t2, t3⟩, hp, hat, hM, h0, h7, h8, h20⟩ := h
  exact ⟨hT, ⟨t1, by rw [h1]; exact t2, by rw [h3]; exact t3⟩, hp, hat, hM.congr h1 h2, by rw [h1]; exact h0, h7, h8, by rw [h1]; exact h20⟩
theorem RR.xc {x x' m : llMem} {bb : Nat → Nat} {n p : Nat} (h : RR x m bb n p) (h1 : x'.1 1 = x.1 1) (h3 : x'.1 2 = x.1 2) : RR x' m bb n p := by
  obtain ⟨⟨t1, t2, t3⟩, hTM, hp, hat, hM, h0, h7, h8, h20⟩ := h
  exact ⟨⟨t1, by rw [h1]; exact t2, by rw [h3]; exact t3⟩, hTM, hp, by rw [h1]; exact hat, hM, h0, by rw [h1]; exact h7, by rw [h1]; exact h8, h20⟩
theorem RR.m70 {x m : llMem} {bb : Nat → Nat} {n p k : Nat} {v : Int32} (h : RR x m bb n p) : RR x (llSI m 70 k v) bb n p := h.mc (SI_ne (by decide)) rfl (SI_ne (by decide))
theorem DR.m70 {x m : llMem} {nl nc : Nat} {dv sz dn nd cx cy gr : Nat → Nat} {ws : Nat → List Nat} {st : Nat → Option (Nat × Nat)} {k : Nat} {v : Int32} (h : DR x m nl nc dv sz dn nd cx cy gr ws st) (hk : 16 + 4 * nl ≤ k) : DR x (llSI m 70 k v) nl nc dv sz dn nd cx cy gr ws st := by
  obtain ⟨⟨a1, a2, a3, a4⟩, hb, hc⟩ := h
  refine ⟨⟨a1, a2, by rw [SI_ne (by decide)]; exact a3, fun l hl => ?_⟩, ?_, hc⟩
  · rw [SI_same, upd_ne (by omega), upd_ne (by omega), upd_ne (by omega), upd_ne (by omega)]
    exact a4 l hl
  · show _ ∧ _ ∧ (llSI m 70 k v).1 69 10 = _ ∧ _
    obtain ⟨b1, b2, b3, b4⟩ := hb
    refine ⟨b1, b2, by rw [SI_ne (by decide)]; exact b3, fun c hc => ?_⟩
    rw [SI_ne (i := 72) (by decide), SI_ne (i := 73) (by decide), SI_ne (i := 74) (by decide), SI_ne (i := 75) (by decide), SI_ne (i := 76) (by decide)]
    exact b4 c hc
theorem FrM.m70 {m0 m : llMem} {k : Nat} {v : Int32} (h : FrM m0 m) (hk : 16 ≤ k) : FrM m0 (llSI m 70 k v) := by
  refine h.trans ⟨fun c hc => ?_, fun j _ => by rw [SI_ne (by decide)], fun j hj => by rw [SI_same, upd_ne (by omega)], fun j _ => ?_⟩
  · have : c ≠ 70 := fun e => hc (by rw [e]; simp)
    exact ⟨SI_ne this, rfl, rfl⟩
  · rw [SI_ne (i := 72) (by decide), SI_ne (i := 73) (by decide), SI_ne (i := 74) (by decide), SI_ne (i := 75) (by decide), SI_ne (i := 76) (by decide)]
    exact ⟨rfl, rfl, rfl, rfl, rfl, rfl⟩
theorem numL {v : Nat} (b : Nat) (hv : v ≤ 999) (hb : b < 2 ^ 31) (h : ¬ nI v < (OfNat.ofNat b : Int32)) : b ≤ v := Nat.le_of_not_lt (fun q => h (ltL b (by omega) hb q))
theorem numU {v : Nat} (b : Nat) (hv : v ≤ 999) (hb : b < 2 ^ 31) (h : nI v ≤ (OfNat.ofNat b : Int32)) : v ≤ b := (nI_leI (by omega) hb).mp h
/-- lays(): a number into its place -/
theorem lays_L {x m : llMem} {bb : Nat → Nat} {n p : Nat} (h : RR x m bb n p) (a0 a1 : Int32) {q : Nat} (hq : q < 32) {z : Int32} (hz : z = nI q) :
    (∃ v x' m', v ≤ 999 ∧ ¬ nI v < a0 ∧ nI v ≤ a1 ∧ fx_X9_takeNumber_1 x a0 a1 = some (x', nI v) ∧ fx_X12_lays_69 m z a0 a1 = some (llSI m' 70 q (nI v), 1) ∧ SmF 1 kX x x' ∧ SmF 69 kM m m' ∧ RR x' (llSI m' 70 q (nI v)) bb n (tok bb n p).2.1 ∧ p < (tok bb n p).2.1) ∨
    (∃ x' m', fx_X9_takeNumber_1 x a0 a1 = some (x', -1) ∧ fx_X12_lays_69 m z a0 a1 = some (m', 0) ∧ SmF 1 kX x x' ∧ SmF 69 kM m m' ∧ BB x' m') := by
  have hd := tokD h.1 h.2.2.1
  rcases num_L h a0 a1 with ⟨v, x', m', v1, v2, v3, hn, e1, e2, e3, e4, e5, e6, -⟩ | ⟨x', m', e1, e2, e3, e4, e5⟩
  · refine Or.inl ⟨v, x', m', v1, v2, v3, e1, ?_, e4, e5, e6.m70, ?_⟩
    · unfold fx_X12_lays_69
      rw [e2, bd_mk]
      simp only [lt_eq, gB_1]
      rw [if_pos (by decide), hz, gI_nI hq (by decide), nI_clamp (by omega), e3]
    · have := hd.2.2.2 (by rw [hn.1]; simp)
      omega
  · refine Or.inr ⟨x', m', e1, ?_, e3, e4, e5⟩
    unfold fx_X12_lays_69
    rw [e2, bd_mk]
    simp only [gB_0]
    simp
theorem nI_sub0 : ∀ (v : Nat), ¬ nI v = -1 ∨ 2 ^ 31 ≤ v := by
  intro v
  rcases Nat.lt_or_ge v (2 ^ 31) with h | h
  · refine Or.inl (fun q => ?_)
    have := congrArg Int32.toInt q
    rw [nI_toInt h] at this
    revert this
    show ¬ ((v : Nat) : Int) = -1
    omega
  · exact Or.inr h
theorem nI_nm1 {v : Nat} (h : v < 2 ^ 31) : ¬ nI v = -1 := (nI_sub0 v).resolve_right (by omega)
theorem MT.f {u u' : llMem} {t : Tk} (h : MT u t) (h1 : u'.1 69 22 = u.1 69 22) (h2 : u'.1 69 23 = u.1 69 23) (h3 : u'.1 69 21 = u.1 69 21) (h4 : u'.2.1 69 24 = u.2.1 69 24) (h5 : u'.1 69 25 = u.1 69 25) (h6 : u'.1 69 26 = u.1 69 26) : MT u' t := by
  unfold MT at h ⊢; rw [h1, h2, h3, h4, h5, h6]; exact h
theorem RR.m69 {x m : llMem} {bb : Nat → Nat} {n p k : Nat} {v : Int32} (h : RR x m bb n p) (hk : k ∉ [16, 19, 20, 21, 22, 23, 25, 26]) : RR x (llSI m 69 k v) bb n p := by
  obtain ⟨hT, ⟨t1, t2, t3⟩, hp, hat, hM, h0, h7, h8, h20⟩ := h
  have e : ∀ j, j ∈ [16, 19, 20, 21, 22, 23, 25, 26] → (llSI m 69 k v).1 69 j = m.1 69 j := fun j hj => by rw [SI_same]; exact upd_ne (fun q => hk (q ▸ hj))
  exact ⟨hT, ⟨t1, by rw [e 16 (by simp)]; exact t2, by rw [SI_ne (by decide)]; exact t3⟩, hp, hat, hM.f (e 22 (by simp)) (e 23 (by simp)) (e 21 (by simp)) rfl (e 25 (by simp)) (e 26 (by simp)), by rw [e 19 (by simp)]; exact h0, h7, h8, by rw [e 20 (by simp)]; exact h20⟩
theorem FrM.m69 {m0 m : llMem} {k : Nat} {v : Int32} (h : FrM m0 m) (hk : k ∈ [2, 10, 19, 20, 21, 22, 23, 25, 26, 27]) : FrM m0 (llSI m 69 k v) := by
  refine h.trans ⟨fun c hc => ?_, fun j hj => by rw [SI_same]; exact upd_ne (fun q => hj (q ▸ hk)), fun j hj => by rw [SI_ne (by decide)], fun j _ => ?_⟩
  · have : c ≠ 69 := fun e => hc (by rw [e]; simp)
    exact ⟨SI_ne this, rfl, rfl⟩
  · rw [SI_ne (i := 72) (by decide), SI_ne (i := 73) (by decide), SI_ne (i := 74) (by decide), SI_ne (i := 75) (by decide), SI_ne (i := 76) (by decide)]
    exact ⟨rfl, rfl, rfl, rfl, rfl, rfl⟩
theorem FrX.SI {x0 x : llMem} {c k : Nat} {v : Int32} (h : FrX x0 x) (hc : c ∈ [31, 32, 33, 34, 35, 36, 37, 38, 39, 40, 41]) : FrX x0 (llSI x c k v) := by
  refine h.trans ⟨fun i hi => ?_, ?_⟩
  · have : i ≠ c := fun e => hi (by rw [e]; exact List.mem_cons_of_mem _ hc)
    exact ⟨SI_ne this, rfl, rfl⟩
  · rw [SI_ne (fun e => by rw [← e] at hc; revert hc; decide)]
theorem cnt_0 {p : Nat → Prop} {dp : ∀ i, Decidable (p i)} : ∀ (n : Nat), (∀ i, i < n → ¬ p i) → cnt p dp n = 0
  | 0, _ => rfl
  | n + 1, h => by rw [cnt_f (h n (by omega))]; exact cnt_0 n (fun i hi => h i (by omega))
def upN (f : Nat → Nat) (k v : Nat) : Nat → Nat := fun j => if j = k then v else f j
theorem upN_same (f : Nat → Nat) (k v : Nat) : upN f k v k = v := by simp [upN]
theorem upN_ne {f : Nat → Nat} {k v j : Nat} (h : j ≠ k) : upN f k v j = f j := by simp [upN, h]
theorem DR.addLevel {x m x' m' : llMem} {nl nc : Nat} {dv sz dn nd cx cy gr : Nat → Nat} {ws : Nat → List Nat} {st : Nat → Option (Nat × Nat)} (h : DR x m nl nc dv sz dn nd cx cy gr ws st) (hl : nl < 4) {v1 v2 v3 v4 : Nat} (g1 : 1 ≤ v1) (g2 : v1 ≤ 3) (g3 : 2 ≤ v2) (g4 : v2 ≤ 6) (g5 : v1 * v2 ≤ 12) (g6 : v3 ≤ 6) (g7 : v4 ≤ 9)
    (x0 : x'.1 31 0 = nI (nl + 1)) (x5 : x'.1 31 5 = x.1 31 5) (x32 : x'.1 32 = upd (x.1 32) nl (nI v1)) (x33 : x'.1 33 = upd (x.1 33) nl (nI v2)) (x34 : x'.1 34 = upd (x.1 34) nl (nI v3)) (x35 : x'.1 35 = upd (x.1 35) nl (nI v4)) (xr : ∀ c, c ∈ [36, 37, 38, 39, 40, 41] → x'.1 c = x.1 c ∧ x'.2.1 c = x.2.1 c)
    (m2 : m'.1 69 2 = nI (nl + 1)) (m10 : m'.1 69 10 = m.1 69 10) (mr : ∀ c, c ∈ [70, 71, 72, 73, 74, 75, 76] → m'.1 c = m.1 c ∧ m'.2.1 c = m.2.1 c) (w1 : m.1 70 (16 + 4 * nl) = nI v1) (w2 : m.1 70 (16 + 4 * nl + 1) = nI v2) (w3 : m.1 70 (16 + 4 * nl + 2) = nI v3) (w4 : m.1 70 (16 + 4 * nl + 3) = nI v4) :
    DR x' m' (nl + 1) nc (upN dv nl v1) (upN sz nl v2) (upN dn nl v3) (upN nd nl v4) cx cy gr ws st := by
  obtain ⟨⟨a1, a2, a3, a4⟩, ⟨b1, b2, b3, b4⟩, hc⟩ := h
  refine ⟨⟨by omega, x0, m2, fun l hl' => ?_⟩, ⟨b1, by rw [x5]; exact b2, by rw [m10]; exact b3, fun c hc' => ?_⟩, fun l d hl' hd => ?_⟩
  · rw [x32, x33, x34, x35, (mr 70 (by simp)).1]
    by_cases e : l = nl
    · subst e
      simp only [upd_same, upN_same]
      exact ⟨trivial, trivial, trivial, trivial, w1, w2, w3, w4, g1, g2, g3, g4, g5, g6, g7⟩
    · simp only [upd_ne e, upN_ne e]
      exact a4 l (by omega)
  · rw [(xr 36 (by simp)).2, (xr 37 (by simp)).1, (xr 38 (by simp)).1, (xr 39 (by simp)).1, (xr 40 (by simp)).1, (xr 41 (by simp)).1, (mr 71 (by simp)).2, (mr 72 (by simp)).1, (mr 73 (by simp)).1, (mr 74 (by simp)).1, (mr 75 (by simp)).1, (mr 76 (by simp)).1]
    obtain ⟨d1, d2, d3, d4, d5, d6, d7, d8, d9, e1, e2, e3, e4, e5, e6⟩ := b4 c hc'
    refine ⟨d1, d2, d3, d4, d5, d6, d7, d8, d9, e1, e2, e3, e4, e5, ?_⟩
    revert e6
    cases st c with
    | none => exact id
    | some q =>
      obtain ⟨l, d⟩ := q
      rintro ⟨f1, f2, f3, f4⟩
      exact ⟨by omega, by rw [upN_ne (by omega)]; exact f2, f3, f4⟩
  · by_cases e : l = nl
    · subst e
      have : inDiv st l d nc = 0 := cnt_0 nc (fun i hi q => by
        have := (b4 i hi).2.2.2.2.2.2.2.2.2.2.2.2.2.2
        rw [q] at this
        have := this.1
        omega)
      omega
    · rw [upN_ne e] at hd ⊢
      exact hc l d (by omega) hd
set_option maxHeartbeats 2000000 in
/-- a line of a level, in step -/
theorem level_L {x m : llMem} {bb : Nat → Nat} {n p0 : Nat} {nl nc : Nat} {dv sz dn nd cx cy gr : Nat → Nat} {ws : Nat → List Nat} {st : Nat → Option (Nat × Nat)} (hD : DR x m nl nc dv sz dn nd cx cy gr ws st) (hT : TX x bb n) (hTM : TM m bb n) (hp : p0 ≤ n) (hC0 : CT x (tok bb n p0)) (hM0 : MT m (tok bb n p0)) (h0 : m.1 69 19 = 0) (h7 : x.1 1 7 = 0) (h8 : x.1 1 8 = -1) (h20 : m.1 69 20 = -1) (hne : (tok bb n p0).2.2 ≠ none) :
    (∃ x' m' dv' sz' dn' nd' p', fx_X6_readLevel_30 x (nI nl) = some (x', 1) ∧ bd (fx_X12_readLevel_69 m) (fun u r => fx_X12_readLine_69_j37 u r) = some (m', 1) ∧ DR x' m' (nl + 1) nc dv' sz' dn' nd' cx cy gr ws st ∧ RR x' m' bb n p' ∧ p0 < p' ∧ FrX x x' ∧ FrM m m') ∨
    (∃ x' m', fx_X6_readLevel_30 x (nI nl) = some (x', 0) ∧ bd (fx_X12_readLevel_69 m) (fun u r => fx_X12_readLine_69_j37 u r) = some (m', 0) ∧ BB x' m' ∧ FrX x x' ∧ FrM m m') := by
  have hd := tokD hT hp
  have hpos := hd.2.2.2 hne
  generalize hC : fx_X6_readLevel_30 x (nI nl) = C
  generalize hM : bd (fx_X12_readLevel_69 m) (fun u r => fx_X12_readLine_69_j37 u r) = M
  unfold fx_X6_readLevel_30 at hC
  unfold fx_X12_readLevel_69 fx_X12_readLine_69_j37 at hM
  have hnl := hD.1.1
  rw [hD.1.2.2.1] at hM
  by_cases hl4 : nl = 4
  · subst hl4
    obtain ⟨x', e1, e2, e3⟩ := fail_x x 4 _ hC0.1
    obtain ⟨m', f1, f2, f3⟩ := fails_m m 4 _ hM0.1 h0
    rw [if_neg (show ¬ nI 4 < 4 by decide), e1, bd_mk, gB_0] at hC
    rw [if_neg (show ¬ ¬ nI 4 = 4 by decide), f1, bd_mk, gB_0, bd_mk] at hM
    simp only [gB_0, if_pos] at hM
    exact Or.inr ⟨x', m', hC.symm, hM.symm, ⟨4, _, by decide, e3, f3⟩, FrX.of (e2.mono (by simp)), FrM.of (f2.mono (by simp))⟩
  rw [if_pos (ltL 4 (by omega) (by decide) (by omega))] at hC
  obtain ⟨m1, g1, g2, g3⟩ := next_m m bb n (tok bb n p0).2.1 hTM hd.2.2.1 hM0.2.1
  have hM2 : m1.1 69 2 = nI nl := by rw [g2.2 2 (by decide)]; exact hD.1.2.2.1
  rw [if_pos (neL 4 (by omega) (by decide) hl4), g1, bd_mk] at hM
  simp only [lt_eq] at hM
  have e16 : (4 : Int32) * (4 + nI nl) = nI (16 + 4 * nl) := by
    rw [show (4 : Int32) = nI 4 from rfl, nI_add, pk_mul]; congr 1; omega
  rw [hM2, e16] at hM
  have F1 : FrM m m1 := FrM.of (g2.mono (by simp))
  have D1 : DR x m1 nl nc dv sz dn nd cx cy gr ws st := hD.of (SmF.refl _ _ _) (g2.mono (by simp))
  have R1 : RR x m1 bb n (tok bb n p0).2.1 := ⟨hT, hTM.of g2 (by decide), hd.2.2.1, hC0.at, g3, by rw [g2.2 19 (by decide)]; exact h0, h7, h8, by rw [g2.2 20 (by decide)]; exact h20⟩
  have z0 : nI (16 + 4 * nl) + 0 = nI (16 + 4 * nl) := nI_add _ 0
  have z1 : nI (16 + 4 * nl) + 1 = nI (16 + 4 * nl + 1) := nI_add _ 1
  have z2 : nI (16 + 4 * nl) + 2 = nI (16 + 4 * nl + 2) := nI_add _ 2
  have z3 : nI (16 + 4 * nl) + 3 = nI (16 + 4 * nl + 3) := nI_add _ 3
  rw [z0, z1, z2, z3] at hM
  generalize hp1 : (tok bb n p0).2.1 = p1 at *
  -- divisions
  rcases lays_L R1 1 3 (q := 16 + 4 * nl) (by omega) rfl with ⟨v1, x1, m2, a1, a2, a3, a4, a5, a6, a7, R2, q1⟩ | ⟨x1, m2, a4, a5, a6, a7, aB⟩
  case inr =>
    rw [a4, bd_mk, if_pos (by decide), gB_0] at hC
    rw [a5, bd_mk] at hM
    simp only [gB_0, bd_mk, if_pos] at hM
    exact Or.inr ⟨x1, m2, hC.symm, hM.symm, aB, FrX.of a6, F1.trans (FrM.of a7)⟩
  have b1 := numL 1 a1 (by decide) a2
  have b2 := numU 3 a1 (by decide) a3
  rw [a4, bd_mk, if_neg (nltL 1 (by omega) (by decide) b1)] at hC
  rw [a5, bd_mk, if_neg (by decide)] at hM
  have FX1 := FrX.of a6
  have F2 : FrM m (llSI m2 70 (16 + 4 * nl) (nI v1)) := (F1.trans (FrM.of a7)).m70 (by omega)
  have D2 : DR x1 (llSI m2 70 (16 + 4 * nl) (nI v1)) nl nc dv sz dn nd cx cy gr ws st := (D1.of a6 a7).m70 (by omega)
  have s1 : (llSI m2 70 (16 + 4 * nl) (nI v1)).1 70 (16 + 4 * nl) = nI v1 := by rw [SI_same, upd_same]
  generalize llSI m2 70 (16 + 4 * nl) (nI v1) = m3 at *
  generalize hp2 : (tok bb n p1).2.1 = p2 at *
  -- of
  rcases word_L1 R2 with ⟨x2, m4, -, c4, c5, c6, c7, R3⟩ | ⟨x2, m4, c4, c5, c6, c7, cB⟩
  case inr =>
    rw [c4, bd_mk, if_neg (by simp), gB_0] at hC
    rw [c5, bd_mk] at hM
    simp only [gB_0, bd_mk, if_pos] at hM
    exact Or.inr ⟨x2, m4, hC.symm, hM.symm, cB, FX1.trans (FrX.of c6), F2.trans (FrM.of c7)⟩
  have s2 : m4.1 70 (16 + 4 * nl) = nI v1 := by rw [(c7.1 70 (by decide)).1]; exact s1
  have r70 : rI m4 70 (nI (16 + 4 * nl)) = nI v1 := by unfold rI; rw [nI_clamp (by omega)]; exact s2
  have q2 : p1 < p2 ∧ p2 ≤ (tok bb n p2).2.1 := ⟨q1, by have := (tokD R2.1 R2.2.2.1).2.1; have := (tokD R2.1 R2.2.2.1).1.1; omega⟩
  rw [c4, bd_mk, if_pos (by decide), gZ_ok (neL 0 (by omega) (by decide) (by omega))] at hC
  rw [c5, bd_mk, if_neg (by decide), gI_nI (by omega) (by decide), r70, gZ_ok (neL 0 (by omega) (by decide) (by omega))] at hM
  have FX2 := FX1.trans (FrX.of c6)
  have F3 := F2.trans (FrM.of c7)
  have D3 := D2.of c6 c7
  generalize hp3 : (tok bb n p2).2.1 = p3 at *
  have eB : (if (12 : Int32) / nI v1 < 6 then (12 : Int32) / nI v1 else 6) = nI (if 12 / v1 < 6 then 12 / v1 else 6) := by
    rcases (show v1 = 1 ∨ v1 = 2 ∨ v1 = 3 by omega) with rfl | rfl | rfl <;> decide
  rw [eB] at hC hM
  -- size
  rcases lays_L R3 2 (nI (if 12 / v1 < 6 then 12 / v1 else 6)) (q := 16 + 4 * nl + 1) (by omega) rfl with ⟨v2, x3, m5, d1, d2, d3, d4, d5, d6, d7, R4, q3⟩ | ⟨x3, m5, d4, d5, d6, d7, dB⟩
  case inr =>
    rw [d4, bd_mk, if_pos rfl, gB_0] at hC
    rw [d5, bd_mk] at hM
    simp only [gB_0, bd_mk, if_pos] at hM
    refine Or.inr ⟨x3, m5, hC.symm, ?_, dB, FX2.trans (FrX.of d6), F3.trans (FrM.of d7)⟩
    rw [← hM]; simp [bd_mk]
  have b3 := numL 2 d1 (by decide) d2
  have b4 : v2 ≤ (if 12 / v1 < 6 then 12 / v1 else 6) := (nI_leI (by omega) (by split <;> omega)).mp d3
  rw [d4, bd_mk, if_neg (nI_nm1 (by omega))] at hC
  rw [d5, bd_mk, if_pos (by decide)] at hM
  have FX3 := FX2.trans (FrX.of d6)
  have F4 : FrM m (llSI m5 70 (16 + 4 * nl + 1) (nI v2)) := (F3.trans (FrM.of d7)).m70 (by omega)
  have D4 : DR x3 (llSI m5 70 (16 + 4 * nl + 1) (nI v2)) nl nc dv sz dn nd cx cy gr ws st := (D3.of d6 d7).m70 (by omega)
  have s3 : (llSI m5 70 (16 + 4 * nl + 1) (nI v2)).1 70 (16 + 4 * nl) = nI v1 := by rw [SI_same, upd_ne (by omega), (d7.1 70 (by decide)).1]; exact s2
  have s4 : (llSI m5 70 (16 + 4 * nl + 1) (nI v2)).1 70 (16 + 4 * nl + 1) = nI v2 := by rw [SI_same, upd_same]
  generalize llSI m5 70 (16 + 4 * nl + 1) (nI v2) = m6 at *
  generalize hp4 : (tok bb n p3).2.1 = p4 at *
  -- down
  rcases word_L2 R4 with ⟨x4, m7, -, e4, e5, e6, e7, R5⟩ | ⟨x4, m7, e4, e5, e6, e7, eB2⟩
  case inr =>
    rw [e4, bd_mk, if_neg (by simp), gB_0] at hC
    rw [e5, bd_mk] at hM
    simp only [gB_0, bd_mk, if_pos] at hM
    exact Or.inr ⟨x4, m7, hC.symm, hM.symm, eB2, FX3.trans (FrX.of e6), F4.trans (FrM.of e7)⟩
  have q4 : p4 ≤ (tok bb n p4).2.1 := by have := (tokD R4.1 R4.2.2.1).2.1; have := (tokD R4.1 R4.2.2.1).1.1; omega
  rw [e4, bd_mk, if_pos (by decide)] at hC
  rw [e5, bd_mk, if_neg (by decide)] at hM
  have FX4 := FX3.trans (FrX.of e6)
  have F5 := F4.trans (FrM.of e7)
  have D5 := D4.of e6 e7
  have s5 : m7.1 70 (16 + 4 * nl) = nI v1 := by rw [(e7.1 70 (by decide)).1]; exact s3
  have s6 : m7.1 70 (16 + 4 * nl + 1) = nI v2 := by rw [(e7.1 70 (by decide)).1]; exact s4
  generalize hp5 : (tok bb n p4).2.1 = p5 at *
  rcases lays_L R5 0 6 (q := 16 + 4 * nl + 2) (by omega) rfl with ⟨v3, x5, m8, f1, f2, f3, f4, f5, f6, f7, R6, q5⟩ | ⟨x5, m8, f4, f5, f6, f7, fB⟩
  case inr =>
    rw [f4, bd_mk, if_pos rfl, gB_0] at hC
    rw [f5, bd_mk] at hM
    simp only [gB_0, bd_mk, if_pos] at hM
    exact Or.inr ⟨x5, m8, hC.symm, hM.symm, fB, FX4.trans (FrX.of f6), F5.trans (FrM.of f7)⟩
  have b5 := numU 6 f1 (by decide) f3
  rw [f4, bd_mk, if_neg (nI_nm1 (by omega))] at hC
  rw [f5, bd_mk, if_neg (by decide)] at hM
  have FX5 := FX4.trans (FrX.of f6)
  have F6 : FrM m (llSI m8 70 (16 + 4 * nl + 2) (nI v3)) := (F5.trans (FrM.of f7)).m70 (by omega)
  have D6 : DR x5 (llSI m8 70 (16 + 4 * nl + 2) (nI v3)) nl nc dv sz dn nd cx cy gr ws st := (D5.of f6 f7).m70 (by omega)
  have s7 : (llSI m8 70 (16 + 4 * nl + 2) (nI v3)).1 70 (16 + 4 * nl) = nI v1 := by rw [SI_same, upd_ne (by omega), (f7.1 70 (by decide)).1]; exact s5
  have s8 : (llSI m8 70 (16 + 4 * nl + 2) (nI v3)).1 70 (16 + 4 * nl + 1) = nI v2 := by rw [SI_same, upd_ne (by omega), (f7.1 70 (by decide)).1]; exact s6
  have s9 : (llSI m8 70 (16 + 4 * nl + 2) (nI v3)).1 70 (16 + 4 * nl + 2) = nI v3 := by rw [SI_same, upd_same]
  generalize llSI m8 70 (16 + 4 * nl + 2) (nI v3) = m9 at *
  generalize hp6 : (tok bb n p5).2.1 = p6 at *
  -- need
  rcases word_L3 R6 with ⟨x6, ma, -, g4, g5, g6, g7, R7⟩ | ⟨x6, ma, g4, g5, g6, g7, gB2⟩
  case inr =>
    rw [g4, bd_mk, if_neg (by simp), gB_0] at hC
    rw [g5, bd_mk] at hM
    simp only [gB_0, bd_mk, if_pos] at hM
    exact Or.inr ⟨x6, ma, hC.symm, hM.symm, gB2, FX5.trans (FrX.of g6), F6.trans (FrM.of g7)⟩
  have q6 : p6 ≤ (tok bb n p6).2.1 := by have := (tokD R6.1 R6.2.2.1).2.1; have := (tokD R6.1 R6.2.2.1).1.1; omega
  rw [g4, bd_mk, if_pos (by decide)] at hC
  rw [g5, bd_mk, if_neg (by decide)] at hM
  have FX6 := FX5.trans (FrX.of g6)
  have F7 := F6.trans (FrM.of g7)
  have D7 := D6.of g6 g7
  have t1 : ma.1 70 (16 + 4 * nl) = nI v1 := by rw [(g7.1 70 (by decide)).1]; exact s7
  have t2 : ma.1 70 (16 + 4 * nl + 1) = nI v2 := by rw [(g7.1 70 (by decide)).1]; exact s8
  have t3 : ma.1 70 (16 + 4 * nl + 2) = nI v3 := by rw [(g7.1 70 (by decide)).1]; exact s9
  generalize hp7 : (tok bb n p6).2.1 = p7 at *
  rcases lays_L R7 0 9 (q := 16 + 4 * nl + 3) (by omega) rfl with ⟨v4, x7, mb, h1, h2, h3, h4, h5, h6, h7', R8, q7⟩ | ⟨x7, mb, h4, h5, h6, h7', hB⟩
  case inr =>
    rw [h4, bd_mk, if_pos rfl, gB_0] at hC
    rw [h5, bd_mk] at hM
    simp only [gB_0, bd_mk, if_pos] at hM
    refine Or.inr ⟨x7, mb, hC.symm, ?_, hB, FX6.trans (FrX.of h6), F7.trans (FrM.of h7')⟩
    rw [← hM]; simp [bd_mk]
  have b6 := numU 9 h1 (by decide) h3
  rw [h4, bd_mk, if_neg (nI_nm1 (by omega))] at hC
  rw [h5, bd_mk, if_pos (by decide)] at hM
  have FX7 := FX6.trans (FrX.of h6)
  have F8 : FrM m (llSI mb 70 (16 + 4 * nl + 3) (nI v4)) := (F7.trans (FrM.of h7')).m70 (by omega)
  have D8 : DR x7 (llSI mb 70 (16 + 4 * nl + 3) (nI v4)) nl nc dv sz dn nd cx cy gr ws st := (D7.of h6 h7').m70 (by omega)
  have w1 : (llSI mb 70 (16 + 4 * nl + 3) (nI v4)).1 70 (16 + 4 * nl) = nI v1 := by rw [SI_same, upd_ne (by omega), (h7'.1 70 (by decide)).1]; exact t1
  have w2 : (llSI mb 70 (16 + 4 * nl + 3) (nI v4)).1 70 (16 + 4 * nl + 1) = nI v2 := by rw [SI_same, upd_ne (by omega), (h7'.1 70 (by decide)).1]; exact t2
  have w3 : (llSI mb 70 (16 + 4 * nl + 3) (nI v4)).1 70 (16 + 4 * nl + 2) = nI v3 := by rw [SI_same, upd_ne (by omega), (h7'.1 70 (by decide)).1]; exact t3
  have w4 : (llSI mb 70 (16 + 4 * nl + 3) (nI v4)).1 70 (16 + 4 * nl + 3) = nI v4 := by rw [SI_same, upd_same]
  generalize llSI mb 70 (16 + 4 * nl + 3) (nI v4) = mc at *
  generalize hp8 : (tok bb n p7).2.1 = p8 at *
  -- the level counts
  have k2 : mc.1 69 2 = nI nl := D8.1.2.2.1
  simp only [lt_eq, gB_1, bd_mk] at hM
  rw [k2, nI_1, if_neg (show ¬ (1 : Int32) = 0 by decide)] at hM
  have R9 : RR x7 (llSI mc 69 2 (nI (nl + 1))) bb n p8 := R8.m69 (by decide)
  have F9 : FrM m (llSI mc 69 2 (nI (nl + 1))) := F8.m69 (by decide)
  rcases sign_L R9 (k := 59) (by decide) (z := 59) rfl with ⟨x8, md, -, i4, i5, i6, i7, R10⟩ | ⟨x8, md, i4, i5, i6, i7, iB⟩
  case inr =>
    rw [i4, bd_mk, if_neg (by simp), gB_0] at hC
    rw [i5, bd_mk, if_pos rfl, gB_0] at hM
    exact Or.inr ⟨x8, md, hC.symm, hM.symm, iB, FX7.trans (FrX.of i6), F9.trans (FrM.of i7)⟩
  have q8 : p8 ≤ (tok bb n p8).2.1 := by have := (tokD R9.1 R9.2.2.1).2.1; have := (tokD R9.1 R9.2.2.1).1.1; omega
  rw [i4, bd_mk, if_pos (by decide)] at hC
  rw [i5, bd_mk, if_neg (by decide)] at hM
  have c4 : nl < 4 := by omega
  simp only [gI_nI c4 (show 4 < 2 ^ 31 by decide), lt_eq, gB_1, nI_clamp (show nl < 2 ^ 31 by omega), nI_1] at hC
  refine Or.inl ⟨_, md, upN dv nl v1, upN sz nl v2, upN dn nl v3, upN nd nl v4, _, hC.symm, hM.symm, ?_, R10.xc ?_ ?_, by omega, ?_, F9.trans (FrM.of i7)⟩
  · have h12 : v1 * v2 ≤ 12 := by
      rcases (show v1 = 1 ∨ v1 = 2 ∨ v1 = 3 by omega) with rfl | rfl | rfl <;> simp at b4 <;> omega
    refine D8.addLevel (v1 := v1) (v2 := v2) (v3 := v3) (v4 := v4) c4 b1 b2 b3 (by split at b4 <;> omega) h12 b5 b6 ?_ ?_ ?_ ?_ ?_ ?_ ?_ ?_ ?_ ?_ w1 w2 w3 w4
    · simp [llSI, llSA, upd]
    · simp [llSI, llSA, upd, (i6.1 31 (by decide)).1]
    · simp [llSI, llSA, (i6.1 32 (by decide)).1]
    · simp [llSI, llSA, (i6.1 33 (by decide)).1]
    · simp [llSI, llSA, (i6.1 34 (by decide)).1]
    · simp [llSI, llSA, (i6.1 35 (by decide)).1]
    · intro c hc
      have n1 : c ≠ 1 := fun e => by rw [e] at hc; revert hc; decide
      have n2 : c ≠ 31 := fun e => by rw [e] at hc; revert hc; decide
      have n3 : c ≠ 32 := fun e => by rw [e] at hc; revert hc; decide
      have n4 : c ≠ 33 := fun e => by rw [e] at hc; revert hc; decide
      have n5 : c ≠ 34 := fun e => by rw [e] at hc; revert hc; decide
      have n6 : c ≠ 35 := fun e => by rw [e] at hc; revert hc; decide
      exact ⟨by rw [SI_ne n2, SI_ne n6, SI_ne n5, SI_ne n4, SI_ne n3]; exact (i6.1 c n1).1, (i6.1 c n1).2.1⟩
    · rw [i7.2 2 (by decide), SI_same, upd_same]
    · rw [i7.2 10 (by decide), SI_same, upd_ne (by decide)]
    · intro c hc
      have n1 : c ≠ 69 := fun e => by rw [e] at hc; revert hc; decide
      exact ⟨by rw [(i7.1 c n1).1, SI_ne n1], (i7.1 c n1).2.1⟩
  · simp [llSI, llSA]
  · simp [llSI, llSA]
  · exact ((((((FX7.trans (FrX.of i6)).SI (by decide)).SI (by decide)).SI (by decide)).SI (by decide)).SI (by decide))
