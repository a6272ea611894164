/-! readers in step: x the class's memory, m the reference's -/
/-- a name: a word that is none of the seven -/
def okN (w : List Nat) : Prop := okW w ∧ w ∉ kws
def RR (x m : llMem) (bb : Nat → Nat) (n p : Nat) : Prop := TX x bb n ∧ TM m bb n ∧ p ≤ n ∧ x.1 1 9 = nI p ∧ MT m (tok bb n p) ∧ m.1 69 19 = 0 ∧ x.1 1 7 = 0 ∧ x.1 1 8 = -1 ∧ m.1 69 20 = -1
/-- both have the same fault -/
def BB (x m : llMem) : Prop := ∃ (k : Int32) (pl : Nat), k ≠ 0 ∧ FX x k pl ∧ FM m k pl
theorem num_L {x m : llMem} {bb : Nat → Nat} {n p : Nat} (h : RR x m bb n p) (a0 a1 : Int32) :
    (∃ v x' m', v ≤ 999 ∧ ¬ nI v < a0 ∧ nI v ≤ a1 ∧ isNum (tok bb n p) v ∧ fx_X9_takeNumber_1 x a0 a1 = some (x', nI v) ∧ fx_X12_readNumber_69 m a0 a1 = some (m', 1) ∧ m'.1 69 27 = nI v ∧ SmF 1 kX x x' ∧ SmF 69 kM m m' ∧ RR x' m' bb n (tok bb n p).2.1 ∧ CT x' (tok bb n p)) ∨
    (∃ x' m', fx_X9_takeNumber_1 x a0 a1 = some (x', -1) ∧ fx_X12_readNumber_69 m a0 a1 = some (m', 0) ∧ SmF 1 kX x x' ∧ SmF 69 kM m m' ∧ BB x' m') := by
  obtain ⟨hT, hTM, hp, hat, hM, h0, h7, h8, h20⟩ := h
  obtain ⟨c1, c2, c3⟩ := takeNumber_x hT hp hat a0 a1
  obtain ⟨d1, d2, d3⟩ := readNumber_m hTM hp hM h0 a0 a1
  have hd := tokD hT hp
  rcases Classical.em (∃ v, isNum (tok bb n p) v) with ⟨v, hv⟩ | hv
  · have hv9 : v ≤ 999 := by
      have h3 := hd.1.2.2
      rw [hv.1] at h3
      exact h3 hv.2
    rcases Classical.em (¬ nI v < a0 ∧ nI v ≤ a1) with ⟨g1, g2⟩ | g
    · obtain ⟨x', e1, e2, e3, e4, e5⟩ := c1 v hv g1 g2
      obtain ⟨m', f1, f2, f3, f4, f5, f6⟩ := d1 v hv g1 g2
      exact Or.inl ⟨v, x', m', hv9, g1, g2, hv, e1, f1, f5, e2, f2, ⟨hT.of e2 (by decide), hTM.of f2 (by decide), hd.2.2.1, e5.at, f6, f3, e3.trans h7, e4.trans h8, f4.trans h20⟩, e5⟩
    · have g' : nI v < a0 ∨ ¬ nI v ≤ a1 := by
        rcases Classical.em (nI v < a0) with q | q
        · exact Or.inl q
        · exact Or.inr (fun q2 => g ⟨q, q2⟩)
      obtain ⟨x', e1, e2, e3⟩ := c2 v hv g'
      obtain ⟨m', f1, f2, f3⟩ := d2 v hv g'
      exact Or.inr ⟨x', m', e1, f1, e2, f2, 3, _, by decide, e3, f3⟩
  · obtain ⟨x', e1, e2, e3⟩ := c3 (fun v q => hv ⟨v, q⟩)
    obtain ⟨m', f1, f2, f3⟩ := d3 (fun v q => hv ⟨v, q⟩)
    exact Or.inr ⟨x', m', e1, f1, e2, f2, 1, _, by decide, e3, f3⟩
theorem sign_L {x m : llMem} {bb : Nat → Nat} {n p : Nat} (h : RR x m bb n p) {k : Nat} (hk : k < 256) {z : Int32} (hz : z = nI k) :
    (∃ x' m', (tok bb n p).2.2 = some (.inr (.inr k)) ∧ fx_X9_takeSign_1 x z = some (x', 1) ∧ fx_X12_takesSign_69 m z = some (m', 1) ∧ SmF 1 kX x x' ∧ SmF 69 kM m m' ∧ RR x' m' bb n (tok bb n p).2.1) ∨
    (∃ x' m', fx_X9_takeSign_1 x z = some (x', 0) ∧ fx_X12_takesSign_69 m z = some (m', 0) ∧ SmF 1 kX x x' ∧ SmF 69 kM m m' ∧ BB x' m') := by
  obtain ⟨hT, hTM, hp, hat, hM, h0, h7, h8, h20⟩ := h
  obtain ⟨c1, c2⟩ := takeSign_x hT hp hat hk hz
  obtain ⟨d1, d2⟩ := takesSign_m hTM hp hM h0 hk hz
  have hd := tokD hT hp
  rcases Classical.em ((tok bb n p).2.2 = some (.inr (.inr k))) with g | g
  · obtain ⟨x', e1, e2, e3, e4, e5⟩ := c1 g
    obtain ⟨m', f1, f2, f3, f4, f6⟩ := d1 g
    exact Or.inl ⟨x', m', g, e1, f1, e2, f2, ⟨hT.of e2 (by decide), hTM.of f2 (by decide), hd.2.2.1, e5.at, f6, f3, e3.trans h7, e4.trans h8, f4.trans h20⟩⟩
  · obtain ⟨x', e1, e2, e3⟩ := c2 g
    obtain ⟨m', f1, f2, f3⟩ := d2 g
    exact Or.inr ⟨x', m', e1, f1, e2, f2, 1, _, by decide, e3, f3⟩
theorem word_L1 {x m : llMem} {bb : Nat → Nat} {n p : Nat} (h : RR x m bb n p) :
    (∃ x' m', (tok bb n p).2.2 = some (.inl (kw 1)) ∧ fx_X9_takeWord_1 x 28518 = some (x', 1) ∧ fx_X12_takes_69_s1 m = some (m', 1) ∧ SmF 1 kX x x' ∧ SmF 69 kM m m' ∧ RR x' m' bb n (tok bb n p).2.1) ∨
    (∃ x' m', fx_X9_takeWord_1 x 28518 = some (x', 0) ∧ fx_X12_takes_69_s1 m = some (m', 0) ∧ SmF 1 kX x x' ∧ SmF 69 kM m m' ∧ BB x' m') := by
  obtain ⟨hT, hTM, hp, hat, hM, h0, h7, h8, h20⟩ := h
  obtain ⟨k1, k2, k3, k4⟩ := kw_ok 1 (by decide)
  obtain ⟨c1, c2⟩ := takeWord_x hT hp hat k3 k1 (z := 28518) (by rw [kw8.2.1]; rfl)
  obtain ⟨d1, d2⟩ := takes_m1 hTM hp hM h0
  have hd := tokD hT hp
  rcases Classical.em ((tok bb n p).2.2 = some (.inl (kw 1))) with g | g
  · obtain ⟨x', e1, e2, e3, e4, e5⟩ := c1 g
    obtain ⟨m', f1, f2, f3, f4, f6⟩ := d1 g
    exact Or.inl ⟨x', m', g, e1, f1, e2, f2, ⟨hT.of e2 (by decide), hTM.of f2 (by decide), hd.2.2.1, e5.at, f6, f3, e3.trans h7, e4.trans h8, f4.trans h20⟩⟩
  · obtain ⟨x', e1, e2, e3⟩ := c2 g
    obtain ⟨m', f1, f2, f3⟩ := d2 g
    exact Or.inr ⟨x', m', e1, f1, e2, f2, 1, _, by decide, e3, f3⟩
theorem word_L2 {x m : llMem} {bb : Nat → Nat} {n p : Nat} (h : RR x m bb n p) :
    (∃ x' m', (tok bb n p).2.2 = some (.inl (kw 2)) ∧ fx_X9_takeWord_1 x 1685026670 = some (x', 1) ∧ fx_X12_takes_69_s2 m = some (m', 1) ∧ SmF 1 kX x x' ∧ SmF 69 kM m m' ∧ RR x' m' bb n (tok bb n p).2.1) ∨
    (∃ x' m', fx_X9_takeWord_1 x 1685026670 = some (x', 0) ∧ fx_X12_takes_69_s2 m = some (m', 0) ∧ SmF 1 kX x x' ∧ SmF 69 kM m m' ∧ BB x' m') := by
  obtain ⟨hT, hTM, hp, hat, hM, h0, h7, h8, h20⟩ := h
  obtain ⟨k1, k2, k3, k4⟩ := kw_ok 2 (by decide)
  obtain ⟨c1, c2⟩ := takeWord_x hT hp hat k3 k1 (z := 1685026670) (by rw [kw8.2.2.1]; rfl)
  obtain ⟨d1, d2⟩ := takes_m2 hTM hp hM h0
  have hd := tokD hT hp
  rcases Classical.em ((tok bb n p).2.2 = some (.inl (kw 2))) with g | g
  · obtain ⟨x', e1, e2, e3, e4, e5⟩ := c1 g
    obtain ⟨m', f1, f2, f3, f4, f6⟩ := d1 g
    exact Or.inl ⟨x', m', g, e1, f1, e2, f2, ⟨hT.of e2 (by decide), hTM.of f2 (by decide), hd.2.2.1, e5.at, f6, f3, e3.trans h7, e4.trans h8, f4.trans h20⟩⟩
  · obtain ⟨x', e1, e2, e3⟩ := c2 g
    obtain ⟨m', f1, f2, f3⟩ := d2 g
    exact Or.inr ⟨x', m', e1, f1, e2, f2, 1, _, by decide, e3, f3⟩
theorem word_L3 {x m : llMem} {bb : Nat → Nat} {n p : Nat} (h : RR x m bb n p) :
    (∃ x' m', (tok bb n p).2.2 = some (.inl (kw 3)) ∧ fx_X9_takeWord_1 x 1852138852 = some (x', 1) ∧ fx_X12_takes_69_s3 m = some (m', 1) ∧ SmF 1 kX x x' ∧ SmF 69 kM m m' ∧ RR x' m' bb n (tok bb n p).2.1) ∨
    (∃ x' m', fx_X9_takeWord_1 x 1852138852 = some (x', 0) ∧ fx_X12_takes_69_s3 m = some (m', 0) ∧ SmF 1 kX x x' ∧ SmF 69 kM m m' ∧ BB x' m') := by
  obtain ⟨hT, hTM, hp, hat, hM, h0, h7, h8, h20⟩ := h
  obtain ⟨k1, k2, k3, k4⟩ := kw_ok 3 (by decide)
  obtain ⟨c1, c2⟩ := takeWord_x hT hp hat k3 k1 (z := 1852138852) (by rw [kw8.2.2.2.1]; rfl)
  obtain ⟨d1, d2⟩ := takes_m3 hTM hp hM h0
  have hd := tokD hT hp
  rcases Classical.em ((tok bb n p).2.2 = some (.inl (kw 3))) with g | g
  · obtain ⟨x', e1, e2, e3, e4, e5⟩ := c1 g
    obtain ⟨m', f1, f2, f3, f4, f6⟩ := d1 g
    exact Or.inl ⟨x', m', g, e1, f1, e2, f2, ⟨hT.of e2 (by decide), hTM.of f2 (by decide), hd.2.2.1, e5.at, f6, f3, e3.trans h7, e4.trans h8, f4.trans h20⟩⟩
  · obtain ⟨x', e1, e2, e3⟩ := c2 g
    obtain ⟨m', f1, f2, f3⟩ := d2 g
    exact Or.inr ⟨x', m', e1, f1, e2, f2, 1, _, by decide, e3, f3⟩
theorem word_L5 {x m : llMem} {bb : Nat → Nat} {n p : Nat} (h : RR x m bb n p) :
    (∃ x' m', (tok bb n p).2.2 = some (.inl (kw 5)) ∧ fx_X9_takeWord_1 x 444300616805 = some (x', 1) ∧ fx_X12_takes_69_s5 m = some (m', 1) ∧ SmF 1 kX x x' ∧ SmF 69 kM m m' ∧ RR x' m' bb n (tok bb n p).2.1) ∨
    (∃ x' m', fx_X9_takeWord_1 x 444300616805 = some (x', 0) ∧ fx_X12_takes_69_s5 m = some (m', 0) ∧ SmF 1 kX x x' ∧ SmF 69 kM m m' ∧ BB x' m') := by
  obtain ⟨hT, hTM, hp, hat, hM, h0, h7, h8, h20⟩ := h
  obtain ⟨k1, k2, k3, k4⟩ := kw_ok 5 (by decide)
  obtain ⟨c1, c2⟩ := takeWord_x hT hp hat k3 k1 (z := 444300616805) (by rw [kw8.2.2.2.2.2.1]; rfl)
  obtain ⟨d1, d2⟩ := takes_m5 hTM hp hM h0
  have hd := tokD hT hp
  rcases Classical.em ((tok bb n p).2.2 = some (.inl (kw 5))) with g | g
  · obtain ⟨x', e1, e2, e3, e4, e5⟩ := c1 g
    obtain ⟨m', f1, f2, f3, f4, f6⟩ := d1 g
    exact Or.inl ⟨x', m', g, e1, f1, e2, f2, ⟨hT.of e2 (by decide), hTM.of f2 (by decide), hd.2.2.1, e5.at, f6, f3, e3.trans h7, e4.trans h8, f4.trans h20⟩⟩
  · obtain ⟨x', e1, e2, e3⟩ := c2 g
    obtain ⟨m', f1, f2, f3⟩ := d2 g
    exact Or.inr ⟨x', m', e1, f1, e2, f2, 1, _, by decide, e3, f3⟩
/-- the draft of a pyramid, as both have it -/
def DR (x m : llMem) (nl nc : Nat) (dv sz dn nd cx cy gr : Nat → Nat) (ws : Nat → List Nat) (st : Nat → Option (Nat × Nat)) : Prop :=
  (nl ≤ 4 ∧ x.1 31 0 = nI nl ∧ m.1 69 2 = nI nl ∧ ∀ l, l < nl → x.1 32 l = nI (dv l) ∧ x.1 33 l = nI (sz l) ∧ x.1 34 l = nI (dn l) ∧ x.1 35 l = nI (nd l) ∧ m.1 70 (16 + 4 * l) = nI (dv l) ∧ m.1 70 (16 + 4 * l + 1) = nI (sz l) ∧ m.1 70 (16 + 4 * l + 2) = nI (dn l) ∧ m.1 70 (16 + 4 * l + 3) = nI (nd l) ∧ 1 ≤ dv l ∧ dv l ≤ 3 ∧ 2 ≤ sz l ∧ sz l ≤ 6 ∧ dv l * sz l ≤ 12 ∧ dn l ≤ 6 ∧ nd l ≤ 9) ∧
  (nc ≤ 30 ∧ x.1 31 5 = nI nc ∧ m.1 69 10 = nI nc ∧ ∀ c, c < nc → okN (ws c) ∧ x.2.1 36 c = lN (p8 (ws c)) ∧ m.2.1 71 (30 + c) = lN (p5 (ws c)) ∧ x.1 37 c = nI (cx c) ∧ x.1 38 c = nI (cy c) ∧ x.1 39 c = nI (gr c) ∧ m.1 72 (30 + c) = nI (cx c) ∧ m.1 73 (30 + c) = nI (cy c) ∧ m.1 76 (30 + c) = nI (gr c) ∧ cx c ≤ 99 ∧ cy c ≤ 99 ∧ gr c ≤ 9 ∧ m.1 74 (30 + c) = x.1 40 c ∧ m.1 75 (30 + c) = x.1 41 c ∧
    (match st c with
      | some (l, d) => l < nl ∧ d < dv l ∧ x.1 40 c = nI l ∧ x.1 41 c = nI d
      | none => x.1 40 c = -1 ∧ x.1 41 c = -1)) ∧
  ∀ l d, l < nl → d < dv l → inDiv st l d nc ≤ sz l
/-- what reading a pyramid leaves as it was -/
def FrX (x0 x : llMem) : Prop := (∀ c, c ∉ [1, 31, 32, 33, 34, 35, 36, 37, 38, 39, 40, 41] → x.1 c = x0.1 c ∧ x.2.1 c = x0.2.1 c ∧ x.2.2 c = x0.2.2 c) ∧ x.1 1 1 = x0.1 1 1
def FrM (m0 m : llMem) : Prop := (∀ c, c ∉ [69, 70, 71, 72, 73, 74, 75, 76] → m.1 c = m0.1 c ∧ m.2.1 c = m0.2.1 c ∧ m.2.2 c = m0.2.2 c) ∧ (∀ k, k ∉ [2, 10, 19, 20, 21, 22, 23, 25, 26, 27] → m.1 69 k = m0.1 69 k) ∧ (∀ k, k < 16 → m.1 70 k = m0.1 70 k) ∧ ∀ k, k < 30 → m.2.1 71 k = m0.2.1 71 k ∧ m.1 72 k = m0.1 72 k ∧ m.1 73 k = m0.1 73 k ∧ m.1 74 k = m0.1 74 k ∧ m.1 75 k = m0.1 75 k ∧ m.1 76 k = m0.1 76 k
theorem FrX.refl (x : llMem) : FrX x x := ⟨fun _ _ => ⟨rfl, rfl, rfl⟩, rfl⟩
theorem FrM.refl (m : llMem) : FrM m m := ⟨fun _ _ => ⟨rfl, rfl, rfl⟩, fun _ _ => rfl, fun _ _ => rfl, fun _ _ => ⟨rfl, rfl, rfl, rfl, rfl, rfl⟩⟩
theorem FrX.trans {a b c : llMem} (h1 : FrX a b) (h2 : FrX b c) : FrX a c := ⟨fun i hi => by
  obtain ⟨a1, a2, a3⟩ := h1.1 i hi
  obtain ⟨b1, b2, b3⟩ := h2.1 i hi
  exact ⟨b1.trans a1, b2.trans a2, b3.trans a3⟩, h2.2.trans h1.2⟩
theorem FrM.trans {a b c : llMem} (h1 : FrM a b) (h2 : FrM b c) : FrM a c := ⟨fun i hi => by
  obtain ⟨a1, a2, a3⟩ := h1.1 i hi
  obtain ⟨b1, b2, b3⟩ := h2.1 i hi
  exact ⟨b1.trans a1, b2.trans a2, b3.trans a3⟩, fun k hk => (h2.2.1 k hk).trans (h1.2.1 k hk), fun k hk => (h2.2.2.1 k hk).trans (h1.2.2.1 k hk), fun k hk => by
  obtain ⟨a1, a2, a3, a4, a5, a6⟩ := h1.2.2.2 k hk
  obtain ⟨b1, b2, b3, b4, b5, b6⟩ := h2.2.2.2 k hk
  exact ⟨b1.trans a1, b2.trans a2, b3.trans a3, b4.trans a4, b5.trans a5, b6.trans a6⟩⟩
theorem FrX.of {x x' : llMem} (h : SmF 1 kX x x') : FrX x x' := ⟨fun c hc => h.1 c (fun e => hc (by rw [e]; simp)), h.2 1 (by decide)⟩
theorem FrM.of {m m' : llMem} (h : SmF 69 kM m m') : FrM m m' := ⟨fun c hc => h.1 c (fun e => hc (by rw [e]; simp)), fun k hk => h.2 k (fun q => hk (by revert q; simp; omega)), fun k _ => by rw [(h.1 70 (by decide)).1], fun k _ => by rw [(h.1 71 (by decide)).2.1, (h.1 72 (by decide)).1, (h.1 73 (by decide)).1, (h.1 74 (by decide)).1, (h.1 75 (by decide)).1, (h.1 76 (by decide)).1]; exact ⟨rfl, rfl, rfl, rfl, rfl, rfl⟩⟩
theorem DR.of {x m x' m' : llMem} {nl nc : Nat} {dv sz dn nd cx cy gr : Nat → Nat} {ws : Nat → List Nat} {st : Nat → Option (Nat × Nat)} (h : DR x m nl nc dv sz dn nd cx cy gr ws st) (hx : SmF 1 kX x x') (hm : SmF 69 kM m m') : DR x' m' nl nc dv sz dn nd cx cy gr ws st := by
  unfold DR at h ⊢
  rw [(hx.1 31 (by decide)).1, (hx.1 32 (by decide)).1, (hx.1 33 (by decide)).1, (hx.1 34 (by decide)).1, (hx.1 35 (by decide)).1, (hx.1 36 (by decide)).2.1, (hx.1 37 (by decide)).1, (hx.1 38 (by decide)).1, (hx.1 39 (by decide)).1, (hx.1 40 (by decide)).1, (hx.1 41 (by decide)).1, hm.2 2 (by decide), hm.2 10 (by decide), (hm.1 70 (by decide)).1, (hm.1 71 (by decide)).2.1, (hm.1 72 (by decide)).1, (hm.1 73 (by decide)).1, (hm.1 74 (by decide)).1, (hm.1 75 (by decide)).1, (hm.1 76 (by decide)).1]
  exact h
