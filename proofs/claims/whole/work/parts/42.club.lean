/-! a club's line in step -/
def upF {α : Type} (f : Nat → α) (k : Nat) (v : α) : Nat → α := fun j => if j = k then v else f j
theorem upF_same {α : Type} (f : Nat → α) (k : Nat) (v : α) : upF f k v k = v := by simp [upF]
theorem upF_ne {α : Type} {f : Nat → α} {k : Nat} {v : α} {j : Nat} (h : j ≠ k) : upF f k v j = f j := by simp [upF, h]
theorem RR.wx {x m : llMem} {bb : Nat → Nat} {n p c k : Nat} {v : Int32} (h : RR x m bb n p) (h1 : 1 ≠ c) (h2 : 2 ≠ c) : RR (llSI x c k v) m bb n p := h.xc (SI_ne h1) (SI_ne h2)
theorem RR.wxL {x m : llMem} {bb : Nat → Nat} {n p c k : Nat} {v : Int64} (h : RR x m bb n p) : RR (llSL x c k v) m bb n p := h.xc rfl rfl
theorem SL_ne {u : llMem} {c k i : Nat} {v : Int64} (h : i ≠ c) : (llSL u c k v).2.1 i = u.2.1 i := (llSLA_ne i h).2.1
theorem RR.wm {x m : llMem} {bb : Nat → Nat} {n p c k : Nat} {v : Int32} (h : RR x m bb n p) (h1 : 69 ≠ c) (h2 : 79 ≠ c) : RR x (llSI m c k v) bb n p := h.mc (SI_ne h1) rfl (SI_ne h2)
theorem RR.wmL {x m : llMem} {bb : Nat → Nat} {n p c k : Nat} {v : Int64} (h : RR x m bb n p) (h1 : 69 ≠ c) : RR x (llSL m c k v) bb n p := h.mc rfl (SL_ne h1) rfl
theorem FrX.SL {x0 x : llMem} {k : Nat} {v : Int64} (h : FrX x0 x) : FrX x0 (llSL x 36 k v) := by
  refine h.trans ⟨fun i hi => ?_, rfl⟩
  have : i ≠ 36 := fun e => hi (by rw [e]; decide)
  exact ⟨rfl, SL_ne this, rfl⟩
theorem SL_at {u : llMem} {c k j : Nat} {v : Int64} (h : j ≠ k) : (llSL u c k v).2.1 c j = u.2.1 c j := by simp [llSL, llSLA, vp_updL, h]
theorem FrM.wm {m0 m : llMem} {c k : Nat} {v : Int32} (h : FrM m0 m) (hc : c ∈ [72, 73, 74, 75, 76]) (hk : 30 ≤ k) : FrM m0 (llSI m c k v) := by
  have e69 : (69 : Nat) ≠ c := fun e => by rw [← e] at hc; revert hc; decide
  have e70 : (70 : Nat) ≠ c := fun e => by rw [← e] at hc; revert hc; decide
  have q : ∀ i j, j < 30 → (llSI m c k v).1 i j = m.1 i j := fun i j hj => by
    by_cases e : i = c
    · rw [e, SI_same, upd_ne (by omega)]
    · rw [SI_ne e]
  refine h.trans ⟨fun i hi => ?_, fun j _ => by rw [SI_ne e69], fun j hj => by rw [SI_ne e70], fun j hj => ?_⟩
  · have : i ≠ c := fun e => hi (by rw [e]; exact List.mem_cons_of_mem _ (List.mem_cons_of_mem _ (List.mem_cons_of_mem _ hc)))
    exact ⟨SI_ne this, rfl, rfl⟩
  · rw [q 72 j hj, q 73 j hj, q 74 j hj, q 75 j hj, q 76 j hj]
    exact ⟨rfl, rfl, rfl, rfl, rfl, rfl⟩
theorem FrM.wmL {m0 m : llMem} {k : Nat} {v : Int64} (h : FrM m0 m) (hk : 30 ≤ k) : FrM m0 (llSL m 71 k v) := by
  refine h.trans ⟨fun i hi => ?_, fun j _ => rfl, fun j hj => rfl, fun j hj => ?_⟩
  · have : i ≠ 71 := fun e => hi (by rw [e]; decide)
    exact ⟨rfl, SL_ne this, rfl⟩
  · rw [SL_at (by omega)]
    exact ⟨rfl, rfl, rfl, rfl, rfl, rfl⟩
/-- one club of the draft -/
def DC (x m : llMem) (nl : Nat) (dv : Nat → Nat) (c : Nat) (w : List Nat) (vx vy vg : Nat) (o : Option (Nat × Nat)) : Prop :=
  okN w ∧ x.2.1 36 c = lN (p8 w) ∧ m.2.1 71 (30 + c) = lN (p5 w) ∧ x.1 37 c = nI vx ∧ x.1 38 c = nI vy ∧ x.1 39 c = nI vg ∧ m.1 72 (30 + c) = nI vx ∧ m.1 73 (30 + c) = nI vy ∧ m.1 76 (30 + c) = nI vg ∧ vx ≤ 99 ∧ vy ≤ 99 ∧ vg ≤ 9 ∧ m.1 74 (30 + c) = x.1 40 c ∧ m.1 75 (30 + c) = x.1 41 c ∧
    (match o with
      | some (l, d) => l < nl ∧ d < dv l ∧ x.1 40 c = nI l ∧ x.1 41 c = nI d
      | none => x.1 40 c = -1 ∧ x.1 41 c = -1)
theorem DR.addClub {x m x' m' : llMem} {nl nc : Nat} {dv sz dn nd cx cy gr : Nat → Nat} {ws : Nat → List Nat} {st : Nat → Option (Nat × Nat)} (h : DR x m nl nc dv sz dn nd cx cy gr ws st) (hn : nc < 30) {w : List Nat} {vx vy vg : Nat} {o : Option (Nat × Nat)}
    (x0 : x'.1 31 0 = x.1 31 0) (x5 : x'.1 31 5 = nI (nc + 1)) (xr : ∀ c, c ∈ [32, 33, 34, 35] → x'.1 c = x.1 c) (m2 : m'.1 69 2 = m.1 69 2) (m10 : m'.1 69 10 = nI (nc + 1)) (m70 : m'.1 70 = m.1 70)
    (xk : ∀ k, k < nc → x'.2.1 36 k = x.2.1 36 k ∧ ∀ c, c ∈ [37, 38, 39, 40, 41] → x'.1 c k = x.1 c k) (mk : ∀ k, k < nc → m'.2.1 71 (30 + k) = m.2.1 71 (30 + k) ∧ ∀ c, c ∈ [72, 73, 74, 75, 76] → m'.1 c (30 + k) = m.1 c (30 + k))
    (hnew : DC x' m' nl dv nc w vx vy vg o) (ho : ∀ l d, o = some (l, d) → inDiv st l d nc < sz l) :
    DR x' m' nl (nc + 1) dv sz dn nd (upF cx nc vx) (upF cy nc vy) (upF gr nc vg) (upF ws nc w) (upF st nc o) := by
  obtain ⟨⟨a1, a2, a3, a4⟩, ⟨b1, b2, b3, b4⟩, hc⟩ := h
  refine ⟨⟨a1, by rw [x0]; exact a2, by rw [m2]; exact a3, fun l hl' => ?_⟩, ⟨by omega, x5, m10, fun c hc' => ?_⟩, fun l d hl' hd => ?_⟩
  · rw [xr 32 (by simp), xr 33 (by simp), xr 34 (by simp), xr 35 (by simp), m70]
    exact a4 l hl'
  · by_cases e : c = nc
    · subst e
      simp only [upF_same]
      exact hnew
    · simp only [upF_ne e]
      have hk := xk c (by omega)
      have hm := mk c (by omega)
      rw [hk.1, hk.2 37 (by simp), hk.2 38 (by simp), hk.2 39 (by simp), hk.2 40 (by simp), hk.2 41 (by simp), hm.1, hm.2 72 (by simp), hm.2 73 (by simp), hm.2 74 (by simp), hm.2 75 (by simp), hm.2 76 (by simp)]
      exact b4 c (by omega)
  · have q : inDiv (upF st nc o) l d nc = inDiv st l d nc := cnt_congr nc (fun i hi => by rw [upF_ne (by omega)])
    have q1 := hc l d hl' hd
    show cnt _ _ (nc + 1) ≤ sz l
    by_cases e : upF st nc o nc = some (l, d)
    · rw [cnt_t e]
      rw [upF_same] at e
      have := ho l d e
      unfold inDiv at q this
      omega
    · rw [cnt_f e]
      unfold inDiv at q q1
      omega
theorem hasLevel_31 {u : llMem} {nl : Nat} (h : u.1 31 0 = nI nl) (hn : nl ≤ 4) (v : Nat) (hv : v < 2 ^ 31) : fx_X5_hasLevel_31 u (nI v) = some (if v < nl then 1 else 0) := by
  unfold fx_X5_hasLevel_31
  rw [if_neg (nI_nneg hv), h]
  by_cases e : v < nl
  · rw [if_neg (nle2 (by omega) (by omega) e), gB_1, if_pos e]
  · rw [if_pos (le2 (by omega) (by omega) (by omega)), gB_0, if_neg e]
theorem hasLevel_31n {u : llMem} : fx_X5_hasLevel_31 u (-1) = some 0 := by
  unfold fx_X5_hasLevel_31
  rw [if_pos (by decide), gB_0]
/-- what the reference does of a club's line behind its grade -/
def clubTail (u : llMem) (v1 : Int32) : Option (llMem × Int32) := (fx_X12_isWord_69_s6 u ).bind (fun r20 => (if r20 = 0 then fx_X12_readClub_69_j306 u  else bd (fx_X12_next_69 u ) (fun u22 _ => bd (fx_X12_readNumber_69 u22 0 ((u22.1 69 2) - 1)) (fun u23 r24 => (if ¬ r24 = 0 then lt (u23.1 69 27) (fun v2_25 => lt (4 * (4 + v2_25)) (fun v3_26 => (if ¬ (u23.1 69 21) = 2 then fx_X12_readClub_69_j269 u23 v1 v2_25 v3_26 else (if 3 < ((u23.1 69 23) - (u23.1 69 22)) then fx_X12_readClub_69_j269 u23 v1 v2_25 v3_26 else gI (v3_26 + 0) 32 ((if (rI u23 70 (v3_26 + 0)) ≤ (u23.1 69 25) then fx_X12_readClub_69_j269 u23 v1 v2_25 v3_26 else (fx_X12_manyIn_69 u23 v2_25 (u23.1 69 25)).bind (fun r31 => gI (v3_26 + 1) 32 ((if ¬ r31 = (rI u23 70 (v3_26 + 1)) then fx_X12_readClub_69_j269 u23 v1 v2_25 v3_26 else bd (fx_X12_fails_69 u23 3) (fun u32 r33 => gB r33 (some (u32, r33)))))))))))) else gB 0 (some (u23, 0)))))))
theorem preM1 {ρ : Type} {m : llMem} {t : Tk} (hM : MT m t) (ht : TkOk t) {z R : Int32} {q D d : Nat} (hz : z = nI q) (hq : q < 32) (hR : R = nI D) (hD : D ≤ 99) (A : Option ρ) (B : Int32 → Option ρ) (h : isNum t d) (hd : d < D) :
    (if ¬ (m.1 69 21) = 2 then A else (if 3 < ((m.1 69 23) - (m.1 69 22)) then A else gI z 32 (if R ≤ (m.1 69 25) then A else B (m.1 69 25)))) = B (nI d) := by
  have h1 := hM.len ht
  obtain ⟨_, _, m3⟩ := hM
  rw [h.1] at m3
  have hl := h.2
  rw [if_neg (fun q => q m3.1), h1, if_neg (Lnlt 3 (by omega) (by decide) hl), hz, gI_nI hq (by decide), m3.2 hl, hR, if_neg (nle2 (by omega) (by omega) hd)]
theorem preM2 {ρ : Type} {m : llMem} {t : Tk} (hM : MT m t) (ht : TkOk t) {z R : Int32} {q D : Nat} (hz : z = nI q) (hq : q < 32) (hR : R = nI D) (hD : D ≤ 99) (A : Option ρ) (B : Int32 → Option ρ) (h : ∀ d, isNum t d → ¬ d < D) :
    (if ¬ (m.1 69 21) = 2 then A else (if 3 < ((m.1 69 23) - (m.1 69 22)) then A else gI z 32 (if R ≤ (m.1 69 25) then A else B (m.1 69 25)))) = A := by
  by_cases h2 : m.1 69 21 = 2
  · obtain ⟨v, hv⟩ := hM.sort.1.mp h2
    have h1 := hM.len ht
    rw [if_neg (fun q => q h2), h1]
    by_cases hl : t.2.1 - t.1 ≤ 3
    · have hh := h v ⟨hv, hl⟩
      obtain ⟨_, _, m3⟩ := hM
      have ht3 := ht.2.2
      rw [hv] at m3 ht3
      have := ht3 hl
      rw [if_neg (Lnlt 3 (by have := ht.2.1; omega) (by decide) hl), hz, gI_nI hq (by decide), m3.2 hl, hR, if_pos (le2 (by omega) (by omega) (by omega))]
    · rw [if_pos (Llt 3 (by have := ht.2.1; omega) (by decide) (by omega))]
  · rw [if_pos h2]
theorem nI_le_m1 {v k : Nat} (hv : v < 2 ^ 31) (hk : k ≤ 99) (h : nI v ≤ nI k - 1) : v < k := by
  cases k with
  | zero =>
    exfalso
    rw [Int32.le_iff_toInt_le, nI_toInt hv] at h
    revert h
    show ¬ ((v : Nat) : Int) ≤ -1
    omega
  | succ k =>
    rw [show nI (k + 1) - 1 = nI k from pk_sub (show 1 ≤ k + 1 by omega)] at h
    have := (nI_leI hv (by omega)).mp h
    omega
theorem nI_le_m1' {v k : Nat} (hv : v < k) (hk : k ≤ 99) : nI v ≤ nI k - 1 := by
  cases k with
  | zero => omega
  | succ k =>
    rw [show nI (k + 1) - 1 = nI k from pk_sub (show 1 ≤ k + 1 by omega)]
    exact le2 (by omega) (by omega) (by omega)
theorem inDiv_x {x m : llMem} {nl nc : Nat} {dv sz dn nd cx cy gr : Nat → Nat} {ws : Nat → List Nat} {st : Nat → Option (Nat × Nat)} (hD : DR x m nl nc dv sz dn nd cx cy gr ws st) {l d : Nat} (hl : l < 99) (hd : d < 99) : cnt (fun i => x.1 40 i = nI l ∧ x.1 41 i = nI d) (fun _ => inferInstance) nc = inDiv st l d nc := by
  refine cnt_congr nc (fun i hi => ?_)
  have h := (hD.2.1.2.2.2 i hi).2.2.2.2.2.2.2.2.2.2.2.2.2.2
  have hdv := hD.1
  cases hs : st i with
  | none =>
    rw [hs] at h
    refine ⟨fun q => absurd (h.1.symm.trans q.1) (fun e => nI_nm1 (by omega) e.symm), fun q => by cases q⟩
  | some q =>
    obtain ⟨a, b⟩ := q
    rw [hs] at h
    obtain ⟨h1, h2, h3, h4⟩ := h
    have := (hdv.2.2.2 a h1).2.2.2.2.2.2.2.2.2.1
    have := hdv.1
    rw [h3, h4, nI_eq (by omega) (by omega), nI_eq (by omega) (by omega)]
    constructor
    · rintro ⟨rfl, rfl⟩; rfl
    · intro e; injection e with e; injection e with e1 e2; exact ⟨e1, e2⟩
theorem inDiv_m {x m : llMem} {nl nc : Nat} {dv sz dn nd cx cy gr : Nat → Nat} {ws : Nat → List Nat} {st : Nat → Option (Nat × Nat)} (hD : DR x m nl nc dv sz dn nd cx cy gr ws st) {l d : Nat} (hl : l < 99) (hd : d < 99) : cnt (fun i => m.1 74 (30 + i) = nI l ∧ m.1 75 (30 + i) = nI d) (fun _ => inferInstance) nc = inDiv st l d nc := by
  rw [← inDiv_x hD hl hd]
  refine cnt_congr nc (fun i hi => ?_)
  have h := (hD.2.1.2.2.2 i hi).2.2.2.2.2.2.2.2.2.2.2.2
  rw [h.1, h.2.1]
theorem DR.wx {x m : llMem} {nl nc : Nat} {dv sz dn nd cx cy gr : Nat → Nat} {ws : Nat → List Nat} {st : Nat → Option (Nat × Nat)} (h : DR x m nl nc dv sz dn nd cx cy gr ws st) {c k : Nat} {v : Int32} (hc : c ∈ [37, 38, 39, 40, 41]) (hk : nc ≤ k) : DR (llSI x c k v) m nl nc dv sz dn nd cx cy gr ws st := by
  obtain ⟨⟨a1, a2, a3, a4⟩, ⟨b1, b2, b3, b4⟩, hcc⟩ := h
  have q : ∀ i j, j < nc → (llSI x c k v).1 i j = x.1 i j := fun i j hj => by
    by_cases e : i = c
    · rw [e, SI_same, upd_ne (by omega)]
    · rw [SI_ne e]
  have z : ∀ i, i ∈ [31, 32, 33, 34, 35] → (llSI x c k v).1 i = x.1 i := fun i hi => SI_ne (fun e => by
    rw [e] at hi
    simp only [List.mem_cons, List.not_mem_nil, or_false] at hi hc
    omega)
  refine ⟨⟨a1, by rw [z 31 (by simp)]; exact a2, a3, fun l hl => ?_⟩, ⟨b1, by rw [z 31 (by simp)]; exact b2, b3, fun i hi => ?_⟩, hcc⟩
  · rw [z 32 (by simp), z 33 (by simp), z 34 (by simp), z 35 (by simp)]; exact a4 l hl
  · rw [q 37 i hi, q 38 i hi, q 39 i hi, q 40 i hi, q 41 i hi]; exact b4 i hi
theorem DR.wxL {x m : llMem} {nl nc : Nat} {dv sz dn nd cx cy gr : Nat → Nat} {ws : Nat → List Nat} {st : Nat → Option (Nat × Nat)} (h : DR x m nl nc dv sz dn nd cx cy gr ws st) {k : Nat} {v : Int64} (hk : nc ≤ k) : DR (llSL x 36 k v) m nl nc dv sz dn nd cx cy gr ws st := by
  obtain ⟨ha, ⟨b1, b2, b3, b4⟩, hcc⟩ := h
  refine ⟨ha, ⟨b1, b2, b3, fun i hi => ?_⟩, hcc⟩
  rw [SL_at (by omega)]; exact b4 i hi
theorem DR.wm {x m : llMem} {nl nc : Nat} {dv sz dn nd cx cy gr : Nat → Nat} {ws : Nat → List Nat} {st : Nat → Option (Nat × Nat)} (h : DR x m nl nc dv sz dn nd cx cy gr ws st) {c k : Nat} {v : Int32} (hc : c ∈ [72, 73, 74, 75, 76]) (hk : 30 + nc ≤ k) : DR x (llSI m c k v) nl nc dv sz dn nd cx cy gr ws st := by
  obtain ⟨⟨a1, a2, a3, a4⟩, ⟨b1, b2, b3, b4⟩, hcc⟩ := h
  have q : ∀ i j, j < nc → (llSI m c k v).1 i (30 + j) = m.1 i (30 + j) := fun i j hj => by
    by_cases e : i = c
    · rw [e, SI_same, upd_ne (by omega)]
    · rw [SI_ne e]
  have z : ∀ i, i ∈ [69, 70] → (llSI m c k v).1 i = m.1 i := fun i hi => SI_ne (fun e => by
    rw [e] at hi
    simp only [List.mem_cons, List.not_mem_nil, or_false] at hi hc
    omega)
  refine ⟨⟨a1, a2, by rw [z 69 (by simp)]; exact a3, fun l hl => ?_⟩, ⟨b1, b2, by rw [z 69 (by simp)]; exact b3, fun i hi => ?_⟩, hcc⟩
  · rw [z 70 (by simp)]; exact a4 l hl
  · rw [q 72 i hi, q 73 i hi, q 74 i hi, q 75 i hi, q 76 i hi]; exact b4 i hi
theorem DR.wmL {x m : llMem} {nl nc : Nat} {dv sz dn nd cx cy gr : Nat → Nat} {ws : Nat → List Nat} {st : Nat → Option (Nat × Nat)} (h : DR x m nl nc dv sz dn nd cx cy gr ws st) {k : Nat} {v : Int64} (hk : 30 + nc ≤ k) : DR x (llSL m 71 k v) nl nc dv sz dn nd cx cy gr ws st := by
  obtain ⟨ha, ⟨b1, b2, b3, b4⟩, hcc⟩ := h
  refine ⟨ha, ⟨b1, b2, b3, fun i hi => ?_⟩, hcc⟩
  rw [SL_at (by omega)]; exact b4 i hi
theorem SI_at {u : llMem} {c k i j : Nat} {v : Int32} (h : j ≠ k) : (llSI u c k v).1 i j = u.1 i j := by
  by_cases e : i = c
  · rw [e, SI_same, upd_ne h]
  · rw [SI_ne e]
