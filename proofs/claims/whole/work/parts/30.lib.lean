/-! pure programs: loops by their trajectories, guards, counts -/
theorem loop_run {S E : Type} {body : S → Option (S ⊕ E)} (f : Nat → S) (e : E) : ∀ (n m : Nat), (∀ i, i < n → body (f i) = some (.inl (f (i + 1)))) → body (f n) = some (.inr e) → n < m → loop body m (f 0) = some e := by
  suffices h : ∀ (n k m : Nat), (∀ i, i < n → body (f (k + i)) = some (.inl (f (k + i + 1)))) → body (f (k + n)) = some (.inr e) → n < m → loop body m (f k) = some e by
    intro n m h1 h2 h3
    exact h n 0 m (fun i hi => by rw [Nat.zero_add]; exact h1 i hi) (by rw [Nat.zero_add]; exact h2) h3
  intro n
  induction n with
  | zero =>
    intro k m _ h2 h3
    cases m with
    | zero => omega
    | succ m => unfold loop; rw [show f k = f (k + 0) from rfl, h2]
  | succ n ih =>
    intro k m h1 h2 h3
    cases m with
    | zero => omega
    | succ m =>
      unfold loop
      have h4 := h1 0 (by omega)
      rw [Nat.add_zero] at h4
      rw [h4]
      exact ih (k + 1) m (fun i hi => by have := h1 (i + 1) (by omega); rwa [show k + (i + 1) = k + 1 + i by omega] at this) (by rwa [show k + 1 + n = k + (n + 1) by omega]) (by omega)
theorem loop_run0 {S E : Type} {body : S → Option (S ⊕ E)} (f : Nat → S) (e : E) (n m : Nat) {s : S} (hs : s = f 0) (h1 : ∀ i, i < n → body (f i) = some (.inl (f (i + 1)))) (h2 : body (f n) = some (.inr e)) (h3 : n < m) : loop body m s = some e := by
  subst hs; exact loop_run f e n m h1 h2 h3
theorem gI_ok {ρ : Type} {i : Int32} {n : Nat} {x : Option ρ} (h : vp_in i n) : gI i n x = x := by
  unfold gI; rw [if_neg h]
theorem gI_nI {ρ : Type} {i n : Nat} {x : Option ρ} (h : i < n) (hn : n < 2 ^ 31) : gI (nI i) n x = x := gI_ok (vp_in_nI h hn)
theorem gB_0 {ρ : Type} {x : Option ρ} : gB 0 x = x := by unfold gB; rw [if_pos (Or.inl rfl)]
theorem gB_1 {ρ : Type} {x : Option ρ} : gB 1 x = x := by unfold gB; rw [if_pos (Or.inr rfl)]
theorem gB_ok {ρ : Type} {v : Int32} {x : Option ρ} (h : v = 0 ∨ v = 1) : gB v x = x := by unfold gB; rw [if_pos h]
theorem gZ_ok {ρ : Type} {v : Int32} {x : Option ρ} (h : ¬ v = 0) : gZ v x = x := by unfold gZ; rw [if_neg h]
theorem lt_eq {α β : Type} (a : α) (k : α → β) : lt a k = k a := rfl
theorem bd_eq {α β : Type} (r : llMem × α) (k : llMem → α → Option β) : bd (some r) k = k r.1 r.2 := rfl
theorem nI_lt_iff {a b : Nat} (ha : a < 2 ^ 31) (hb : b < 2 ^ 31) : nI a < nI b ↔ a < b := by
  rw [Int32.lt_iff_toInt_lt, nI_toInt ha, nI_toInt hb]; omega
theorem nI_le_iff {a b : Nat} (ha : a < 2 ^ 31) (hb : b < 2 ^ 31) : nI a ≤ nI b ↔ a ≤ b := by
  rw [Int32.le_iff_toInt_le, nI_toInt ha, nI_toInt hb]; omega
theorem nI_inj {a b : Nat} (ha : a < 2 ^ 31) (hb : b < 2 ^ 31) (h : nI a = nI b) : a = b := by
  have := congrArg Int32.toInt h
  rw [nI_toInt ha, nI_toInt hb] at this; omega
theorem nI_eq_iff {a b : Nat} (ha : a < 2 ^ 31) (hb : b < 2 ^ 31) : nI a = nI b ↔ a = b := ⟨nI_inj ha hb, fun h => by rw [h]⟩
theorem toInt32_of {i : Int32} (h : 0 ≤ i.toInt) : i = nI i.toInt.toNat := by
  apply Int32.toInt_inj.mp
  have := Int32.toInt_lt i
  rw [nI_toInt (by omega)]; omega
theorem not_neg_of {i : Int32} (h : ¬ i < 0) : i = nI i.toInt.toNat ∧ i.toInt.toNat < 2 ^ 31 := by
  have h0 : (0 : Int) ≤ i.toInt := by
    have := Int32.not_lt.mp h
    simpa using Int32.le_iff_toInt_le.mp this
  exact ⟨toInt32_of h0, by have := Int32.toInt_lt i; omega⟩
theorem nI_nneg {n : Nat} (h : n < 2 ^ 31) : ¬ nI n < 0 := nI_pos h
/-! which cells stay -/
def Sm (X : List Nat) (u u' : llMem) : Prop := ∀ c, c ∉ X → u'.1 c = u.1 c ∧ u'.2.1 c = u.2.1 c ∧ u'.2.2 c = u.2.2 c
theorem Sm.refl (X : List Nat) (u : llMem) : Sm X u u := fun _ _ => ⟨rfl, rfl, rfl⟩
theorem Sm.trans {X : List Nat} {u v w : llMem} (h1 : Sm X u v) (h2 : Sm X v w) : Sm X u w := fun c hc => by
  obtain ⟨a1, a2, a3⟩ := h1 c hc
  obtain ⟨b1, b2, b3⟩ := h2 c hc
  exact ⟨b1.trans a1, b2.trans a2, b3.trans a3⟩
theorem Sm.mono {X Y : List Nat} {u v : llMem} (h : Sm X u v) (hXY : ∀ c, c ∈ X → c ∈ Y) : Sm Y u v := fun c hc => h c (fun hx => hc (hXY c hx))
theorem Sm.SI {X : List Nat} {u : llMem} {c k : Nat} {v : Int32} (h : c ∈ X) : Sm X u (llSI u c k v) := fun i hi => llSA_ne i (fun e => hi (e ▸ h))
theorem Sm.SA {X : List Nat} {u : llMem} {c : Nat} {f : Nat → Int32} (h : c ∈ X) : Sm X u (llSA u c f) := fun i hi => llSA_ne i (fun e => hi (e ▸ h))
theorem Sm.SL {X : List Nat} {u : llMem} {c k : Nat} {v : Int64} (h : c ∈ X) : Sm X u (llSL u c k v) := fun i hi => llSLA_ne i (fun e => hi (e ▸ h))
theorem Sm.SLA {X : List Nat} {u : llMem} {c : Nat} {f : Nat → Int64} (h : c ∈ X) : Sm X u (llSLA u c f) := fun i hi => llSLA_ne i (fun e => hi (e ▸ h))
theorem Sm.SF {X : List Nat} {u : llMem} {c k : Nat} {v : UInt32} (h : c ∈ X) : Sm X u (llSF u c k v) := fun i hi => llSF_ne i (fun e => hi (e ▸ h))
/-! reads behind writes -/
theorem SI_same (u : llMem) (c k : Nat) (v : Int32) : (llSI u c k v).1 c = upd (u.1 c) k v := by simp [llSI, llSA]
theorem SI_ne {u : llMem} {c k i : Nat} {v : Int32} (h : i ≠ c) : (llSI u c k v).1 i = u.1 i := by simp [llSI, llSA, h]
theorem SI_2 (u : llMem) (c k : Nat) (v : Int32) : (llSI u c k v).2 = u.2 := rfl
theorem upd_same (f : Nat → Int32) (k : Nat) (v : Int32) : upd f k v k = v := by simp [upd]
theorem upd_ne {f : Nat → Int32} {k j : Nat} {v : Int32} (h : j ≠ k) : upd f k v j = f j := by simp [upd, h]
/-! counts and sums over the first n -/
def cnt (p : Nat → Prop) (dp : ∀ i, Decidable (p i)) : Nat → Nat
  | 0 => 0
  | n + 1 => cnt p dp n + (if p n then 1 else 0)
def sumI (f : Nat → Int32) : Nat → Int32
  | 0 => 0
  | n + 1 => sumI f n + f n
theorem sumI_congr {f g : Nat → Int32} : ∀ (n : Nat), (∀ i, i < n → f i = g i) → sumI f n = sumI g n
  | 0, _ => rfl
  | n + 1, h => by rw [sumI, sumI, sumI_congr n (fun i hi => h i (by omega)), h n (by omega)]
theorem loop_inv {S E : Type} {body : S → Option (S ⊕ E)} (I : Nat → S → Prop) (Q : E → Prop) (n m : Nat) (s0 : S) (h0 : I 0 s0) (hs : ∀ i s, i < n → I i s → ∃ s', body s = some (.inl s') ∧ I (i + 1) s') (he : ∀ s, I n s → ∃ e, body s = some (.inr e) ∧ Q e) (hm : n < m) : ∃ e, loop body m s0 = some e ∧ Q e := by
  suffices h : ∀ (k m i : Nat) (s : S), i + k = n → k < m → I i s → ∃ e, loop body m s = some e ∧ Q e from h n m 0 s0 (by omega) hm h0
  intro k
  induction k with
  | zero =>
    intro m i s hi hm hI
    cases m with
    | zero => omega
    | succ m =>
      obtain ⟨e, h1, h2⟩ := he s (by rw [← hi]; exact hI)
      exact ⟨e, by unfold loop; rw [h1], h2⟩
  | succ k ih =>
    intro m i s hi hm hI
    cases m with
    | zero => omega
    | succ m =>
      obtain ⟨s', h1, h2⟩ := hs i s (by omega) hI
      obtain ⟨e, h3, h4⟩ := ih m (i + 1) s' (by omega) (by omega) h2
      exact ⟨e, by unfold loop; rw [h1]; exact h3, h4⟩
theorem loop_meas {S E : Type} {body : S → Option (S ⊕ E)} (I : S → Prop) (μ : S → Nat) (Q : E → Prop) (m : Nat) (s0 : S) (h0 : I s0) (hs : ∀ s, I s → (∃ s', body s = some (.inl s') ∧ I s' ∧ μ s' < μ s) ∨ (∃ e, body s = some (.inr e) ∧ Q e)) (hm : μ s0 < m) : ∃ e, loop body m s0 = some e ∧ Q e := by
  suffices h : ∀ (m : Nat) (s : S), μ s < m → I s → ∃ e, loop body m s = some e ∧ Q e from h m s0 hm h0
  intro m
  induction m with
  | zero => intro s h; omega
  | succ m ih =>
    intro s hm hI
    rcases hs s hI with ⟨s', h1, h2, h3⟩ | ⟨e, h1, h2⟩
    · obtain ⟨e, h4, h5⟩ := ih s' (by omega) h2
      exact ⟨e, by unfold loop; rw [h1]; exact h4, h5⟩
    · exact ⟨e, by unfold loop; rw [h1], h2⟩
/-! against a written number -/
theorem neL {a : Nat} (b : Nat) (ha : a < 2 ^ 31) (hb : b < 2 ^ 31) (h : a ≠ b) : ¬ nI a = (OfNat.ofNat b : Int32) := fun q => h ((nI_eq ha hb).mp q)
theorem eqL {a : Nat} (b : Nat) (h : a = b) : nI a = (OfNat.ofNat b : Int32) := by subst h; rfl
theorem ltL {a : Nat} (b : Nat) (ha : a < 2 ^ 31) (hb : b < 2 ^ 31) (h : a < b) : nI a < (OfNat.ofNat b : Int32) := (nI_ltI ha hb).mpr h
theorem nltL {a : Nat} (b : Nat) (ha : a < 2 ^ 31) (hb : b < 2 ^ 31) (h : b ≤ a) : ¬ nI a < (OfNat.ofNat b : Int32) := fun q => absurd ((nI_ltI ha hb).mp q) (by omega)
theorem Llt {a : Nat} (b : Nat) (ha : a < 2 ^ 31) (hb : b < 2 ^ 31) (h : b < a) : (OfNat.ofNat b : Int32) < nI a := (nI_ltI hb ha).mpr h
theorem Lnlt {a : Nat} (b : Nat) (ha : a < 2 ^ 31) (hb : b < 2 ^ 31) (h : a ≤ b) : ¬ (OfNat.ofNat b : Int32) < nI a := fun q => absurd ((nI_ltI hb ha).mp q) (by omega)
theorem leL {a : Nat} (b : Nat) (ha : a < 2 ^ 31) (hb : b < 2 ^ 31) (h : a ≤ b) : nI a ≤ (OfNat.ofNat b : Int32) := (nI_leI ha hb).mpr h
theorem nleL {a : Nat} (b : Nat) (ha : a < 2 ^ 31) (hb : b < 2 ^ 31) (h : b < a) : ¬ nI a ≤ (OfNat.ofNat b : Int32) := fun q => absurd ((nI_leI ha hb).mp q) (by omega)
theorem Lle {a : Nat} (b : Nat) (ha : a < 2 ^ 31) (hb : b < 2 ^ 31) (h : b ≤ a) : (OfNat.ofNat b : Int32) ≤ nI a := (nI_leI hb ha).mpr h
theorem Lnle {a : Nat} (b : Nat) (ha : a < 2 ^ 31) (hb : b < 2 ^ 31) (h : a < b) : ¬ (OfNat.ofNat b : Int32) ≤ nI a := fun q => absurd ((nI_leI hb ha).mp q) (by omega)
theorem nle2 {a b : Nat} (ha : a < 2 ^ 31) (hb : b < 2 ^ 31) (h : b < a) : ¬ nI a ≤ nI b := fun q => absurd ((nI_leI ha hb).mp q) (by omega)
theorem le2 {a b : Nat} (ha : a < 2 ^ 31) (hb : b < 2 ^ 31) (h : a ≤ b) : nI a ≤ nI b := (nI_leI ha hb).mpr h
theorem nlt2 {a b : Nat} (ha : a < 2 ^ 31) (hb : b < 2 ^ 31) (h : b ≤ a) : ¬ nI a < nI b := fun q => absurd ((nI_ltI ha hb).mp q) (by omega)
theorem lt2 {a b : Nat} (ha : a < 2 ^ 31) (hb : b < 2 ^ 31) (h : a < b) : nI a < nI b := (nI_ltI ha hb).mpr h
