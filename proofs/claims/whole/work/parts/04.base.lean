/-! the memory: ints, longs, floats, each by cell and place -/
abbrev llMem : Type := (Nat → Nat → Int32) × (Nat → Nat → Int64) × (Nat → Nat → UInt32)
/-- a cell's shape: an array (its type 0 int, 1 long, 2 float, 3 boolean; its length), or an object (its class, its fields: 0 an int, 1 a long, r + 2 the cell r) -/
abbrev llSh : Type := (Nat × Nat) ⊕ (Nat × List Nat)
def llFv (ad : Nat → Nat) (u : llMem) (c k t : Nat) : Value := match t with
  | 0 => .int (u.1 c k)
  | 1 => .long (u.2.1 c k)
  | r + 2 => .ref (ad r)
def llFvs (ad : Nat → Nat) (u : llMem) (c : Nat) : Nat → List Nat → List Value
  | _, [] => []
  | k, t :: ts => llFv ad u c k t :: llFvs ad u c (k + 1) ts
theorem llFvs_get (ad : Nat → Nat) (u : llMem) (c : Nat) : ∀ (ts : List Nat) (k0 k t : Nat), ts[k]? = some t → (llFvs ad u c k0 ts)[k]? = some (llFv ad u c (k0 + k) t)
  | [], _, k, t, h => by simp at h
  | a :: ts, k0, 0, t, h => by simp at h; subst h; simp [llFvs]
  | a :: ts, k0, k + 1, t, h => by
    have h1 := llFvs_get ad u c ts (k0 + 1) k t (by simpa using h)
    have e : k0 + 1 + k = k0 + (k + 1) := by omega
    rw [e] at h1
    simpa [llFvs] using h1
theorem llFvs_len (ad : Nat → Nat) (u : llMem) (c : Nat) : ∀ (ts : List Nat) (k0 : Nat), (llFvs ad u c k0 ts).length = ts.length
  | [], _ => rfl
  | _ :: ts, k0 => by simp [llFvs, llFvs_len ad u c ts (k0 + 1)]
theorem llFvs_congr {ad : Nat → Nat} {u u' : llMem} {c : Nat} : ∀ (ts : List Nat) (k0 : Nat), (∀ j t, llFv ad u c (k0 + j) t = llFv ad u' c (k0 + j) t) → llFvs ad u c k0 ts = llFvs ad u' c k0 ts
  | [], _, _ => rfl
  | t :: ts, k0, h => by
    have h0 := h 0 t
    have h1 := llFvs_congr (ad := ad) (u := u) (u' := u') (c := c) ts (k0 + 1) (fun j t => by have := h (j + 1) t; rwa [show k0 + (j + 1) = k0 + 1 + j by omega] at this)
    simp only [Nat.add_zero] at h0
    simp [llFvs, h0, h1]
theorem llFvs_set {ad : Nat → Nat} {u u' : llMem} {c : Nat} : ∀ (ts : List Nat) (k0 k t : Nat), ts[k]? = some t → (∀ j t', j ≠ k → llFv ad u c (k0 + j) t' = llFv ad u' c (k0 + j) t') → (llFvs ad u c k0 ts).set k (llFv ad u' c (k0 + k) t) = llFvs ad u' c k0 ts
  | [], _, k, t, h, _ => by simp at h
  | a :: ts, k0, 0, t, h, hj => by
    simp at h; subst h
    have h1 : llFvs ad u c (k0 + 1) ts = llFvs ad u' c (k0 + 1) ts := llFvs_congr ts (k0 + 1) (fun j t => by have := hj (j + 1) t (by omega); rwa [show k0 + (j + 1) = k0 + 1 + j by omega] at this)
    simp [llFvs, h1]
  | a :: ts, k0, k + 1, t, h, hj => by
    have h1 := llFvs_set (ad := ad) (u := u) (u' := u') (c := c) ts (k0 + 1) k t (by simpa using h) (fun j t' hne => by have := hj (j + 1) t' (by omega); rwa [show k0 + (j + 1) = k0 + 1 + j by omega] at this)
    rw [show k0 + 1 + k = k0 + (k + 1) by omega] at h1
    have h0 := hj 0 a (by omega)
    simp only [Nat.add_zero] at h0
    simp [llFvs, h1, h0]
def llArr (u : llMem) (c t : Nat) : (Nat → Int32) ⊕ (Nat → Int64) ⊕ (Nat → UInt32) ⊕ (Nat → UInt64) ⊕ (Nat → Option Nat) := match t with
  | 1 => .inr (.inl (u.2.1 c))
  | 2 => .inr (.inr (.inl (u.2.2 c)))
  | _ => .inl (u.1 c)
def llCell (dA : Nat → ClassId) (ad : Nat → Nat) (u : llMem) (c : Nat) (sh : llSh) : va_E := match sh with
  | .inl (t, n) => .inl (dA t, n, llArr u c t)
  | .inr (ci, ts) => .inr (ci, llFvs ad u c 0 ts)
def llShp : List llSh := [.inr (10, [3, 5, 16, 28, 32, 44, 45, 50, 54, 65]), .inr (8, [4, 0, 0, 0, 0, 0, 1, 0, 0, 0]), .inl (0, 700), .inr (4, [0, 6, 7, 8, 9, 0, 10, 11, 12, 13, 14, 15]), .inl (0, 4), .inl (0, 4), .inl (0, 4), .inl (0, 4), .inl (1, 30), .inl (0, 30), .inl (0, 30), .inl (0, 30), .inl (0, 30), .inl (0, 30), .inr (6, [0, 0, 17, 18, 19, 20, 21, 22, 23, 24, 25, 26, 27]), .inl (0, 150), .inl (0, 150), .inl (0, 900), .inl (0, 30), .inl (0, 30), .inl (0, 30), .inl (0, 30), .inl (0, 30), .inl (0, 30), .inl (0, 30), .inl (0, 30), .inr (1, [5, 16, 0, 29, 30, 31]), .inl (0, 8), .inl (0, 8), .inl (0, 8), .inr (5, [3, 33]), .inr (4, [0, 34, 35, 36, 37, 0, 38, 39, 40, 41, 42, 43]), .inl (0, 4), .inl (0, 4), .inl (0, 4), .inl (0, 4), .inl (1, 30), .inl (0, 30), .inl (0, 30), .inl (0, 30), .inl (0, 30), .inl (0, 30), .inr (0, [3, 5, 16]), .inr (7, [5, 16, 0, 46, 47, 48, 0, 49]), .inl (0, 12), .inl (0, 30), .inl (0, 30), .inl (0, 96), .inr (9, [5, 51, 0, 52, 53, 0, 0, 0]), .inl (0, 900), .inl (0, 12), .inl (0, 36), .inr (3, [5, 50, 55, 56, 57, 0, 0, 0, 58, 59, 0, 60, 61, 62, 63, 64, 0]), .inl (0, 4), .inl (0, 4), .inl (0, 30), .inl (0, 12), .inl (0, 12), .inl (0, 924), .inl (0, 4096), .inl (0, 13), .inl (0, 3), .inl (0, 3), .inr (2, [5, 16, 45, 66, 67, 68, 69, 70]), .inl (0, 4), .inl (0, 4), .inl (0, 16), .inl (0, 480), .inl (0, 30), .inr (11, [72, 0, 0, 73, 74, 75, 76, 77, 78, 0, 0, 0, 79, 80, 0, 81, 0, 0, 0, 0, 0, 0, 0, 0, 1, 0, 0, 0, 82, 0, 83, 84, 85, 86, 87, 88, 89, 90, 91, 92, 93, 0, 0, 0, 94, 95, 96, 97, 98, 99, 100, 101, 102, 0]), .inl (0, 32), .inl (1, 60), .inl (0, 60), .inl (0, 60), .inl (0, 60), .inl (0, 60), .inl (0, 60), .inl (0, 1020), .inl (0, 8160), .inl (0, 700), .inl (0, 360), .inl (0, 30), .inl (0, 30), .inl (0, 30), .inl (0, 30), .inl (2, 30), .inl (0, 48), .inl (0, 4), .inl (0, 12), .inl (0, 144), .inl (0, 12), .inl (0, 12), .inl (3, 30), .inl (3, 30), .inl (3, 30), .inl (3, 30), .inl (0, 48), .inl (0, 4), .inl (0, 4), .inl (0, 4), .inl (0, 200)]
def llN : Nat := llShp.length
def llW (dA : Nat → ClassId) (ad : Nat → Nat) (u : llMem) : va_W := llShp.mapIdx (fun c sh => (ad c, llCell dA ad u c sh))
theorem llW_at {dA : Nat → ClassId} {ad : Nat → Nat} {u : llMem} {c : Nat} {sh : llSh} (h : llShp[c]? = some sh) : (llW dA ad u)[c]? = some (ad c, llCell dA ad u c sh) := by
  simp [llW, List.getElem?_mapIdx, h]
theorem llW_of {dA : Nat → ClassId} {ad : Nat → Nat} {u : llMem} {c : Nat} {q : Nat × va_E} (h : (llW dA ad u)[c]? = some q) : c < llN ∧ q.1 = ad c := by
  simp only [llW, List.getElem?_mapIdx] at h
  cases hs : llShp[c]? with
  | none => simp [hs] at h
  | some sh =>
    simp [hs] at h
    exact ⟨(List.getElem?_eq_some_iff.mp hs).1, by rw [← h]⟩
theorem llCell_ne {dA : Nat → ClassId} {ad : Nat → Nat} {u u' : llMem} {i : Nat} (h1 : u'.1 i = u.1 i) (h2 : u'.2.1 i = u.2.1 i) (h3 : u'.2.2 i = u.2.2 i) (sh : llSh) : llCell dA ad u' i sh = llCell dA ad u i sh := by
  rcases sh with ⟨t, n⟩ | ⟨ci, ts⟩
  · simp only [llCell, llArr, h1, h2, h3]
  · simp only [llCell]
    rw [llFvs_congr ts 0 (u := u') (u' := u) (fun j t => by unfold llFv; rw [h1, h2])]
theorem llW_set {dA : Nat → ClassId} {ad : Nat → Nat} {u u' : llMem} {c : Nat} {sh : llSh} (h : llShp[c]? = some sh) (hn : ∀ i, i ≠ c → u'.1 i = u.1 i ∧ u'.2.1 i = u.2.1 i ∧ u'.2.2 i = u.2.2 i) : (llW dA ad u).set c (ad c, llCell dA ad u' c sh) = llW dA ad u' := by
  apply List.ext_getElem?
  intro i
  by_cases hi : c = i
  · subst hi
    rw [List.getElem?_set_self (by rw [llW, List.length_mapIdx]; exact (List.getElem?_eq_some_iff.mp h).1), llW_at h]
  · rw [List.getElem?_set_ne hi]
    simp only [llW, List.getElem?_mapIdx]
    cases llShp[i]? with
    | none => rfl
    | some s2 =>
      obtain ⟨e1, e2, e3⟩ := hn i (fun e => hi e.symm)
      simp [llCell_ne e1 e2 e3]
/-! writes -/
def llSA (u : llMem) (c : Nat) (f : Nat → Int32) : llMem := (fun i => if i = c then f else u.1 i, u.2)
def llSI (u : llMem) (c k : Nat) (v : Int32) : llMem := llSA u c (upd (u.1 c) k v)
def llSLA (u : llMem) (c : Nat) (f : Nat → Int64) : llMem := (u.1, fun i => if i = c then f else u.2.1 i, u.2.2)
def llSL (u : llMem) (c k : Nat) (v : Int64) : llMem := llSLA u c (vp_updL (u.2.1 c) k v)
def llSF (u : llMem) (c k : Nat) (v : UInt32) : llMem := (u.1, u.2.1, fun i => if i = c then vf_upd (u.2.2 c) k v else u.2.2 i)
theorem llSA_ne {u : llMem} {c : Nat} {f : Nat → Int32} (i : Nat) (h : i ≠ c) : (llSA u c f).1 i = u.1 i ∧ (llSA u c f).2.1 i = u.2.1 i ∧ (llSA u c f).2.2 i = u.2.2 i := ⟨by simp [llSA, h], rfl, rfl⟩
theorem llSLA_ne {u : llMem} {c : Nat} {f : Nat → Int64} (i : Nat) (h : i ≠ c) : (llSLA u c f).1 i = u.1 i ∧ (llSLA u c f).2.1 i = u.2.1 i ∧ (llSLA u c f).2.2 i = u.2.2 i := ⟨rfl, by simp [llSLA, h], rfl⟩
theorem llSF_ne {u : llMem} {c k : Nat} {v : UInt32} (i : Nat) (h : i ≠ c) : (llSF u c k v).1 i = u.1 i ∧ (llSF u c k v).2.1 i = u.2.1 i ∧ (llSF u c k v).2.2 i = u.2.2 i := ⟨rfl, rfl, by simp [llSF, h]⟩
theorem llW_setI {dA : Nat → ClassId} {ad : Nat → Nat} {u : llMem} {c ci k : Nat} {ts : List Nat} {v : Int32} (h : llShp[c]? = some (.inr (ci, ts))) (hk : ts[k]? = some 0) : (llW dA ad u).set c (ad c, .inr (ci, (llFvs ad u c 0 ts).set k (.int v))) = llW dA ad (llSI u c k v) := by
  show _ = llW dA ad (llSA u c (upd (u.1 c) k v))
  rw [← llW_set h (fun i hi => llSA_ne (f := upd (u.1 c) k v) i hi)]
  have e : (llFvs ad u c 0 ts).set k (Value.int v) = llFvs ad (llSI u c k v) c 0 ts := by
    have h1 := llFvs_set (ad := ad) (u := u) (u' := llSI u c k v) (c := c) ts 0 k 0 hk (fun j t hj => by
      simp only [Nat.zero_add]
      unfold llFv
      cases t with
      | zero => simp [llSI, llSA, upd, hj]
      | succ t => cases t <;> rfl)
    rw [← h1]
    simp [llFv, llSI, llSA, upd]
  show _ = (llW dA ad u).set c (ad c, .inr (ci, llFvs ad (llSI u c k v) c 0 ts))
  rw [e]
theorem llW_setL {dA : Nat → ClassId} {ad : Nat → Nat} {u : llMem} {c ci k : Nat} {ts : List Nat} {v : Int64} (h : llShp[c]? = some (.inr (ci, ts))) (hk : ts[k]? = some 1) : (llW dA ad u).set c (ad c, .inr (ci, (llFvs ad u c 0 ts).set k (.long v))) = llW dA ad (llSL u c k v) := by
  show _ = llW dA ad (llSLA u c (vp_updL (u.2.1 c) k v))
  rw [← llW_set h (fun i hi => llSLA_ne (f := vp_updL (u.2.1 c) k v) i hi)]
  have e : (llFvs ad u c 0 ts).set k (Value.long v) = llFvs ad (llSL u c k v) c 0 ts := by
    have h1 := llFvs_set (ad := ad) (u := u) (u' := llSL u c k v) (c := c) ts 0 k 1 hk (fun j t hj => by
      simp only [Nat.zero_add]
      unfold llFv
      cases t with
      | zero => rfl
      | succ t => cases t with
        | zero => simp [llSL, llSLA, vp_updL, hj]
        | succ t => rfl)
    rw [← h1]
    simp [llFv, llSL, llSLA, vp_updL]
  show _ = (llW dA ad u).set c (ad c, .inr (ci, llFvs ad (llSL u c k v) c 0 ts))
  rw [e]
theorem llW_setA0 {dA : Nat → ClassId} {ad : Nat → Nat} {u : llMem} {c n : Nat} {f : Nat → Int32} (h : llShp[c]? = some (.inl (0, n))) : (llW dA ad u).set c (ad c, .inl (dA 0, n, .inl f)) = llW dA ad (llSA u c f) := by
  rw [← llW_set h (fun i hi => llSA_ne (f := f) i hi)]
  simp [llCell, llArr, llSA]
theorem llW_setA3 {dA : Nat → ClassId} {ad : Nat → Nat} {u : llMem} {c n : Nat} {f : Nat → Int32} (h : llShp[c]? = some (.inl (3, n))) : (llW dA ad u).set c (ad c, .inl (dA 3, n, .inl f)) = llW dA ad (llSA u c f) := by
  rw [← llW_set h (fun i hi => llSA_ne (f := f) i hi)]
  simp [llCell, llArr, llSA]
theorem llW_setA1 {dA : Nat → ClassId} {ad : Nat → Nat} {u : llMem} {c n : Nat} {f : Nat → Int64} (h : llShp[c]? = some (.inl (1, n))) : (llW dA ad u).set c (ad c, .inl (dA 1, n, .inr (.inl f))) = llW dA ad (llSLA u c f) := by
  rw [← llW_set h (fun i hi => llSLA_ne (f := f) i hi)]
  simp [llCell, llArr, llSLA]
theorem llW_setA2 {dA : Nat → ClassId} {ad : Nat → Nat} {u : llMem} {c n k : Nat} {v : UInt32} (h : llShp[c]? = some (.inl (2, n))) : (llW dA ad u).set c (ad c, .inl (dA 2, n, .inr (.inr (.inl (vf_upd (u.2.2 c) k v))))) = llW dA ad (llSF u c k v) := by
  rw [← llW_set h (fun i hi => llSF_ne (u := u) (k := k) (v := v) i hi)]
  simp [llCell, llArr, llSF]
/-! what is fixed: D, the arrays' classes, the addresses, those of the string constants and of their bytes, a formatter's -/
abbrev llFix : Type := va_G × (Nat → ClassId) × (Nat → Nat) × (Nat → Nat) × (Nat → Nat) × Option Nat
def llA (ad : Nat → Nat) : Nat → Prop := fun q => ∃ c, c < llN ∧ q = ad c
def llTys (dA : Nat → ClassId) : List (ClassId × FieldType) := [(dA 0, .int), (dA 1, .long), (dA 2, .float), (dA 3, .boolean)]
def llBase (F : llFix) (U : State) : Prop := va_K F.1 vwCl (llTys F.2.1) U ∧ ∀ i j, i < llN → j < llN → F.2.2.1 i = F.2.2.1 j → i = j
theorem llBase.D {F : llFix} {U : State} (h : llBase F U) (u : llMem) : va_D (llA F.2.2.1) (llW F.2.1 F.2.2.1 u) := by
  refine ⟨fun i j p q hp hq e => ?_, fun k q hq => ?_⟩
  · obtain ⟨h1, h2⟩ := llW_of hp
    obtain ⟨h3, h4⟩ := llW_of hq
    exact h.2 i j h1 h3 (by rw [← h2, ← h4, e])
  · obtain ⟨h1, h2⟩ := llW_of hq
    exact ⟨k, h1, h2⟩
theorem llBase.moved {F : llFix} {u U : State} (hvm : u.vm.Alike U.vm) (h : llBase F u) : llBase F U := ⟨va_K.moved hvm h.1, h.2⟩
def llIdx : List Nat := [175, 180, 182, 183, 185, 187, 189]
def llTxt : List String := ["level", "of", "down", "need", "club", "grade", "in"]
def llLen : List Nat := [5, 2, 4, 4, 4, 5, 2]
def llByt : List (List Int32) := [[108, 101, 118, 101, 108], [111, 102], [100, 111, 119, 110], [110, 101, 101, 100], [99, 108, 117, 98], [103, 114, 97, 100, 101], [105, 110]]
def llStr (F : llFix) (U : State) (H : Heap) : Prop := vk_S 7 llLen llByt F.2.2.2.1 F.2.2.2.2.1 (llA F.2.2.1) U H ∧ (∀ i, i < 7 → vk_R "LeagueLevelsModel" (llIdx.getD i 0) (llTxt.getD i "") (F.2.2.2.1 i) U) ∧ va_Z "java/lang/String" "COMPACT_STRINGS" "Z" (.int 1) (llA F.2.2.1) U H ∧ va_Z "jdk/internal/util/Preconditions" "SIOOBE_FORMATTER" "Ljava/util/function/BiFunction;" (va_rf F.2.2.2.2.2) (llA F.2.2.1) U H
def llWd (F : llFix) (u : llMem) (U : State) : Prop := va_P F.1 vwCl (llW F.2.1 F.2.2.1 u) U.heap ∧ llBase F U ∧ llStr F U U.heap
def llTb : List Cond := lw_tbl.filter goodWord
def llRm (d : Nat) : Room := { frames := d + 1, cells := 0, slots := 0, locals := 64 * (d + 1) }
def llQc {α : Type} (F : llFix) (mk : α → Option Value) (r : llMem × α) : Array Value → State → Outcome → State → Prop := fun _ st oc t => (oc = .returned (mk r.2) ∧ va_P F.1 vwCl (llW F.2.1 F.2.2.1 r.1) t.heap) ∧ va_F (llA F.2.2.1) st t
/-- a method's contract: what the pure program x answers, it answers and does -/
def llCt {α : Type} (l : Launch) (F : llFix) (y : MethodName) (cc : ByteArray) (nL : Nat) (ret : Option FieldType) (d : Nat) (av : List Value) (u : llMem) (mk : α → Option Value) (x : Option (llMem × α)) : Prop :=
  ∀ r, x = some r → Met l y (Cond.code y cc nL ret :: llTb) (llRm d) (va_Pc av (llWd F u)) (llQc F mk r) 0 0 (llA F.2.2.1)
abbrev llG := Program × Launch × Env × Room × State × MethodId × Array Value × List Frame × Method × Code × Nat × Nat × (State → Prop) × llFix
def llOk (G : llG) (own : String) (cc : ByteArray) (nL : Nat) (ret : Option FieldType) (d : Nat) : Prop := match G with
  | (p, _, _, R, s, m, args, _, meth, c, cells, slots, _, F) => p.tables.exec = Jvm.exec ∧ c.code = cc ∧ c.maxLocals = nL ∧ meth.sig.returnType = ret ∧ meth.locks = false ∧ s.vm.findClass own = some m.cls ∧ (∀ w ∈ llTb, w.before args s = true) ∧ llBase F s ∧ llStr F s s.heap ∧ d + 1 ≤ R.frames ∧ 64 * (d + 1) ≤ R.locals ∧ cells ≤ R.cells ∧ slots ≤ R.slots
def llJq (G : llG) (nL pc : Nat) (lv : List (Nat × Value)) (st : List Value) (u : llMem) : Prop := match G with
  | (p, l, e, R, s, m, args, below, meth, c, cells, slots, Z, F) => ∀ (H : Heap) (locs : List Loc) (ls : Array Slot), va_P F.1 vwCl (llW F.2.1 F.2.2.1 u) H → va_S (llA F.2.2.1) s.heap H locs → lv_has ls nL lv → W p l e R s m args below meth c H locs cells slots Z (F0 m pc ls st)
/-- from here on the machine does what the pure program x says: if x answers r, and K holds of r, it comes to its end -/
def llJ {ρ : Type} (G : llG) (own : String) (cc : ByteArray) (nL : Nat) (ret : Option FieldType) (d : Nat) (K : ρ → Prop) (pc : Nat) (lv : List (Nat × Value)) (st : List Value) (u : llMem) (x : Option ρ) : Prop := llOk G own cc nL ret d → ∀ r, x = some r → K r → llJq G nL pc lv st u
/-- the method's end -/
def llRet (G : llG) (v : Option Value) (u : llMem) : Prop := match G with
  | (_, _, _, _, s, _, args, below, _, _, cells, slots, Z, F) => ∃ Qc, Z = MQ below Qc args s cells slots (llA F.2.2.1) ∧ ∀ (H : Heap) (locs : List Loc) (t : State), va_P F.1 vwCl (llW F.2.1 F.2.2.1 u) H → va_S (llA F.2.2.1) s.heap H locs → t.heap = H → Qc args s (.returned v) t
/-! the words of pure programs -/
def lt {α β : Type} (a : α) (k : α → β) : β := k a
def bd {α β : Type} (x : Option (llMem × α)) (k : llMem → α → Option β) : Option β := match x with
  | none => none
  | some r => k r.1 r.2
def gI {ρ : Type} (i : Int32) (n : Nat) (x : Option ρ) : Option ρ := if i < 0 ∨ n ≤ i.toNatClampNeg then none else x
def gZ {ρ : Type} (y : Int32) (x : Option ρ) : Option ρ := if y = 0 then none else x
def gB {ρ : Type} (v : Int32) (x : Option ρ) : Option ρ := if v = 0 ∨ v = 1 then x else none
def rI (u : llMem) (c : Nat) (i : Int32) : Int32 := u.1 c i.toNatClampNeg
def rL (u : llMem) (c : Nat) (i : Int32) : Int64 := u.2.1 c i.toNatClampNeg
def rF (u : llMem) (c : Nat) (i : Int32) : UInt32 := u.2.2 c i.toNatClampNeg
def loop {S E : Type} (body : S → Option (S ⊕ E)) : Nat → S → Option E
  | 0, _ => none
  | n + 1, s => match body s with
    | none => none
    | some (.inl s') => loop body n s'
    | some (.inr e) => some e
