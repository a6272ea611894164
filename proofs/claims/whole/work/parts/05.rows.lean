theorem gI_some {ρ : Type} {i : Int32} {n : Nat} {x : Option ρ} {r : ρ} (h : gI i n x = some r) : vp_in i n ∧ x = some r := by
  unfold gI at h
  split at h
  · cases h
  · next hn => exact ⟨hn, h⟩
theorem gZ_some {ρ : Type} {y : Int32} {x : Option ρ} {r : ρ} (h : gZ y x = some r) : ¬ y = 0 ∧ x = some r := by
  unfold gZ at h
  split at h
  · cases h
  · next hn => exact ⟨hn, h⟩
theorem gB_some {ρ : Type} {y : Int32} {x : Option ρ} {r : ρ} (h : gB y x = some r) : (y = 0 ∨ y = 1) ∧ x = some r := by
  unfold gB at h
  split at h
  · next hn => exact ⟨hn, h⟩
  · cases h
theorem bd_some {α β : Type} {x : Option (llMem × α)} {k : llMem → α → Option β} {r : β} (h : bd x k = some r) : ∃ q, x = some q ∧ k q.1 q.2 = some r := by
  unfold bd at h
  cases x with
  | none => cases h
  | some q => exact ⟨q, rfl, h⟩
theorem ob_some {α β : Type} {x : Option α} {k : α → Option β} {r : β} (h : x.bind k = some r) : ∃ q, x = some q ∧ k q = some r := by
  cases x with
  | none => cases h
  | some q => exact ⟨q, rfl, h⟩
def g32 {ρ : Type} (a : UInt32) (x : Option ρ) : Option ρ := if a &&& 0x7fffffff ≤ 0x7f800000 then x else none
def g64 {ρ : Type} (a : UInt64) (x : Option ρ) : Option ρ := if a &&& 0x7fffffffffffffff ≤ 0x7ff0000000000000 then x else none
theorem g32_some {ρ : Type} {a : UInt32} {x : Option ρ} {r : ρ} (h : g32 a x = some r) : vf_n32 a ∧ x = some r := by
  unfold g32 at h
  split at h
  · next hn => exact ⟨hn, h⟩
  · cases h
theorem g64_some {ρ : Type} {a : UInt64} {x : Option ρ} {r : ρ} (h : g64 a x = some r) : vf_n64 a ∧ x = some r := by
  unfold g64 at h
  split at h
  · next hn => exact ⟨hn, h⟩
  · cases h
def llL (G : llG) : Launch := G.2.1
def llFx (G : llG) : llFix := G.2.2.2.2.2.2.2.2.2.2.2.2.2
def llAd (G : llG) (c : Nat) : Nat := (llFx G).2.2.1 c
def llSk (G : llG) (c : Nat) : Nat := (llFx G).2.2.2.1 c
def llI (v : Int32) : Option Value := some (.int v)
def llLg (v : Int64) : Option Value := some (.long v)
def llFl (v : UInt32) : Option Value := some (.float v)
def llVd (_ : Unit) : Option Value := none
def llCl (ci : Nat) (C : String) (T : u_T) (N : Nat) (ty : Nat → FieldType) : Prop := vwCl[ci]? = some (C, T, N) ∧ (∀ w ∈ u_ws C T N, w ∈ llTb) ∧ (∀ k, k < N → parseFieldDescriptor (T k).2.2.1 = some (ty k)) ∧ ∀ a, a < N → ∀ b, b < N → a ≠ b → (T a).2.1 ≠ (T b).2.1
/-- a field's link: index idx of class own is field k of the class ci; its type; whether it is final -/
def llFd (own : String) (idx ci k : Nat) (t : FieldType) (fin : Bool) : Prop := ∃ C T N ty, llCl ci C T N ty ∧ k < N ∧ Cond.fieldLink own idx (T k).1 (T k).2.1 (T k).2.2.1 ∈ llTb ∧ ty k = t ∧ (T k).2.2.2 = fin
section
variable {ρ : Type} {G : llG} {own : String} {cc : ByteArray} {nL : Nat} {ret : Option FieldType} {d : Nat} {K : ρ → Prop} {pc : Nat} {lv : List (Nat × Value)} {rest : List Value} {u : llMem} {x : Option ρ}

theorem J_iadd {a b : Int32} (hd : decode cc pc = .ok (.iadd, 1)) (k : llJ G own cc nL ret d K (pc + 1) lv (.int (a + b) :: rest) u x) : llJ G own cc nL ret d K pc lv (.int b :: .int a :: rest) u x := by
  obtain ⟨p, l, e, R, s, m, args, below, meth, c0, cells, slots, Z, F⟩ := G
  intro ok r hr hK H locs ls hP hS hl
  exact lv_iadd ok.1 ok.2.1 hd (k ok r hr hK H locs ls hP hS hl)
theorem J_isub {a b : Int32} (hd : decode cc pc = .ok (.isub, 1)) (k : llJ G own cc nL ret d K (pc + 1) lv (.int (a - b) :: rest) u x) : llJ G own cc nL ret d K pc lv (.int b :: .int a :: rest) u x := by
  obtain ⟨p, l, e, R, s, m, args, below, meth, c0, cells, slots, Z, F⟩ := G
  intro ok r hr hK H locs ls hP hS hl
  exact lv_isub ok.1 ok.2.1 hd (k ok r hr hK H locs ls hP hS hl)
theorem J_imul {a b : Int32} (hd : decode cc pc = .ok (.imul, 1)) (k : llJ G own cc nL ret d K (pc + 1) lv (.int (a * b) :: rest) u x) : llJ G own cc nL ret d K pc lv (.int b :: .int a :: rest) u x := by
  obtain ⟨p, l, e, R, s, m, args, below, meth, c0, cells, slots, Z, F⟩ := G
  intro ok r hr hK H locs ls hP hS hl
  exact lv_imul ok.1 ok.2.1 hd (k ok r hr hK H locs ls hP hS hl)
theorem J_iand {a b : Int32} (hd : decode cc pc = .ok (.iand, 1)) (k : llJ G own cc nL ret d K (pc + 1) lv (.int (a &&& b) :: rest) u x) : llJ G own cc nL ret d K pc lv (.int b :: .int a :: rest) u x := by
  obtain ⟨p, l, e, R, s, m, args, below, meth, c0, cells, slots, Z, F⟩ := G
  intro ok r hr hK H locs ls hP hS hl
  exact lv_iand ok.1 ok.2.1 hd (k ok r hr hK H locs ls hP hS hl)
theorem J_ior {a b : Int32} (hd : decode cc pc = .ok (.ior, 1)) (k : llJ G own cc nL ret d K (pc + 1) lv (.int (a ||| b) :: rest) u x) : llJ G own cc nL ret d K pc lv (.int b :: .int a :: rest) u x := by
  obtain ⟨p, l, e, R, s, m, args, below, meth, c0, cells, slots, Z, F⟩ := G
  intro ok r hr hK H locs ls hP hS hl
  exact lv_ior ok.1 ok.2.1 hd (k ok r hr hK H locs ls hP hS hl)
theorem J_ixor {a b : Int32} (hd : decode cc pc = .ok (.ixor, 1)) (k : llJ G own cc nL ret d K (pc + 1) lv (.int (a ^^^ b) :: rest) u x) : llJ G own cc nL ret d K pc lv (.int b :: .int a :: rest) u x := by
  obtain ⟨p, l, e, R, s, m, args, below, meth, c0, cells, slots, Z, F⟩ := G
  intro ok r hr hK H locs ls hP hS hl
  exact lv_ixor ok.1 ok.2.1 hd (k ok r hr hK H locs ls hP hS hl)
theorem J_ishl {a b : Int32} (hd : decode cc pc = .ok (.ishl, 1)) (k : llJ G own cc nL ret d K (pc + 1) lv (.int (a <<< (b &&& 31)) :: rest) u x) : llJ G own cc nL ret d K pc lv (.int b :: .int a :: rest) u x := by
  obtain ⟨p, l, e, R, s, m, args, below, meth, c0, cells, slots, Z, F⟩ := G
  intro ok r hr hK H locs ls hP hS hl
  exact lv_ishl ok.1 ok.2.1 hd (k ok r hr hK H locs ls hP hS hl)
theorem J_ishr {a b : Int32} (hd : decode cc pc = .ok (.ishr, 1)) (k : llJ G own cc nL ret d K (pc + 1) lv (.int (a >>> (b &&& 31)) :: rest) u x) : llJ G own cc nL ret d K pc lv (.int b :: .int a :: rest) u x := by
  obtain ⟨p, l, e, R, s, m, args, below, meth, c0, cells, slots, Z, F⟩ := G
  intro ok r hr hK H locs ls hP hS hl
  exact lv_ishr ok.1 ok.2.1 hd (k ok r hr hK H locs ls hP hS hl)
theorem J_iushr {a b : Int32} (hd : decode cc pc = .ok (.iushr, 1)) (k : llJ G own cc nL ret d K (pc + 1) lv (.int (a.toUInt32 >>> (b.toUInt32 &&& Int32.toUInt32 31)).toInt32 :: rest) u x) : llJ G own cc nL ret d K pc lv (.int b :: .int a :: rest) u x := by
  obtain ⟨p, l, e, R, s, m, args, below, meth, c0, cells, slots, Z, F⟩ := G
  intro ok r hr hK H locs ls hP hS hl
  exact lv_iushr ok.1 ok.2.1 hd rfl (k ok r hr hK H locs ls hP hS hl)
theorem J_ineg {a : Int32} (hd : decode cc pc = .ok (.ineg, 1)) (k : llJ G own cc nL ret d K (pc + 1) lv (.int (-a) :: rest) u x) : llJ G own cc nL ret d K pc lv (.int a :: rest) u x := by
  obtain ⟨p, l, e, R, s, m, args, below, meth, c0, cells, slots, Z, F⟩ := G
  intro ok r hr hK H locs ls hP hS hl
  exact lv_ineg ok.1 ok.2.1 hd (k ok r hr hK H locs ls hP hS hl)
theorem J_land {a b : Int64} (hd : decode cc pc = .ok (.land, 1)) (k : llJ G own cc nL ret d K (pc + 1) lv (.long (a &&& b) :: rest) u x) : llJ G own cc nL ret d K pc lv (.long b :: .long a :: rest) u x := by
  obtain ⟨p, l, e, R, s, m, args, below, meth, c0, cells, slots, Z, F⟩ := G
  intro ok r hr hK H locs ls hP hS hl
  exact lv_land ok.1 ok.2.1 hd (k ok r hr hK H locs ls hP hS hl)
theorem J_lor {a b : Int64} (hd : decode cc pc = .ok (.lor, 1)) (k : llJ G own cc nL ret d K (pc + 1) lv (.long (a ||| b) :: rest) u x) : llJ G own cc nL ret d K pc lv (.long b :: .long a :: rest) u x := by
  obtain ⟨p, l, e, R, s, m, args, below, meth, c0, cells, slots, Z, F⟩ := G
  intro ok r hr hK H locs ls hP hS hl
  exact lv_lor ok.1 ok.2.1 hd (k ok r hr hK H locs ls hP hS hl)
theorem J_ladd {a b : Int64} (hd : decode cc pc = .ok (.ladd, 1)) (k : llJ G own cc nL ret d K (pc + 1) lv (.long (a + b) :: rest) u x) : llJ G own cc nL ret d K pc lv (.long b :: .long a :: rest) u x := by
  obtain ⟨p, l, e, R, s, m, args, below, meth, c0, cells, slots, Z, F⟩ := G
  intro ok r hr hK H locs ls hP hS hl
  exact lv_ladd ok.1 ok.2.1 hd (k ok r hr hK H locs ls hP hS hl)
theorem J_lshl {a : Int64} {b : Int32} (hd : decode cc pc = .ok (.lshl, 1)) (k : llJ G own cc nL ret d K (pc + 1) lv (.long (a <<< (b.toInt64 &&& 63)) :: rest) u x) : llJ G own cc nL ret d K pc lv (.int b :: .long a :: rest) u x := by
  obtain ⟨p, l, e, R, s, m, args, below, meth, c0, cells, slots, Z, F⟩ := G
  intro ok r hr hK H locs ls hP hS hl
  exact lv_lshl ok.1 ok.2.1 hd rfl (k ok r hr hK H locs ls hP hS hl)
theorem J_lshr {a : Int64} {b : Int32} (hd : decode cc pc = .ok (.lshr, 1)) (k : llJ G own cc nL ret d K (pc + 1) lv (.long (a >>> (b.toInt64 &&& 63)) :: rest) u x) : llJ G own cc nL ret d K pc lv (.int b :: .long a :: rest) u x := by
  obtain ⟨p, l, e, R, s, m, args, below, meth, c0, cells, slots, Z, F⟩ := G
  intro ok r hr hK H locs ls hP hS hl
  exact lv_lshr ok.1 ok.2.1 hd rfl (k ok r hr hK H locs ls hP hS hl)
theorem J_lushr {a : Int64} {b : Int32} (hd : decode cc pc = .ok (.lushr, 1)) (k : llJ G own cc nL ret d K (pc + 1) lv (.long (a.toUInt64 >>> (b.toInt64.toUInt64 &&& Int64.toUInt64 63)).toInt64 :: rest) u x) : llJ G own cc nL ret d K pc lv (.int b :: .long a :: rest) u x := by
  obtain ⟨p, l, e, R, s, m, args, below, meth, c0, cells, slots, Z, F⟩ := G
  intro ok r hr hK H locs ls hP hS hl
  exact lv_lushr ok.1 ok.2.1 hd rfl (k ok r hr hK H locs ls hP hS hl)
theorem J_lcmp {a b : Int64} (hd : decode cc pc = .ok (.lcmp, 1)) (k : llJ G own cc nL ret d K (pc + 1) lv (.int (lg_cmp a b) :: rest) u x) : llJ G own cc nL ret d K pc lv (.long b :: .long a :: rest) u x := by
  obtain ⟨p, l, e, R, s, m, args, below, meth, c0, cells, slots, Z, F⟩ := G
  intro ok r hr hK H locs ls hP hS hl
  exact W.lcmp ok.1 ok.2.1 hd (k ok r hr hK H locs ls hP hS hl)
theorem J_i2l {a : Int32} (hd : decode cc pc = .ok (.i2l, 1)) (k : llJ G own cc nL ret d K (pc + 1) lv (.long a.toInt64 :: rest) u x) : llJ G own cc nL ret d K pc lv (.int a :: rest) u x := by
  obtain ⟨p, l, e, R, s, m, args, below, meth, c0, cells, slots, Z, F⟩ := G
  intro ok r hr hK H locs ls hP hS hl
  exact lv_i2l ok.1 ok.2.1 hd rfl (k ok r hr hK H locs ls hP hS hl)
theorem J_l2i {a : Int64} (hd : decode cc pc = .ok (.l2i, 1)) (k : llJ G own cc nL ret d K (pc + 1) lv (.int a.toInt32 :: rest) u x) : llJ G own cc nL ret d K pc lv (.long a :: rest) u x := by
  obtain ⟨p, l, e, R, s, m, args, below, meth, c0, cells, slots, Z, F⟩ := G
  intro ok r hr hK H locs ls hP hS hl
  exact lv_l2i ok.1 ok.2.1 hd rfl (k ok r hr hK H locs ls hP hS hl)
theorem J_i2f {a : Int32} (hd : decode cc pc = .ok (.i2f, 1)) (k : llJ G own cc nL ret d K (pc + 1) lv (.float (FP.i2f a) :: rest) u x) : llJ G own cc nL ret d K pc lv (.int a :: rest) u x := by
  obtain ⟨p, l, e, R, s, m, args, below, meth, c0, cells, slots, Z, F⟩ := G
  intro ok r hr hK H locs ls hP hS hl
  exact lv_i2f ok.1 ok.2.1 hd (k ok r hr hK H locs ls hP hS hl)
theorem J_i2d {a : Int32} (hd : decode cc pc = .ok (.i2d, 1)) (k : llJ G own cc nL ret d K (pc + 1) lv (.double (FP.i2d a) :: rest) u x) : llJ G own cc nL ret d K pc lv (.int a :: rest) u x := by
  obtain ⟨p, l, e, R, s, m, args, below, meth, c0, cells, slots, Z, F⟩ := G
  intro ok r hr hK H locs ls hP hS hl
  exact lv_i2d ok.1 ok.2.1 hd (k ok r hr hK H locs ls hP hS hl)
theorem J_d2l {a : UInt64} (hd : decode cc pc = .ok (.d2l, 1)) (k : llJ G own cc nL ret d K (pc + 1) lv (.long (FP.d2l a) :: rest) u x) : llJ G own cc nL ret d K pc lv (.double a :: rest) u x := by
  obtain ⟨p, l, e, R, s, m, args, below, meth, c0, cells, slots, Z, F⟩ := G
  intro ok r hr hK H locs ls hP hS hl
  exact lv_d2l ok.1 ok.2.1 hd (k ok r hr hK H locs ls hP hS hl)
theorem J_l2d {a : Int64} (hd : decode cc pc = .ok (.l2d, 1)) (k : llJ G own cc nL ret d K (pc + 1) lv (.double (FP.l2d a) :: rest) u x) : llJ G own cc nL ret d K pc lv (.long a :: rest) u x := by
  obtain ⟨p, l, e, R, s, m, args, below, meth, c0, cells, slots, Z, F⟩ := G
  intro ok r hr hK H locs ls hP hS hl
  exact lv_l2d ok.1 ok.2.1 hd (k ok r hr hK H locs ls hP hS hl)
theorem J_dneg {a : UInt64} (hd : decode cc pc = .ok (.dneg, 1)) (k : llJ G own cc nL ret d K (pc + 1) lv (.double (FP.dneg a) :: rest) u x) : llJ G own cc nL ret d K pc lv (.double a :: rest) u x := by
  obtain ⟨p, l, e, R, s, m, args, below, meth, c0, cells, slots, Z, F⟩ := G
  intro ok r hr hK H locs ls hP hS hl
  exact lv_dneg ok.1 ok.2.1 hd (k ok r hr hK H locs ls hP hS hl)
theorem J_fcmp {a b : UInt32} {op : CmpOp} (hd : decode cc pc = .ok (.fcmp op, 1)) (k : llJ G own cc nL ret d K (pc + 1) lv (.int (Op.cmpValue (FP.fcmp a b) op) :: rest) u x) : llJ G own cc nL ret d K pc lv (.float b :: .float a :: rest) u x := by
  obtain ⟨p, l, e, R, s, m, args, below, meth, c0, cells, slots, Z, F⟩ := G
  intro ok r hr hK H locs ls hP hS hl
  exact lv_fcmp ok.1 ok.2.1 hd (k ok r hr hK H locs ls hP hS hl)
theorem J_dcmp {a b : UInt64} {op : CmpOp} (hd : decode cc pc = .ok (.dcmp op, 1)) (k : llJ G own cc nL ret d K (pc + 1) lv (.int (Op.cmpValue (FP.dcmp a b) op) :: rest) u x) : llJ G own cc nL ret d K pc lv (.double b :: .double a :: rest) u x := by
  obtain ⟨p, l, e, R, s, m, args, below, meth, c0, cells, slots, Z, F⟩ := G
  intro ok r hr hK H locs ls hP hS hl
  exact lv_dcmp ok.1 ok.2.1 hd (k ok r hr hK H locs ls hP hS hl)
theorem J_idiv {a b : Int32} (hd : decode cc pc = .ok (.idiv, 1)) (k : llJ G own cc nL ret d K (pc + 1) lv (.int (a / b) :: rest) u x) : llJ G own cc nL ret d K pc lv (.int b :: .int a :: rest) u (gZ b x) := by
  obtain ⟨p, l, e, R, s, m, args, below, meth, c0, cells, slots, Z, F⟩ := G
  intro ok r hr hK H locs ls hP hS hl
  obtain ⟨hg, hr⟩ := gZ_some hr
  exact lv_idiv ok.1 ok.2.1 hd hg (k ok r hr hK H locs ls hP hS hl)
theorem J_irem {a b : Int32} (hd : decode cc pc = .ok (.irem, 1)) (k : llJ G own cc nL ret d K (pc + 1) lv (.int (a - a / b * b) :: rest) u x) : llJ G own cc nL ret d K pc lv (.int b :: .int a :: rest) u (gZ b x) := by
  obtain ⟨p, l, e, R, s, m, args, below, meth, c0, cells, slots, Z, F⟩ := G
  intro ok r hr hK H locs ls hP hS hl
  obtain ⟨hg, hr⟩ := gZ_some hr
  exact lv_irem ok.1 ok.2.1 hd hg (k ok r hr hK H locs ls hP hS hl)
theorem J_fdiv {a b : UInt32} (hd : decode cc pc = .ok (.fdiv, 1)) (k : llJ G own cc nL ret d K (pc + 1) lv (.float (FP.fdiv a b) :: rest) u x) : llJ G own cc nL ret d K pc lv (.float b :: .float a :: rest) u (g32 (FP.fdiv a b) x) := by
  obtain ⟨p, l, e, R, s, m, args, below, meth, c0, cells, slots, Z, F⟩ := G
  intro ok r hr hK H locs ls hP hS hl
  obtain ⟨hg, hr⟩ := g32_some hr
  exact lv_fdiv ok.1 ok.2.1 hd hg (k ok r hr hK H locs ls hP hS hl)
theorem J_ddiv {a b : UInt64} (hd : decode cc pc = .ok (.ddiv, 1)) (k : llJ G own cc nL ret d K (pc + 1) lv (.double (FP.ddiv a b) :: rest) u x) : llJ G own cc nL ret d K pc lv (.double b :: .double a :: rest) u (g64 (FP.ddiv a b) x) := by
  obtain ⟨p, l, e, R, s, m, args, below, meth, c0, cells, slots, Z, F⟩ := G
  intro ok r hr hK H locs ls hP hS hl
  obtain ⟨hg, hr⟩ := g64_some hr
  exact lv_ddiv ok.1 ok.2.1 hd hg (k ok r hr hK H locs ls hP hS hl)
theorem J_drem {a b : UInt64} (hd : decode cc pc = .ok (.drem, 1)) (k : llJ G own cc nL ret d K (pc + 1) lv (.double (FP.drem a b) :: rest) u x) : llJ G own cc nL ret d K pc lv (.double b :: .double a :: rest) u (g64 (FP.drem a b) x) := by
  obtain ⟨p, l, e, R, s, m, args, below, meth, c0, cells, slots, Z, F⟩ := G
  intro ok r hr hK H locs ls hP hS hl
  obtain ⟨hg, hr⟩ := g64_some hr
  exact lv_drem ok.1 ok.2.1 hd hg (k ok r hr hK H locs ls hP hS hl)
theorem J_dsub {a b : UInt64} (hd : decode cc pc = .ok (.dsub, 1)) (k : llJ G own cc nL ret d K (pc + 1) lv (.double (FP.dsub a b) :: rest) u x) : llJ G own cc nL ret d K pc lv (.double b :: .double a :: rest) u (g64 (FP.dsub a b) x) := by
  obtain ⟨p, l, e, R, s, m, args, below, meth, c0, cells, slots, Z, F⟩ := G
  intro ok r hr hK H locs ls hP hS hl
  obtain ⟨hg, hr⟩ := g64_some hr
  exact lv_dsub ok.1 ok.2.1 hd hg (k ok r hr hK H locs ls hP hS hl)
theorem J_dmul {a b : UInt64} (hd : decode cc pc = .ok (.dmul, 1)) (k : llJ G own cc nL ret d K (pc + 1) lv (.double (FP.dmul a b) :: rest) u x) : llJ G own cc nL ret d K pc lv (.double b :: .double a :: rest) u (g64 (FP.dmul a b) x) := by
  obtain ⟨p, l, e, R, s, m, args, below, meth, c0, cells, slots, Z, F⟩ := G
  intro ok r hr hK H locs ls hP hS hl
  obtain ⟨hg, hr⟩ := g64_some hr
  exact lv_dmul ok.1 ok.2.1 hd hg (k ok r hr hK H locs ls hP hS hl)
theorem J_f2d {a : UInt32} (hd : decode cc pc = .ok (.f2d, 1)) (k : llJ G own cc nL ret d K (pc + 1) lv (.double (FP.f2d a) :: rest) u x) : llJ G own cc nL ret d K pc lv (.float a :: rest) u (g64 (FP.f2d a) x) := by
  obtain ⟨p, l, e, R, s, m, args, below, meth, c0, cells, slots, Z, F⟩ := G
  intro ok r hr hK H locs ls hP hS hl
  obtain ⟨hg, hr⟩ := g64_some hr
  exact lv_f2d ok.1 ok.2.1 hd hg (k ok r hr hK H locs ls hP hS hl)
theorem J_iconst {n : Int} {v : Int32} (hd : decode cc pc = .ok (.iconst n, 1)) (hv : Int32.ofInt n = v) (k : llJ G own cc nL ret d K (pc + 1) lv (.int v :: rest) u x) : llJ G own cc nL ret d K pc lv rest u x := by
  obtain ⟨p, l, e, R, s, m, args, below, meth, c0, cells, slots, Z, F⟩ := G
  intro ok r hr hK H locs ls hP hS hl
  exact lv_iconst ok.1 ok.2.1 hd hv (k ok r hr hK H locs ls hP hS hl)
theorem J_bipush {n : Int} {v : Int32} (hd : decode cc pc = .ok (.bipush n, 2)) (hv : (Int8.ofInt n).toInt32 = v) (k : llJ G own cc nL ret d K (pc + 2) lv (.int v :: rest) u x) : llJ G own cc nL ret d K pc lv rest u x := by
  obtain ⟨p, l, e, R, s, m, args, below, meth, c0, cells, slots, Z, F⟩ := G
  intro ok r hr hK H locs ls hP hS hl
  exact lv_bipush ok.1 ok.2.1 hd hv (k ok r hr hK H locs ls hP hS hl)
theorem J_sipush {n : Int} {v : Int32} (hd : decode cc pc = .ok (.sipush n, 3)) (hv : (Int16.ofInt n).toInt32 = v) (k : llJ G own cc nL ret d K (pc + 3) lv (.int v :: rest) u x) : llJ G own cc nL ret d K pc lv rest u x := by
  obtain ⟨p, l, e, R, s, m, args, below, meth, c0, cells, slots, Z, F⟩ := G
  intro ok r hr hK H locs ls hP hS hl
  exact lv_sipush ok.1 ok.2.1 hd hv (k ok r hr hK H locs ls hP hS hl)
theorem J_lconst {n : Fin 2} {v : Int64} (hd : decode cc pc = .ok (.lconst n, 1)) (hv : Int64.ofNat (n : Nat) = v) (k : llJ G own cc nL ret d K (pc + 1) lv (.long v :: rest) u x) : llJ G own cc nL ret d K pc lv rest u x := by
  obtain ⟨p, l, e, R, s, m, args, below, meth, c0, cells, slots, Z, F⟩ := G
  intro ok r hr hK H locs ls hP hS hl
  exact lv_lconst ok.1 ok.2.1 hd hv (k ok r hr hK H locs ls hP hS hl)
theorem J_dconst0 (hd : decode cc pc = .ok (.dconst 0, 1)) (k : llJ G own cc nL ret d K (pc + 1) lv (.double FP.dconst0 :: rest) u x) : llJ G own cc nL ret d K pc lv rest u x := by
  obtain ⟨p, l, e, R, s, m, args, below, meth, c0, cells, slots, Z, F⟩ := G
  intro ok r hr hK H locs ls hP hS hl
  exact lv_dconst0 ok.1 ok.2.1 hd (k ok r hr hK H locs ls hP hS hl)
theorem J_dconst1 (hd : decode cc pc = .ok (.dconst 1, 1)) (k : llJ G own cc nL ret d K (pc + 1) lv (.double FP.dconst1 :: rest) u x) : llJ G own cc nL ret d K pc lv rest u x := by
  obtain ⟨p, l, e, R, s, m, args, below, meth, c0, cells, slots, Z, F⟩ := G
  intro ok r hr hK H locs ls hP hS hl
  exact lv_dconst1 ok.1 ok.2.1 hd (k ok r hr hK H locs ls hP hS hl)
theorem J_fconst0 (hd : decode cc pc = .ok (.fconst 0, 1)) (k : llJ G own cc nL ret d K (pc + 1) lv (.float FP.fconst0 :: rest) u x) : llJ G own cc nL ret d K pc lv rest u x := by
  obtain ⟨p, l, e, R, s, m, args, below, meth, c0, cells, slots, Z, F⟩ := G
  intro ok r hr hK H locs ls hP hS hl
  exact lv_fconst0 ok.1 ok.2.1 hd (k ok r hr hK H locs ls hP hS hl)
theorem J_ldc {i : Nat} {v : Int32} (hd : decode cc pc = .ok (.ldc i, 2)) (hw : Cond.constant own i v ∈ llTb) (k : llJ G own cc nL ret d K (pc + 2) lv (.int v :: rest) u x) : llJ G own cc nL ret d K pc lv rest u x := by
  obtain ⟨p, l, e, R, s, m, args, below, meth, c0, cells, slots, Z, F⟩ := G
  intro ok r hr hK H locs ls hP hS hl
  exact lv_ldc ok.1 ok.2.1 ok.2.2.2.2.2.1 (ok.2.2.2.2.2.2.1 _ hw) hd (k ok r hr hK H locs ls hP hS hl)
theorem J_ldcw {i : Nat} {v : Int32} (hd : decode cc pc = .ok (.ldc_w i, 3)) (hw : Cond.constant own i v ∈ llTb) (k : llJ G own cc nL ret d K (pc + 3) lv (.int v :: rest) u x) : llJ G own cc nL ret d K pc lv rest u x := by
  obtain ⟨p, l, e, R, s, m, args, below, meth, c0, cells, slots, Z, F⟩ := G
  intro ok r hr hK H locs ls hP hS hl
  exact lv_ldcw ok.1 ok.2.1 ok.2.2.2.2.2.1 (ok.2.2.2.2.2.2.1 _ hw) hd (k ok r hr hK H locs ls hP hS hl)
theorem J_ldc2 {i : Nat} {v : Int64} (hd : decode cc pc = .ok (.ldc2_w i, 3)) (hw : Cond.constantLong own i v ∈ llTb) (k : llJ G own cc nL ret d K (pc + 3) lv (.long v :: rest) u x) : llJ G own cc nL ret d K pc lv rest u x := by
  obtain ⟨p, l, e, R, s, m, args, below, meth, c0, cells, slots, Z, F⟩ := G
  intro ok r hr hK H locs ls hP hS hl
  exact lv_ldc2 ok.1 ok.2.1 ok.2.2.2.2.2.1 (ok.2.2.2.2.2.2.1 _ hw) hd (k ok r hr hK H locs ls hP hS hl)
theorem J_ldc2d {i : Nat} {v : UInt64} (hd : decode cc pc = .ok (.ldc2_w i, 3)) (hw : Cond.constantDouble own i v ∈ llTb) (k : llJ G own cc nL ret d K (pc + 3) lv (.double v :: rest) u x) : llJ G own cc nL ret d K pc lv rest u x := by
  obtain ⟨p, l, e, R, s, m, args, below, meth, c0, cells, slots, Z, F⟩ := G
  intro ok r hr hK H locs ls hP hS hl
  exact lv_ldc2d ok.1 ok.2.1 ok.2.2.2.2.2.1 (ok.2.2.2.2.2.2.1 _ hw) hd (k ok r hr hK H locs ls hP hS hl)
theorem J_ldcS (j : Nat) (hj : j < 7) {i : Nat} (hi : llIdx.getD j 0 = i) (ho : own = "LeagueLevelsModel") (hd : decode cc pc = .ok (.ldc i, 2)) (k : llJ G own cc nL ret d K (pc + 2) lv (.ref (llSk G j) :: rest) u x) : llJ G own cc nL ret d K pc lv rest u x := by
  obtain ⟨p, l, e, R, s, m, args, below, meth, c0, cells, slots, Z, F⟩ := G
  intro ok r hr hK H locs ls hP hS hl
  subst hi; subst ho
  exact va_ldcS ok.1 ok.2.1 ok.2.2.2.2.2.1 (ok.2.2.2.2.2.2.2.2.1.2.1 j hj) hd (k ok r hr hK H locs ls hP hS hl)
theorem J_dup {a : Value} (hd : decode cc pc = .ok (.dup, 1)) (ha : a.category = 1) (k : llJ G own cc nL ret d K (pc + 1) lv (a :: a :: rest) u x) : llJ G own cc nL ret d K pc lv (a :: rest) u x := by
  obtain ⟨p, l, e, R, s, m, args, below, meth, c0, cells, slots, Z, F⟩ := G
  intro ok r hr hK H locs ls hP hS hl
  exact lv_dup ok.1 ok.2.1 hd ha (k ok r hr hK H locs ls hP hS hl)
theorem J_pop {a : Value} (hd : decode cc pc = .ok (.pop, 1)) (ha : a.category = 1) (k : llJ G own cc nL ret d K (pc + 1) lv rest u x) : llJ G own cc nL ret d K pc lv (a :: rest) u x := by
  obtain ⟨p, l, e, R, s, m, args, below, meth, c0, cells, slots, Z, F⟩ := G
  intro ok r hr hK H locs ls hP hS hl
  exact lv_pop ok.1 ok.2.1 hd ha (k ok r hr hK H locs ls hP hS hl)
theorem J_dup2 {a b : Value} (hd : decode cc pc = .ok (.dup2, 1)) (ha : a.category = 1) (hb : b.category = 1) (k : llJ G own cc nL ret d K (pc + 1) lv (a :: b :: a :: b :: rest) u x) : llJ G own cc nL ret d K pc lv (a :: b :: rest) u x := by
  obtain ⟨p, l, e, R, s, m, args, below, meth, c0, cells, slots, Z, F⟩ := G
  intro ok r hr hK H locs ls hP hS hl
  exact lv_dup2_11 ok.1 ok.2.1 hd ha hb (k ok r hr hK H locs ls hP hS hl)
theorem J_iload_n {q : Fin 4} {i j : Nat} {v : Int32} (hd : decode cc pc = .ok (.iload_n q, 1)) (hi : (q : Nat) = i) (hj : lv[j]? = some (i, .int v)) (k : llJ G own cc nL ret d K (pc + 1) lv (.int v :: rest) u x) : llJ G own cc nL ret d K pc lv rest u x := by
  obtain ⟨p, l, e, R, s, m, args, below, meth, c0, cells, slots, Z, F⟩ := G
  intro ok r hr hK H locs ls hP hS hl
  exact lv_iload_n ok.1 ok.2.1 hd hi (lv_at hl j hj) (k ok r hr hK H locs ls hP hS hl)
theorem J_iload {i j : Nat} {v : Int32} (hd : decode cc pc = .ok (.iload i, 2)) (hj : lv[j]? = some (i, .int v)) (k : llJ G own cc nL ret d K (pc + 2) lv (.int v :: rest) u x) : llJ G own cc nL ret d K pc lv rest u x := by
  obtain ⟨p, l, e, R, s, m, args, below, meth, c0, cells, slots, Z, F⟩ := G
  intro ok r hr hK H locs ls hP hS hl
  exact lv_iload ok.1 ok.2.1 hd (lv_at hl j hj) (k ok r hr hK H locs ls hP hS hl)
theorem J_lload_n {q : Fin 4} {i j : Nat} {v : Int64} (hd : decode cc pc = .ok (.lload_n q, 1)) (hi : (q : Nat) = i) (hj : lv[j]? = some (i, .long v)) (k : llJ G own cc nL ret d K (pc + 1) lv (.long v :: rest) u x) : llJ G own cc nL ret d K pc lv rest u x := by
  obtain ⟨p, l, e, R, s, m, args, below, meth, c0, cells, slots, Z, F⟩ := G
  intro ok r hr hK H locs ls hP hS hl
  exact lv_lload_n ok.1 ok.2.1 hd hi (lv_at hl j hj) (k ok r hr hK H locs ls hP hS hl)
theorem J_lload {i j : Nat} {v : Int64} (hd : decode cc pc = .ok (.lload i, 2)) (hj : lv[j]? = some (i, .long v)) (k : llJ G own cc nL ret d K (pc + 2) lv (.long v :: rest) u x) : llJ G own cc nL ret d K pc lv rest u x := by
  obtain ⟨p, l, e, R, s, m, args, below, meth, c0, cells, slots, Z, F⟩ := G
  intro ok r hr hK H locs ls hP hS hl
  exact lv_lload ok.1 ok.2.1 hd (lv_at hl j hj) (k ok r hr hK H locs ls hP hS hl)
theorem J_aload_n {q : Fin 4} {i j : Nat} {v : Nat} (hd : decode cc pc = .ok (.aload_n q, 1)) (hi : (q : Nat) = i) (hj : lv[j]? = some (i, .ref v)) (k : llJ G own cc nL ret d K (pc + 1) lv (.ref v :: rest) u x) : llJ G own cc nL ret d K pc lv rest u x := by
  obtain ⟨p, l, e, R, s, m, args, below, meth, c0, cells, slots, Z, F⟩ := G
  intro ok r hr hK H locs ls hP hS hl
  exact lv_aload_n ok.1 ok.2.1 hd hi (lv_at hl j hj) (k ok r hr hK H locs ls hP hS hl)
theorem J_aload {i j : Nat} {v : Nat} (hd : decode cc pc = .ok (.aload i, 2)) (hj : lv[j]? = some (i, .ref v)) (k : llJ G own cc nL ret d K (pc + 2) lv (.ref v :: rest) u x) : llJ G own cc nL ret d K pc lv rest u x := by
  obtain ⟨p, l, e, R, s, m, args, below, meth, c0, cells, slots, Z, F⟩ := G
  intro ok r hr hK H locs ls hP hS hl
  exact lv_aload ok.1 ok.2.1 hd (lv_at hl j hj) (k ok r hr hK H locs ls hP hS hl)
theorem J_fload_n {q : Fin 4} {i j : Nat} {v : UInt32} (hd : decode cc pc = .ok (.fload_n q, 1)) (hi : (q : Nat) = i) (hj : lv[j]? = some (i, .float v)) (k : llJ G own cc nL ret d K (pc + 1) lv (.float v :: rest) u x) : llJ G own cc nL ret d K pc lv rest u x := by
  obtain ⟨p, l, e, R, s, m, args, below, meth, c0, cells, slots, Z, F⟩ := G
  intro ok r hr hK H locs ls hP hS hl
  exact lv_fload_n ok.1 ok.2.1 hd hi (lv_at hl j hj) (k ok r hr hK H locs ls hP hS hl)
theorem J_fload {i j : Nat} {v : UInt32} (hd : decode cc pc = .ok (.fload i, 2)) (hj : lv[j]? = some (i, .float v)) (k : llJ G own cc nL ret d K (pc + 2) lv (.float v :: rest) u x) : llJ G own cc nL ret d K pc lv rest u x := by
  obtain ⟨p, l, e, R, s, m, args, below, meth, c0, cells, slots, Z, F⟩ := G
  intro ok r hr hK H locs ls hP hS hl
  exact lv_fload ok.1 ok.2.1 hd (lv_at hl j hj) (k ok r hr hK H locs ls hP hS hl)
theorem J_dload_n {q : Fin 4} {i j : Nat} {v : UInt64} (hd : decode cc pc = .ok (.dload_n q, 1)) (hi : (q : Nat) = i) (hj : lv[j]? = some (i, .double v)) (k : llJ G own cc nL ret d K (pc + 1) lv (.double v :: rest) u x) : llJ G own cc nL ret d K pc lv rest u x := by
  obtain ⟨p, l, e, R, s, m, args, below, meth, c0, cells, slots, Z, F⟩ := G
  intro ok r hr hK H locs ls hP hS hl
  exact lv_dload_n ok.1 ok.2.1 hd hi (lv_at hl j hj) (k ok r hr hK H locs ls hP hS hl)
theorem J_dload {i j : Nat} {v : UInt64} (hd : decode cc pc = .ok (.dload i, 2)) (hj : lv[j]? = some (i, .double v)) (k : llJ G own cc nL ret d K (pc + 2) lv (.double v :: rest) u x) : llJ G own cc nL ret d K pc lv rest u x := by
  obtain ⟨p, l, e, R, s, m, args, below, meth, c0, cells, slots, Z, F⟩ := G
  intro ok r hr hK H locs ls hP hS hl
  exact lv_dload ok.1 ok.2.1 hd (lv_at hl j hj) (k ok r hr hK H locs ls hP hS hl)
theorem J_istore_n {q : Fin 4} {i : Nat} {a : Int32} (lv' : List (Nat × Value)) (hd : decode cc pc = .ok (.istore_n q, 1)) (hi : (q : Nat) = i) (hn : i < nL) (hf : (i, Value.int a) :: lv.filter (fun q => !(q.1 == i) && !(q.1 + 1 == i && q.2.category == 2)) = lv') (k : llJ G own cc nL ret d K (pc + 1) lv' rest u x) : llJ G own cc nL ret d K pc lv (.int a :: rest) u x := by
  obtain ⟨p, l, e, R, s, m, args, below, meth, c0, cells, slots, Z, F⟩ := G
  intro ok r hr hK H locs ls hP hS hl
  exact lv_istore_n ok.1 ok.2.1 hd hi hl hn hf (fun ls hl => (k ok r hr hK H locs ls hP hS hl))
theorem J_istore_nL {q : Fin 4} {i : Nat} {a : Int32} {kx : Int32 → Option ρ} (lv' : Int32 → List (Nat × Value)) (hd : decode cc pc = .ok (.istore_n q, 1)) (hi : (q : Nat) = i) (hn : i < nL) (hf : ∀ v, (i, Value.int v) :: lv.filter (fun q => !(q.1 == i) && !(q.1 + 1 == i && q.2.category == 2)) = lv' v) (k : ∀ v, llJ G own cc nL ret d K (pc + 1) (lv' v) rest u (kx v)) : llJ G own cc nL ret d K pc lv (.int a :: rest) u (lt a kx) := by
  obtain ⟨p, l, e, R, s, m, args, below, meth, c0, cells, slots, Z, F⟩ := G
  intro ok r hr hK H locs ls hP hS hl
  exact lv_istore_n ok.1 ok.2.1 hd hi hl hn (hf a) (fun ls hl => (k a ok r hr hK H locs ls hP hS hl))
theorem J_istore {i : Nat} {a : Int32} (lv' : List (Nat × Value)) (hd : decode cc pc = .ok (.istore i, 2)) (hn : i < nL) (hf : (i, Value.int a) :: lv.filter (fun q => !(q.1 == i) && !(q.1 + 1 == i && q.2.category == 2)) = lv') (k : llJ G own cc nL ret d K (pc + 2) lv' rest u x) : llJ G own cc nL ret d K pc lv (.int a :: rest) u x := by
  obtain ⟨p, l, e, R, s, m, args, below, meth, c0, cells, slots, Z, F⟩ := G
  intro ok r hr hK H locs ls hP hS hl
  exact lv_istore ok.1 ok.2.1 hd hl hn hf (fun ls hl => (k ok r hr hK H locs ls hP hS hl))
theorem J_istoreL {i : Nat} {a : Int32} {kx : Int32 → Option ρ} (lv' : Int32 → List (Nat × Value)) (hd : decode cc pc = .ok (.istore i, 2)) (hn : i < nL) (hf : ∀ v, (i, Value.int v) :: lv.filter (fun q => !(q.1 == i) && !(q.1 + 1 == i && q.2.category == 2)) = lv' v) (k : ∀ v, llJ G own cc nL ret d K (pc + 2) (lv' v) rest u (kx v)) : llJ G own cc nL ret d K pc lv (.int a :: rest) u (lt a kx) := by
  obtain ⟨p, l, e, R, s, m, args, below, meth, c0, cells, slots, Z, F⟩ := G
  intro ok r hr hK H locs ls hP hS hl
  exact lv_istore ok.1 ok.2.1 hd hl hn (hf a) (fun ls hl => (k a ok r hr hK H locs ls hP hS hl))
theorem J_astore_n {q : Fin 4} {i : Nat} {a : Nat} (lv' : List (Nat × Value)) (hd : decode cc pc = .ok (.astore_n q, 1)) (hi : (q : Nat) = i) (hn : i < nL) (hf : (i, Value.ref a) :: lv.filter (fun q => !(q.1 == i) && !(q.1 + 1 == i && q.2.category == 2)) = lv') (k : llJ G own cc nL ret d K (pc + 1) lv' rest u x) : llJ G own cc nL ret d K pc lv (.ref a :: rest) u x := by
  obtain ⟨p, l, e, R, s, m, args, below, meth, c0, cells, slots, Z, F⟩ := G
  intro ok r hr hK H locs ls hP hS hl
  exact lv_astore_n ok.1 ok.2.1 hd hi hl hn hf (fun ls hl => (k ok r hr hK H locs ls hP hS hl))
theorem J_astore {i : Nat} {a : Nat} (lv' : List (Nat × Value)) (hd : decode cc pc = .ok (.astore i, 2)) (hn : i < nL) (hf : (i, Value.ref a) :: lv.filter (fun q => !(q.1 == i) && !(q.1 + 1 == i && q.2.category == 2)) = lv') (k : llJ G own cc nL ret d K (pc + 2) lv' rest u x) : llJ G own cc nL ret d K pc lv (.ref a :: rest) u x := by
  obtain ⟨p, l, e, R, s, m, args, below, meth, c0, cells, slots, Z, F⟩ := G
  intro ok r hr hK H locs ls hP hS hl
  exact lv_astore ok.1 ok.2.1 hd hl hn hf (fun ls hl => (k ok r hr hK H locs ls hP hS hl))
theorem J_lstore_n {q : Fin 4} {i : Nat} {a : Int64} (lv' : List (Nat × Value)) (hd : decode cc pc = .ok (.lstore_n q, 1)) (hi : (q : Nat) = i) (hn : i + 1 < nL) (hf : (i, Value.long a) :: lv.filter (fun q => !(q.1 == i) && (!(q.1 == i + 1) && !(q.1 + 1 == i && q.2.category == 2))) = lv') (k : llJ G own cc nL ret d K (pc + 1) lv' rest u x) : llJ G own cc nL ret d K pc lv (.long a :: rest) u x := by
  obtain ⟨p, l, e, R, s, m, args, below, meth, c0, cells, slots, Z, F⟩ := G
  intro ok r hr hK H locs ls hP hS hl
  exact lv_lstore_n ok.1 ok.2.1 hd hi hl hn hf (fun ls hl => (k ok r hr hK H locs ls hP hS hl))
theorem J_lstore_nL {q : Fin 4} {i : Nat} {a : Int64} {kx : Int64 → Option ρ} (lv' : Int64 → List (Nat × Value)) (hd : decode cc pc = .ok (.lstore_n q, 1)) (hi : (q : Nat) = i) (hn : i + 1 < nL) (hf : ∀ v, (i, Value.long v) :: lv.filter (fun q => !(q.1 == i) && (!(q.1 == i + 1) && !(q.1 + 1 == i && q.2.category == 2))) = lv' v) (k : ∀ v, llJ G own cc nL ret d K (pc + 1) (lv' v) rest u (kx v)) : llJ G own cc nL ret d K pc lv (.long a :: rest) u (lt a kx) := by
  obtain ⟨p, l, e, R, s, m, args, below, meth, c0, cells, slots, Z, F⟩ := G
  intro ok r hr hK H locs ls hP hS hl
  exact lv_lstore_n ok.1 ok.2.1 hd hi hl hn (hf a) (fun ls hl => (k a ok r hr hK H locs ls hP hS hl))
theorem J_lstore {i : Nat} {a : Int64} (lv' : List (Nat × Value)) (hd : decode cc pc = .ok (.lstore i, 2)) (hn : i + 1 < nL) (hf : (i, Value.long a) :: lv.filter (fun q => !(q.1 == i) && (!(q.1 == i + 1) && !(q.1 + 1 == i && q.2.category == 2))) = lv') (k : llJ G own cc nL ret d K (pc + 2) lv' rest u x) : llJ G own cc nL ret d K pc lv (.long a :: rest) u x := by
  obtain ⟨p, l, e, R, s, m, args, below, meth, c0, cells, slots, Z, F⟩ := G
  intro ok r hr hK H locs ls hP hS hl
  exact lv_lstore ok.1 ok.2.1 hd hl hn hf (fun ls hl => (k ok r hr hK H locs ls hP hS hl))
theorem J_lstoreL {i : Nat} {a : Int64} {kx : Int64 → Option ρ} (lv' : Int64 → List (Nat × Value)) (hd : decode cc pc = .ok (.lstore i, 2)) (hn : i + 1 < nL) (hf : ∀ v, (i, Value.long v) :: lv.filter (fun q => !(q.1 == i) && (!(q.1 == i + 1) && !(q.1 + 1 == i && q.2.category == 2))) = lv' v) (k : ∀ v, llJ G own cc nL ret d K (pc + 2) (lv' v) rest u (kx v)) : llJ G own cc nL ret d K pc lv (.long a :: rest) u (lt a kx) := by
  obtain ⟨p, l, e, R, s, m, args, below, meth, c0, cells, slots, Z, F⟩ := G
  intro ok r hr hK H locs ls hP hS hl
  exact lv_lstore ok.1 ok.2.1 hd hl hn (hf a) (fun ls hl => (k a ok r hr hK H locs ls hP hS hl))
theorem J_fstore_n {q : Fin 4} {i : Nat} {a : UInt32} (lv' : List (Nat × Value)) (hd : decode cc pc = .ok (.fstore_n q, 1)) (hi : (q : Nat) = i) (hn : i < nL) (hf : (i, Value.float a) :: lv.filter (fun q => !(q.1 == i) && !(q.1 + 1 == i && q.2.category == 2)) = lv') (k : llJ G own cc nL ret d K (pc + 1) lv' rest u x) : llJ G own cc nL ret d K pc lv (.float a :: rest) u x := by
  obtain ⟨p, l, e, R, s, m, args, below, meth, c0, cells, slots, Z, F⟩ := G
  intro ok r hr hK H locs ls hP hS hl
  exact lv_fstore_n ok.1 ok.2.1 hd hi hl hn hf (fun ls hl => (k ok r hr hK H locs ls hP hS hl))
theorem J_fstore_nL {q : Fin 4} {i : Nat} {a : UInt32} {kx : UInt32 → Option ρ} (lv' : UInt32 → List (Nat × Value)) (hd : decode cc pc = .ok (.fstore_n q, 1)) (hi : (q : Nat) = i) (hn : i < nL) (hf : ∀ v, (i, Value.float v) :: lv.filter (fun q => !(q.1 == i) && !(q.1 + 1 == i && q.2.category == 2)) = lv' v) (k : ∀ v, llJ G own cc nL ret d K (pc + 1) (lv' v) rest u (kx v)) : llJ G own cc nL ret d K pc lv (.float a :: rest) u (lt a kx) := by
  obtain ⟨p, l, e, R, s, m, args, below, meth, c0, cells, slots, Z, F⟩ := G
  intro ok r hr hK H locs ls hP hS hl
  exact lv_fstore_n ok.1 ok.2.1 hd hi hl hn (hf a) (fun ls hl => (k a ok r hr hK H locs ls hP hS hl))
theorem J_fstore {i : Nat} {a : UInt32} (lv' : List (Nat × Value)) (hd : decode cc pc = .ok (.fstore i, 2)) (hn : i < nL) (hf : (i, Value.float a) :: lv.filter (fun q => !(q.1 == i) && !(q.1 + 1 == i && q.2.category == 2)) = lv') (k : llJ G own cc nL ret d K (pc + 2) lv' rest u x) : llJ G own cc nL ret d K pc lv (.float a :: rest) u x := by
  obtain ⟨p, l, e, R, s, m, args, below, meth, c0, cells, slots, Z, F⟩ := G
  intro ok r hr hK H locs ls hP hS hl
  exact lv_fstore ok.1 ok.2.1 hd hl hn hf (fun ls hl => (k ok r hr hK H locs ls hP hS hl))
theorem J_fstoreL {i : Nat} {a : UInt32} {kx : UInt32 → Option ρ} (lv' : UInt32 → List (Nat × Value)) (hd : decode cc pc = .ok (.fstore i, 2)) (hn : i < nL) (hf : ∀ v, (i, Value.float v) :: lv.filter (fun q => !(q.1 == i) && !(q.1 + 1 == i && q.2.category == 2)) = lv' v) (k : ∀ v, llJ G own cc nL ret d K (pc + 2) (lv' v) rest u (kx v)) : llJ G own cc nL ret d K pc lv (.float a :: rest) u (lt a kx) := by
  obtain ⟨p, l, e, R, s, m, args, below, meth, c0, cells, slots, Z, F⟩ := G
  intro ok r hr hK H locs ls hP hS hl
  exact lv_fstore ok.1 ok.2.1 hd hl hn (hf a) (fun ls hl => (k a ok r hr hK H locs ls hP hS hl))
theorem J_dstore_n {q : Fin 4} {i : Nat} {a : UInt64} (lv' : List (Nat × Value)) (hd : decode cc pc = .ok (.dstore_n q, 1)) (hi : (q : Nat) = i) (hn : i + 1 < nL) (hf : (i, Value.double a) :: lv.filter (fun q => !(q.1 == i) && (!(q.1 == i + 1) && !(q.1 + 1 == i && q.2.category == 2))) = lv') (k : llJ G own cc nL ret d K (pc + 1) lv' rest u x) : llJ G own cc nL ret d K pc lv (.double a :: rest) u x := by
  obtain ⟨p, l, e, R, s, m, args, below, meth, c0, cells, slots, Z, F⟩ := G
  intro ok r hr hK H locs ls hP hS hl
  exact lv_dstore_n ok.1 ok.2.1 hd hi hl hn hf (fun ls hl => (k ok r hr hK H locs ls hP hS hl))
theorem J_dstore_nL {q : Fin 4} {i : Nat} {a : UInt64} {kx : UInt64 → Option ρ} (lv' : UInt64 → List (Nat × Value)) (hd : decode cc pc = .ok (.dstore_n q, 1)) (hi : (q : Nat) = i) (hn : i + 1 < nL) (hf : ∀ v, (i, Value.double v) :: lv.filter (fun q => !(q.1 == i) && (!(q.1 == i + 1) && !(q.1 + 1 == i && q.2.category == 2))) = lv' v) (k : ∀ v, llJ G own cc nL ret d K (pc + 1) (lv' v) rest u (kx v)) : llJ G own cc nL ret d K pc lv (.double a :: rest) u (lt a kx) := by
  obtain ⟨p, l, e, R, s, m, args, below, meth, c0, cells, slots, Z, F⟩ := G
  intro ok r hr hK H locs ls hP hS hl
  exact lv_dstore_n ok.1 ok.2.1 hd hi hl hn (hf a) (fun ls hl => (k a ok r hr hK H locs ls hP hS hl))
theorem J_dstore {i : Nat} {a : UInt64} (lv' : List (Nat × Value)) (hd : decode cc pc = .ok (.dstore i, 2)) (hn : i + 1 < nL) (hf : (i, Value.double a) :: lv.filter (fun q => !(q.1 == i) && (!(q.1 == i + 1) && !(q.1 + 1 == i && q.2.category == 2))) = lv') (k : llJ G own cc nL ret d K (pc + 2) lv' rest u x) : llJ G own cc nL ret d K pc lv (.double a :: rest) u x := by
  obtain ⟨p, l, e, R, s, m, args, below, meth, c0, cells, slots, Z, F⟩ := G
  intro ok r hr hK H locs ls hP hS hl
  exact lv_dstore ok.1 ok.2.1 hd hl hn hf (fun ls hl => (k ok r hr hK H locs ls hP hS hl))
theorem J_dstoreL {i : Nat} {a : UInt64} {kx : UInt64 → Option ρ} (lv' : UInt64 → List (Nat × Value)) (hd : decode cc pc = .ok (.dstore i, 2)) (hn : i + 1 < nL) (hf : ∀ v, (i, Value.double v) :: lv.filter (fun q => !(q.1 == i) && (!(q.1 == i + 1) && !(q.1 + 1 == i && q.2.category == 2))) = lv' v) (k : ∀ v, llJ G own cc nL ret d K (pc + 2) (lv' v) rest u (kx v)) : llJ G own cc nL ret d K pc lv (.double a :: rest) u (lt a kx) := by
  obtain ⟨p, l, e, R, s, m, args, below, meth, c0, cells, slots, Z, F⟩ := G
  intro ok r hr hK H locs ls hP hS hl
  exact lv_dstore ok.1 ok.2.1 hd hl hn (hf a) (fun ls hl => (k a ok r hr hK H locs ls hP hS hl))
theorem J_iinc {i j : Nat} {n : Int} {a b : Int32} {kx : Int32 → Option ρ} (lv' : Int32 → List (Nat × Value)) (hd : decode cc pc = .ok (.iinc i n, 3)) (hj : lv[j]? = some (i, .int a)) (hb : Int32.ofInt n = b) (hn : i < nL) (hf : ∀ v, (i, Value.int v) :: lv.filter (fun q => !(q.1 == i) && !(q.1 + 1 == i && q.2.category == 2)) = lv' v) (k : ∀ v, llJ G own cc nL ret d K (pc + 3) (lv' v) rest u (kx v)) : llJ G own cc nL ret d K pc lv rest u (lt (a + b) kx) := by
  obtain ⟨p, l, e, R, s, m, args, below, meth, c0, cells, slots, Z, F⟩ := G
  intro ok r hr hK H locs ls hP hS hl
  exact lv_iinc ok.1 ok.2.1 hd hl hj (by rw [hb]) hn (hf (a + b)) (fun ls hl => (k (a + b) ok r hr hK H locs ls hP hS hl))
theorem J_if_eq {a : Int32} {off : Int} {tgt : Nat} {x1 x2 : Option ρ} (hd : decode cc pc = .ok (.ifCond .eq off, 3)) (ht : (pc : Int) + off = (tgt : Int)) (k1 : llJ G own cc nL ret d K tgt lv rest u x1) (k2 : llJ G own cc nL ret d K (pc + 3) lv rest u x2) : llJ G own cc nL ret d K pc lv (.int a :: rest) u (if a = 0 then x1 else x2) := by
  obtain ⟨p, l, e, R, s, m, args, below, meth, c0, cells, slots, Z, F⟩ := G
  intro ok r hr hK H locs ls hP hS hl
  exact lv_if_eq ok.1 ok.2.1 hd ht (fun h => k1 ok r (by rwa [if_pos h] at hr) hK H locs ls hP hS hl) (fun h => k2 ok r (by rwa [if_neg h] at hr) hK H locs ls hP hS hl)
theorem J_if_lt {a : Int32} {off : Int} {tgt : Nat} {x1 x2 : Option ρ} (hd : decode cc pc = .ok (.ifCond .lt off, 3)) (ht : (pc : Int) + off = (tgt : Int)) (k1 : llJ G own cc nL ret d K tgt lv rest u x1) (k2 : llJ G own cc nL ret d K (pc + 3) lv rest u x2) : llJ G own cc nL ret d K pc lv (.int a :: rest) u (if a < 0 then x1 else x2) := by
  obtain ⟨p, l, e, R, s, m, args, below, meth, c0, cells, slots, Z, F⟩ := G
  intro ok r hr hK H locs ls hP hS hl
  exact lv_if_lt ok.1 ok.2.1 hd ht (fun h => k1 ok r (by rwa [if_pos h] at hr) hK H locs ls hP hS hl) (fun h => k2 ok r (by rwa [if_neg h] at hr) hK H locs ls hP hS hl)
theorem J_if_ge {a : Int32} {off : Int} {tgt : Nat} {x1 x2 : Option ρ} (hd : decode cc pc = .ok (.ifCond .ge off, 3)) (ht : (pc : Int) + off = (tgt : Int)) (k1 : llJ G own cc nL ret d K tgt lv rest u x1) (k2 : llJ G own cc nL ret d K (pc + 3) lv rest u x2) : llJ G own cc nL ret d K pc lv (.int a :: rest) u (if 0 ≤ a then x1 else x2) := by
  obtain ⟨p, l, e, R, s, m, args, below, meth, c0, cells, slots, Z, F⟩ := G
  intro ok r hr hK H locs ls hP hS hl
  exact lv_if_ge ok.1 ok.2.1 hd ht (fun h => k1 ok r (by rwa [if_pos h] at hr) hK H locs ls hP hS hl) (fun h => k2 ok r (by rwa [if_neg h] at hr) hK H locs ls hP hS hl)
theorem J_if_gt {a : Int32} {off : Int} {tgt : Nat} {x1 x2 : Option ρ} (hd : decode cc pc = .ok (.ifCond .gt off, 3)) (ht : (pc : Int) + off = (tgt : Int)) (k1 : llJ G own cc nL ret d K tgt lv rest u x1) (k2 : llJ G own cc nL ret d K (pc + 3) lv rest u x2) : llJ G own cc nL ret d K pc lv (.int a :: rest) u (if 0 < a then x1 else x2) := by
  obtain ⟨p, l, e, R, s, m, args, below, meth, c0, cells, slots, Z, F⟩ := G
  intro ok r hr hK H locs ls hP hS hl
  exact lv_if_gt ok.1 ok.2.1 hd ht (fun h => k1 ok r (by rwa [if_pos h] at hr) hK H locs ls hP hS hl) (fun h => k2 ok r (by rwa [if_neg h] at hr) hK H locs ls hP hS hl)
theorem J_if_le {a : Int32} {off : Int} {tgt : Nat} {x1 x2 : Option ρ} (hd : decode cc pc = .ok (.ifCond .le off, 3)) (ht : (pc : Int) + off = (tgt : Int)) (k1 : llJ G own cc nL ret d K tgt lv rest u x1) (k2 : llJ G own cc nL ret d K (pc + 3) lv rest u x2) : llJ G own cc nL ret d K pc lv (.int a :: rest) u (if a ≤ 0 then x1 else x2) := by
  obtain ⟨p, l, e, R, s, m, args, below, meth, c0, cells, slots, Z, F⟩ := G
  intro ok r hr hK H locs ls hP hS hl
  exact lv_if_le ok.1 ok.2.1 hd ht (fun h => k1 ok r (by rwa [if_pos h] at hr) hK H locs ls hP hS hl) (fun h => k2 ok r (by rwa [if_neg h] at hr) hK H locs ls hP hS hl)
theorem J_if_ne {a : Int32} {off : Int} {tgt : Nat} {x1 x2 : Option ρ} (hd : decode cc pc = .ok (.ifCond .ne off, 3)) (ht : (pc : Int) + off = (tgt : Int)) (k1 : llJ G own cc nL ret d K tgt lv rest u x1) (k2 : llJ G own cc nL ret d K (pc + 3) lv rest u x2) : llJ G own cc nL ret d K pc lv (.int a :: rest) u (if ¬ a = 0 then x1 else x2) := by
  obtain ⟨p, l, e, R, s, m, args, below, meth, c0, cells, slots, Z, F⟩ := G
  intro ok r hr hK H locs ls hP hS hl
  exact lv_if_ne ok.1 ok.2.1 hd ht (fun h => k1 ok r (by rwa [if_pos h] at hr) hK H locs ls hP hS hl) (fun h => k2 ok r (by rwa [if_neg (fun q => q h)] at hr) hK H locs ls hP hS hl)
theorem J_icmp_eq {a b : Int32} {off : Int} {tgt : Nat} {x1 x2 : Option ρ} (hd : decode cc pc = .ok (.if_icmp .eq off, 3)) (ht : (pc : Int) + off = (tgt : Int)) (k1 : llJ G own cc nL ret d K tgt lv rest u x1) (k2 : llJ G own cc nL ret d K (pc + 3) lv rest u x2) : llJ G own cc nL ret d K pc lv (.int b :: .int a :: rest) u (if a = b then x1 else x2) := by
  obtain ⟨p, l, e, R, s, m, args, below, meth, c0, cells, slots, Z, F⟩ := G
  intro ok r hr hK H locs ls hP hS hl
  exact lv_icmp_eq ok.1 ok.2.1 hd ht (fun h => k1 ok r (by rwa [if_pos h] at hr) hK H locs ls hP hS hl) (fun h => k2 ok r (by rwa [if_neg h] at hr) hK H locs ls hP hS hl)
theorem J_icmp_lt {a b : Int32} {off : Int} {tgt : Nat} {x1 x2 : Option ρ} (hd : decode cc pc = .ok (.if_icmp .lt off, 3)) (ht : (pc : Int) + off = (tgt : Int)) (k1 : llJ G own cc nL ret d K tgt lv rest u x1) (k2 : llJ G own cc nL ret d K (pc + 3) lv rest u x2) : llJ G own cc nL ret d K pc lv (.int b :: .int a :: rest) u (if a < b then x1 else x2) := by
  obtain ⟨p, l, e, R, s, m, args, below, meth, c0, cells, slots, Z, F⟩ := G
  intro ok r hr hK H locs ls hP hS hl
  exact lv_icmp_lt ok.1 ok.2.1 hd ht (fun h => k1 ok r (by rwa [if_pos h] at hr) hK H locs ls hP hS hl) (fun h => k2 ok r (by rwa [if_neg h] at hr) hK H locs ls hP hS hl)
theorem J_icmp_ge {a b : Int32} {off : Int} {tgt : Nat} {x1 x2 : Option ρ} (hd : decode cc pc = .ok (.if_icmp .ge off, 3)) (ht : (pc : Int) + off = (tgt : Int)) (k1 : llJ G own cc nL ret d K tgt lv rest u x1) (k2 : llJ G own cc nL ret d K (pc + 3) lv rest u x2) : llJ G own cc nL ret d K pc lv (.int b :: .int a :: rest) u (if b ≤ a then x1 else x2) := by
  obtain ⟨p, l, e, R, s, m, args, below, meth, c0, cells, slots, Z, F⟩ := G
  intro ok r hr hK H locs ls hP hS hl
  exact lv_icmp_ge ok.1 ok.2.1 hd ht (fun h => k1 ok r (by rwa [if_pos h] at hr) hK H locs ls hP hS hl) (fun h => k2 ok r (by rwa [if_neg h] at hr) hK H locs ls hP hS hl)
theorem J_icmp_gt {a b : Int32} {off : Int} {tgt : Nat} {x1 x2 : Option ρ} (hd : decode cc pc = .ok (.if_icmp .gt off, 3)) (ht : (pc : Int) + off = (tgt : Int)) (k1 : llJ G own cc nL ret d K tgt lv rest u x1) (k2 : llJ G own cc nL ret d K (pc + 3) lv rest u x2) : llJ G own cc nL ret d K pc lv (.int b :: .int a :: rest) u (if b < a then x1 else x2) := by
  obtain ⟨p, l, e, R, s, m, args, below, meth, c0, cells, slots, Z, F⟩ := G
  intro ok r hr hK H locs ls hP hS hl
  exact lv_icmp_gt ok.1 ok.2.1 hd ht (fun h => k1 ok r (by rwa [if_pos h] at hr) hK H locs ls hP hS hl) (fun h => k2 ok r (by rwa [if_neg h] at hr) hK H locs ls hP hS hl)
theorem J_icmp_le {a b : Int32} {off : Int} {tgt : Nat} {x1 x2 : Option ρ} (hd : decode cc pc = .ok (.if_icmp .le off, 3)) (ht : (pc : Int) + off = (tgt : Int)) (k1 : llJ G own cc nL ret d K tgt lv rest u x1) (k2 : llJ G own cc nL ret d K (pc + 3) lv rest u x2) : llJ G own cc nL ret d K pc lv (.int b :: .int a :: rest) u (if a ≤ b then x1 else x2) := by
  obtain ⟨p, l, e, R, s, m, args, below, meth, c0, cells, slots, Z, F⟩ := G
  intro ok r hr hK H locs ls hP hS hl
  exact lv_icmp_le ok.1 ok.2.1 hd ht (fun h => k1 ok r (by rwa [if_pos h] at hr) hK H locs ls hP hS hl) (fun h => k2 ok r (by rwa [if_neg h] at hr) hK H locs ls hP hS hl)
theorem J_icmp_ne {a b : Int32} {off : Int} {tgt : Nat} {x1 x2 : Option ρ} (hd : decode cc pc = .ok (.if_icmp .ne off, 3)) (ht : (pc : Int) + off = (tgt : Int)) (k1 : llJ G own cc nL ret d K tgt lv rest u x1) (k2 : llJ G own cc nL ret d K (pc + 3) lv rest u x2) : llJ G own cc nL ret d K pc lv (.int b :: .int a :: rest) u (if ¬ a = b then x1 else x2) := by
  obtain ⟨p, l, e, R, s, m, args, below, meth, c0, cells, slots, Z, F⟩ := G
  intro ok r hr hK H locs ls hP hS hl
  exact lv_icmp_ne ok.1 ok.2.1 hd ht (fun h => k1 ok r (by rwa [if_pos h] at hr) hK H locs ls hP hS hl) (fun h => k2 ok r (by rwa [if_neg (fun q => q h)] at hr) hK H locs ls hP hS hl)
theorem J_goto {off : Int} {tgt : Nat} (hd : decode cc pc = .ok (.goto off, 3)) (ht : (pc : Int) + off = (tgt : Int)) (k : llJ G own cc nL ret d K tgt lv rest u x) : llJ G own cc nL ret d K pc lv rest u x := by
  obtain ⟨p, l, e, R, s, m, args, below, meth, c0, cells, slots, Z, F⟩ := G
  intro ok r hr hK H locs ls hP hS hl
  exact lv_goto ok.1 ok.2.1 hd ht (k ok r hr hK H locs ls hP hS hl)
theorem J_case {P : Prop} {_ : Decidable P} {x1 x2 : Option ρ} (k1 : P → llJ G own cc nL ret d K pc lv rest u x1) (k2 : ¬ P → llJ G own cc nL ret d K pc lv rest u x2) : llJ G own cc nL ret d K pc lv rest u (if P then x1 else x2) := by
  intro ok r hr hK
  by_cases h : P
  · rw [if_pos h] at hr
    exact k1 h ok r hr hK
  · rw [if_neg h] at hr
    exact k2 h ok r hr hK
theorem J_tableOut {dflt lo hi : Int} {offs : Array Int} {len : Nat} {a : Int32} {tgt : Nat} (hd : decode cc pc = .ok (.tableswitch dflt lo hi offs, len)) (h : a.toInt < lo ∨ hi < a.toInt) (ht : (pc : Int) + dflt = (tgt : Int)) (k : llJ G own cc nL ret d K tgt lv rest u x) : llJ G own cc nL ret d K pc lv (.int a :: rest) u x := by
  obtain ⟨p, l, e, R, s, m, args, below, meth, c0, cells, slots, Z, F⟩ := G
  intro ok r hr hK H locs ls hP hS hl
  exact lv_tableOut ok.1 ok.2.1 hd h ht (k ok r hr hK H locs ls hP hS hl)
theorem J_tableIn {dflt lo hi : Int} {offs : Array Int} {len : Nat} {a b : Int32} {off : Int} {tgt : Nat} (hab : a = b) (hd : decode cc pc = .ok (.tableswitch dflt lo hi offs, len)) (h1 : ¬ b.toInt < lo) (h2 : ¬ hi < b.toInt) (ho : offs[(b.toInt - lo).toNat]? = some off) (ht : (pc : Int) + off = (tgt : Int)) (k : llJ G own cc nL ret d K tgt lv rest u x) : llJ G own cc nL ret d K pc lv (.int a :: rest) u x := by
  obtain ⟨p, l, e, R, s, m, args, below, meth, c0, cells, slots, Z, F⟩ := G
  intro ok r hr hK H locs ls hP hS hl
  subst hab
  exact lv_tableIn ok.1 ok.2.1 hd h1 h2 ho ht (k ok r hr hK H locs ls hP hS hl)
theorem J_lookup {dflt : Int} {ps : Array (Int × Int)} {len : Nat} {a : Int32} {off : Int} {tgt : Nat} (hd : decode cc pc = .ok (.lookupswitch dflt ps, len)) (hp : (ps.toList.zip (ps.toList.drop 1)).all (fun (a, next) => a.1 < next.1) = true) (ho : Op.lookupswitch.offset ps.toList dflt a.toInt = off) (ht : (pc : Int) + off = (tgt : Int)) (k : llJ G own cc nL ret d K tgt lv rest u x) : llJ G own cc nL ret d K pc lv (.int a :: rest) u x := by
  obtain ⟨p, l, e, R, s, m, args, below, meth, c0, cells, slots, Z, F⟩ := G
  intro ok r hr hK H locs ls hP hS hl
  exact lv_lookup ok.1 ok.2.1 hd hp ho ht (k ok r hr hK H locs ls hP hS hl)
theorem J_getI {c ci k idx : Nat} {ts : List Nat} {t : FieldType} {fin : Bool} (hd : decode cc pc = .ok (.getfield idx, 3)) (fl : llFd own idx ci k t fin) (hs : llShp[c]? = some (.inr (ci, ts))) (hk : ts[k]? = some 0) (kk : llJ G own cc nL ret d K (pc + 3) lv (.int (u.1 c k) :: rest) u x) : llJ G own cc nL ret d K pc lv (.ref (llAd G c) :: rest) u x := by
  obtain ⟨p, l, e, R, s, m, args, below, meth, c0, cells, slots, Z, F⟩ := G
  intro ok r hr hK H locs ls hP hS hl
  obtain ⟨C, T, N, ty, hC, hkN, hw, -, -⟩ := fl
  have hv := llFvs_get F.2.2.1 u c ts 0 k 0 hk
  rw [Nat.zero_add] at hv
  exact va_get ok.1 ok.2.1 ok.2.2.2.2.2.2.1 hC.2.1 ok.2.2.2.2.2.1 ok.2.2.2.2.2.2.2.1.1 hP c (llW_at hs) hC.1 k hkN (ok.2.2.2.2.2.2.1 _ hw) (fun _ h => h) (v := .int (u.1 c k)) hv hd (kk ok r hr hK H locs ls hP hS hl)
theorem J_getL {c ci k idx : Nat} {ts : List Nat} {t : FieldType} {fin : Bool} (hd : decode cc pc = .ok (.getfield idx, 3)) (fl : llFd own idx ci k t fin) (hs : llShp[c]? = some (.inr (ci, ts))) (hk : ts[k]? = some 1) (kk : llJ G own cc nL ret d K (pc + 3) lv (.long (u.2.1 c k) :: rest) u x) : llJ G own cc nL ret d K pc lv (.ref (llAd G c) :: rest) u x := by
  obtain ⟨p, l, e, R, s, m, args, below, meth, c0, cells, slots, Z, F⟩ := G
  intro ok r hr hK H locs ls hP hS hl
  obtain ⟨C, T, N, ty, hC, hkN, hw, -, -⟩ := fl
  have hv := llFvs_get F.2.2.1 u c ts 0 k 1 hk
  rw [Nat.zero_add] at hv
  exact va_get ok.1 ok.2.1 ok.2.2.2.2.2.2.1 hC.2.1 ok.2.2.2.2.2.1 ok.2.2.2.2.2.2.2.1.1 hP c (llW_at hs) hC.1 k hkN (ok.2.2.2.2.2.2.1 _ hw) (fun _ h => h) (v := .long (u.2.1 c k)) hv hd (kk ok r hr hK H locs ls hP hS hl)
theorem J_getR {c ci k idx b : Nat} {ts : List Nat} {t : FieldType} {fin : Bool} (hd : decode cc pc = .ok (.getfield idx, 3)) (fl : llFd own idx ci k t fin) (hs : llShp[c]? = some (.inr (ci, ts))) (hk : ts[k]? = some (b + 2)) (kk : llJ G own cc nL ret d K (pc + 3) lv (.ref (llAd G b) :: rest) u x) : llJ G own cc nL ret d K pc lv (.ref (llAd G c) :: rest) u x := by
  obtain ⟨p, l, e, R, s, m, args, below, meth, c0, cells, slots, Z, F⟩ := G
  intro ok r hr hK H locs ls hP hS hl
  obtain ⟨C, T, N, ty, hC, hkN, hw, -, -⟩ := fl
  have hv := llFvs_get F.2.2.1 u c ts 0 k (b + 2) hk
  rw [Nat.zero_add] at hv
  exact va_get ok.1 ok.2.1 ok.2.2.2.2.2.2.1 hC.2.1 ok.2.2.2.2.2.1 ok.2.2.2.2.2.2.2.1.1 hP c (llW_at hs) hC.1 k hkN (ok.2.2.2.2.2.2.1 _ hw) (fun _ h => h) (v := .ref (F.2.2.1 b)) hv hd (kk ok r hr hK H locs ls hP hS hl)
theorem J_putI {c ci k idx : Nat} {ts : List Nat} {v : Int32} {kx : llMem → Option ρ} (hd : decode cc pc = .ok (.putfield idx, 3)) (fl : llFd own idx ci k .int false) (hs : llShp[c]? = some (.inr (ci, ts))) (hk : ts[k]? = some 0) (kk : ∀ u', llJ G own cc nL ret d K (pc + 3) lv rest u' (kx u')) : llJ G own cc nL ret d K pc lv (.int v :: .ref (llAd G c) :: rest) u (lt (llSI u c k v) kx) := by
  obtain ⟨p, l, e, R, s, m, args, below, meth, c0, cells, slots, Z, F⟩ := G
  intro ok r hr hK H locs ls hP hS hl
  obtain ⟨C, T, N, ty, hC, hkN, hw, hty, hfin⟩ := fl
  refine va_put ok.1 ok.2.1 ok.2.2.2.2.2.2.1 hC.2.1 ty hC.2.2.1 hC.2.2.2 ok.2.2.2.2.2.1 ok.2.2.2.2.2.2.2.1.1 hP (ok.2.2.2.2.2.2.2.1.D u) hS c (llW_at hs) hC.1 k hkN (ok.2.2.2.2.2.2.1 _ hw) (fun _ h => h) hfin (ty := .int) (by rw [hC.2.2.1 k hkN, hty]) rfl rfl (by rw [llFvs_len]; exact (List.getElem?_eq_some_iff.mp hk).1) hd (fun H1 locs1 hP1 hD1 hS1 => ?_)
  have hP1 : va_P F.1 vwCl (llW F.2.1 F.2.2.1 (llSI u c k v)) H1 := by rw [← llW_setI hs hk]; exact hP1
  exact kk _ ok r hr hK H1 locs1 ls hP1 hS1 hl
theorem J_putL {c ci k idx : Nat} {ts : List Nat} {v : Int64} {kx : llMem → Option ρ} (hd : decode cc pc = .ok (.putfield idx, 3)) (fl : llFd own idx ci k .long false) (hs : llShp[c]? = some (.inr (ci, ts))) (hk : ts[k]? = some 1) (kk : ∀ u', llJ G own cc nL ret d K (pc + 3) lv rest u' (kx u')) : llJ G own cc nL ret d K pc lv (.long v :: .ref (llAd G c) :: rest) u (lt (llSL u c k v) kx) := by
  obtain ⟨p, l, e, R, s, m, args, below, meth, c0, cells, slots, Z, F⟩ := G
  intro ok r hr hK H locs ls hP hS hl
  obtain ⟨C, T, N, ty, hC, hkN, hw, hty, hfin⟩ := fl
  refine va_put ok.1 ok.2.1 ok.2.2.2.2.2.2.1 hC.2.1 ty hC.2.2.1 hC.2.2.2 ok.2.2.2.2.2.1 ok.2.2.2.2.2.2.2.1.1 hP (ok.2.2.2.2.2.2.2.1.D u) hS c (llW_at hs) hC.1 k hkN (ok.2.2.2.2.2.2.1 _ hw) (fun _ h => h) hfin (ty := .long) (by rw [hC.2.2.1 k hkN, hty]) rfl rfl (by rw [llFvs_len]; exact (List.getElem?_eq_some_iff.mp hk).1) hd (fun H1 locs1 hP1 hD1 hS1 => ?_)
  have hP1 : va_P F.1 vwCl (llW F.2.1 F.2.2.1 (llSL u c k v)) H1 := by rw [← llW_setL hs hk]; exact hP1
  exact kk _ ok r hr hK H1 locs1 ls hP1 hS1 hl
theorem J_iald {c n : Nat} {i : Int32} (hd : decode cc pc = .ok (.iaload, 1)) (hs : llShp[c]? = some (.inl (0, n))) (kk : llJ G own cc nL ret d K (pc + 1) lv (.int (rI u c i) :: rest) u x) : llJ G own cc nL ret d K pc lv (.int i :: .ref (llAd G c) :: rest) u (gI i n x) := by
  obtain ⟨p, l, e, R, s, m, args, below, meth, c0, cells, slots, Z, F⟩ := G
  intro ok r hr hK H locs ls hP hS hl
  obtain ⟨hg, hr⟩ := gI_some hr
  exact va_iald ok.1 ok.2.1 ok.2.2.2.2.2.2.2.1.1 hP c 0 (llW_at hs) rfl hg hd (kk ok r hr hK H locs ls hP hS hl)
theorem J_zald {c n : Nat} {i : Int32} (hd : decode cc pc = .ok (.baload, 1)) (hs : llShp[c]? = some (.inl (3, n))) (kk : llJ G own cc nL ret d K (pc + 1) lv (.int (rI u c i) :: rest) u x) : llJ G own cc nL ret d K pc lv (.int i :: .ref (llAd G c) :: rest) u (gI i n x) := by
  obtain ⟨p, l, e, R, s, m, args, below, meth, c0, cells, slots, Z, F⟩ := G
  intro ok r hr hK H locs ls hP hS hl
  obtain ⟨hg, hr⟩ := gI_some hr
  exact va_zald ok.1 ok.2.1 ok.2.2.2.2.2.2.2.1.1 hP c 3 (llW_at hs) rfl hg hd (kk ok r hr hK H locs ls hP hS hl)
theorem J_lald {c n : Nat} {i : Int32} (hd : decode cc pc = .ok (.laload, 1)) (hs : llShp[c]? = some (.inl (1, n))) (kk : llJ G own cc nL ret d K (pc + 1) lv (.long (rL u c i) :: rest) u x) : llJ G own cc nL ret d K pc lv (.int i :: .ref (llAd G c) :: rest) u (gI i n x) := by
  obtain ⟨p, l, e, R, s, m, args, below, meth, c0, cells, slots, Z, F⟩ := G
  intro ok r hr hK H locs ls hP hS hl
  obtain ⟨hg, hr⟩ := gI_some hr
  exact va_lald ok.1 ok.2.1 ok.2.2.2.2.2.2.2.1.1 hP c 1 (llW_at hs) rfl hg hd (kk ok r hr hK H locs ls hP hS hl)
theorem J_fald {c n : Nat} {i : Int32} (hd : decode cc pc = .ok (.faload, 1)) (hs : llShp[c]? = some (.inl (2, n))) (kk : llJ G own cc nL ret d K (pc + 1) lv (.float (rF u c i) :: rest) u x) : llJ G own cc nL ret d K pc lv (.int i :: .ref (llAd G c) :: rest) u (gI i n x) := by
  obtain ⟨p, l, e, R, s, m, args, below, meth, c0, cells, slots, Z, F⟩ := G
  intro ok r hr hK H locs ls hP hS hl
  obtain ⟨hg, hr⟩ := gI_some hr
  exact va_fald ok.1 ok.2.1 ok.2.2.2.2.2.2.2.1.1 hP c 2 (llW_at hs) rfl hg hd (kk ok r hr hK H locs ls hP hS hl)
theorem J_iast {c n : Nat} {i : Int32} {v : Int32} {kx : llMem → Option ρ} (hd : decode cc pc = .ok (.iastore, 1)) (hs : llShp[c]? = some (.inl (0, n))) (kk : ∀ u', llJ G own cc nL ret d K (pc + 1) lv rest u' (kx u')) : llJ G own cc nL ret d K pc lv (.int v :: .int i :: .ref (llAd G c) :: rest) u (gI i n (lt (llSI u c i.toNatClampNeg v) kx)) := by
  obtain ⟨p, l, e, R, s, m, args, below, meth, c0, cells, slots, Z, F⟩ := G
  intro ok r hr hK H locs ls hP hS hl
  obtain ⟨hg, hr⟩ := gI_some hr
  refine va_iast ok.1 ok.2.1 ok.2.2.2.2.2.2.2.1.1 hP (ok.2.2.2.2.2.2.2.1.D u) hS c 0 (llW_at hs) rfl hg hd (fun H1 locs1 hP1 hD1 hS1 => ?_)
  have hP1 : va_P F.1 vwCl (llW F.2.1 F.2.2.1 (llSI u c i.toNatClampNeg v)) H1 := by
    have e := llW_setA0 (dA := F.2.1) (ad := F.2.2.1) (u := u) (f := upd (u.1 c) i.toNatClampNeg v) hs
    first | (rw [show llSI u c i.toNatClampNeg v = _ from rfl, ← e]; exact hP1) | (rw [← e]; exact hP1) | (exact e ▸ hP1)
  exact kk _ ok r hr hK H1 locs1 ls hP1 hS1 hl
theorem J_zast {c n : Nat} {i : Int32} {v : Int32} {kx : llMem → Option ρ} (hd : decode cc pc = .ok (.bastore, 1)) (hs : llShp[c]? = some (.inl (3, n))) (kk : ∀ u', llJ G own cc nL ret d K (pc + 1) lv rest u' (kx u')) : llJ G own cc nL ret d K pc lv (.int v :: .int i :: .ref (llAd G c) :: rest) u (gI i n (lt (llSI u c i.toNatClampNeg (vp_nar .boolean v)) kx)) := by
  obtain ⟨p, l, e, R, s, m, args, below, meth, c0, cells, slots, Z, F⟩ := G
  intro ok r hr hK H locs ls hP hS hl
  obtain ⟨hg, hr⟩ := gI_some hr
  refine va_zast ok.1 ok.2.1 ok.2.2.2.2.2.2.2.1.1 hP (ok.2.2.2.2.2.2.2.1.D u) hS c 3 (llW_at hs) rfl hg hd (fun H1 locs1 hP1 hD1 hS1 => ?_)
  have hP1 : va_P F.1 vwCl (llW F.2.1 F.2.2.1 (llSI u c i.toNatClampNeg (vp_nar .boolean v))) H1 := by
    have e := llW_setA3 (dA := F.2.1) (ad := F.2.2.1) (u := u) (f := upd (u.1 c) i.toNatClampNeg (vp_nar .boolean v)) hs
    first | (rw [show llSI u c i.toNatClampNeg (vp_nar .boolean v) = _ from rfl, ← e]; exact hP1) | (rw [← e]; exact hP1) | (exact e ▸ hP1)
  exact kk _ ok r hr hK H1 locs1 ls hP1 hS1 hl
theorem J_last {c n : Nat} {i : Int32} {v : Int64} {kx : llMem → Option ρ} (hd : decode cc pc = .ok (.lastore, 1)) (hs : llShp[c]? = some (.inl (1, n))) (kk : ∀ u', llJ G own cc nL ret d K (pc + 1) lv rest u' (kx u')) : llJ G own cc nL ret d K pc lv (.long v :: .int i :: .ref (llAd G c) :: rest) u (gI i n (lt (llSL u c i.toNatClampNeg v) kx)) := by
  obtain ⟨p, l, e, R, s, m, args, below, meth, c0, cells, slots, Z, F⟩ := G
  intro ok r hr hK H locs ls hP hS hl
  obtain ⟨hg, hr⟩ := gI_some hr
  refine va_last ok.1 ok.2.1 ok.2.2.2.2.2.2.2.1.1 hP (ok.2.2.2.2.2.2.2.1.D u) hS c 1 (llW_at hs) rfl hg hd (fun H1 locs1 hP1 hD1 hS1 => ?_)
  have hP1 : va_P F.1 vwCl (llW F.2.1 F.2.2.1 (llSL u c i.toNatClampNeg v)) H1 := by
    have e := llW_setA1 (dA := F.2.1) (ad := F.2.2.1) (u := u) (f := vp_updL (u.2.1 c) i.toNatClampNeg v) hs
    first | (rw [show llSL u c i.toNatClampNeg v = _ from rfl, ← e]; exact hP1) | (rw [← e]; exact hP1) | (exact e ▸ hP1)
  exact kk _ ok r hr hK H1 locs1 ls hP1 hS1 hl
theorem J_fast {c n : Nat} {i : Int32} {v : UInt32} {kx : llMem → Option ρ} (hd : decode cc pc = .ok (.fastore, 1)) (hs : llShp[c]? = some (.inl (2, n))) (kk : ∀ u', llJ G own cc nL ret d K (pc + 1) lv rest u' (kx u')) : llJ G own cc nL ret d K pc lv (.float v :: .int i :: .ref (llAd G c) :: rest) u (gI i n (lt (llSF u c i.toNatClampNeg v) kx)) := by
  obtain ⟨p, l, e, R, s, m, args, below, meth, c0, cells, slots, Z, F⟩ := G
  intro ok r hr hK H locs ls hP hS hl
  obtain ⟨hg, hr⟩ := gI_some hr
  refine va_fast ok.1 ok.2.1 ok.2.2.2.2.2.2.2.1.1 hP (ok.2.2.2.2.2.2.2.1.D u) hS c 2 (llW_at hs) rfl hg hd (fun H1 locs1 hP1 hD1 hS1 => ?_)
  have hP1 : va_P F.1 vwCl (llW F.2.1 F.2.2.1 (llSF u c i.toNatClampNeg v)) H1 := by
    have e := llW_setA2 (dA := F.2.1) (ad := F.2.2.1) (u := u) (k := i.toNatClampNeg) (v := v) hs
    first | (rw [show llSF u c i.toNatClampNeg v = _ from rfl, ← e]; exact hP1) | (rw [← e]; exact hP1) | (exact e ▸ hP1)
  exact kk _ ok r hr hK H1 locs1 ls hP1 hS1 hl
theorem J_alen {c t n : Nat} {v : Int32} (hd : decode cc pc = .ok (.arraylength, 1)) (hs : llShp[c]? = some (.inl (t, n))) (ht : t < 4) (hv : Int32.ofNat n = v) (kk : llJ G own cc nL ret d K (pc + 1) lv (.int v :: rest) u x) : llJ G own cc nL ret d K pc lv (.ref (llAd G c) :: rest) u x := by
  obtain ⟨p, l, e, R, s, m, args, below, meth, c0, cells, slots, Z, F⟩ := G
  intro ok r hr hK H locs ls hP hS hl
  have hT : ∃ ty, (llTys F.2.1)[t]? = some (F.2.1 t, ty) := by
    match t, ht with
    | 0, _ => exact ⟨_, rfl⟩
    | 1, _ => exact ⟨_, rfl⟩
    | 2, _ => exact ⟨_, rfl⟩
    | 3, _ => exact ⟨_, rfl⟩
  obtain ⟨ty, hT⟩ := hT
  exact va_alen ok.1 ok.2.1 ok.2.2.2.2.2.2.2.1.1 hP c t (llW_at hs) hT hv hd (kk ok r hr hK H locs ls hP hS hl)
theorem J_iret {v : Int32} {r0 : ρ} (hd : decode cc pc = .ok (.ireturn, 1)) (h : K r0 → llRet G (some (.int v)) u) : llJ G own cc nL (some .int) d K pc lv [.int v] u (some r0) := by
  obtain ⟨p, l, e, R, s, m, args, below, meth, c0, cells, slots, Z, F⟩ := G
  intro ok r hr hK H locs ls hP hS hl
  cases hr
  obtain ⟨Qc, rfl, hQ⟩ := h hK
  exact W.iret ok.1 ok.2.1 ok.2.2.2.1 (fun t ht _ => hQ H locs t hP hS ht) (fun q hq => hS.2.2 q hq) hd ok.2.2.2.2.1
theorem J_lret {v : Int64} {r0 : ρ} (hd : decode cc pc = .ok (.lreturn, 1)) (h : K r0 → llRet G (some (.long v)) u) : llJ G own cc nL (some .long) d K pc lv [.long v] u (some r0) := by
  obtain ⟨p, l, e, R, s, m, args, below, meth, c0, cells, slots, Z, F⟩ := G
  intro ok r hr hK H locs ls hP hS hl
  cases hr
  obtain ⟨Qc, rfl, hQ⟩ := h hK
  exact W.lret ok.1 ok.2.1 ok.2.2.2.1 (fun t ht _ => hQ H locs t hP hS ht) (fun q hq => hS.2.2 q hq) hd ok.2.2.2.2.1
theorem J_fret {v : UInt32} {r0 : ρ} (hd : decode cc pc = .ok (.freturn, 1)) (h : K r0 → llRet G (some (.float v)) u) : llJ G own cc nL (some .float) d K pc lv [.float v] u (some r0) := by
  obtain ⟨p, l, e, R, s, m, args, below, meth, c0, cells, slots, Z, F⟩ := G
  intro ok r hr hK H locs ls hP hS hl
  cases hr
  obtain ⟨Qc, rfl, hQ⟩ := h hK
  exact W.fret ok.1 ok.2.1 ok.2.2.2.1 (fun t ht _ => hQ H locs t hP hS ht) (fun q hq => hS.2.2 q hq) hd ok.2.2.2.2.1
theorem J_zret {v : Int32} {r0 : ρ} (hd : decode cc pc = .ok (.ireturn, 1)) (h : K r0 → llRet G (some (.int v)) u) : llJ G own cc nL (some .boolean) d K pc lv [.int v] u (gB v (some r0)) := by
  obtain ⟨p, l, e, R, s, m, args, below, meth, c0, cells, slots, Z, F⟩ := G
  intro ok r hr hK H locs ls hP hS hl
  obtain ⟨hg, hr⟩ := gB_some hr
  cases hr
  obtain ⟨Qc, rfl, hQ⟩ := h hK
  exact W.zret ok.1 ok.2.1 ok.2.2.2.1 (by rcases hg with rfl | rfl <;> decide) (fun t ht _ => hQ H locs t hP hS ht) (fun q hq => hS.2.2 q hq) hd ok.2.2.2.2.1
theorem J_vret {r0 : ρ} (hd : decode cc pc = .ok (.return_, 1)) (h : K r0 → llRet G none u) : llJ G own cc nL none d K pc lv [] u (some r0) := by
  obtain ⟨p, l, e, R, s, m, args, below, meth, c0, cells, slots, Z, F⟩ := G
  intro ok r hr hK H locs ls hP hS hl
  cases hr
  obtain ⟨Qc, rfl, hQ⟩ := h hK
  exact W.vret ok.1 ok.2.1 ok.2.2.2.1 (fun t ht _ => hQ H locs t hP hS ht) (fun q hq => hS.2.2 q hq) hd ok.2.2.2.2.1
/-- a cut: the pure program answers, and what it answers stands for this place -/
theorem J_cut {st : List Value} {r0 : ρ} (ks : List Nat) {lv' : List (Nat × Value)} (hl : lv_pick lv ks = lv') (h : K r0 → llJq G nL pc lv' st u) : llJ G own cc nL ret d K pc lv st u (some r0) := by
  obtain ⟨p, l, e, R, s, m, args, below, meth, c0, cells, slots, Z, F⟩ := G
  intro ok r hr hK H locs ls hP hS hv
  cases hr
  exact h hK H locs ls hP hS (lv_sub hv ks hl)
/-- fewer locals -/
theorem J_sub {st : List Value} (ks : List Nat) {lv' : List (Nat × Value)} (hl : lv_pick lv ks = lv') (k : llJ G own cc nL ret d K pc lv' st u x) : llJ G own cc nL ret d K pc lv st u x := by
  obtain ⟨p, l, e, R, s, m, args, below, meth, c0, cells, slots, Z, F⟩ := G
  intro ok r hr hK H locs ls hP hS hv
  exact k ok r hr hK H locs ls hP hS (lv_sub hv ks hl)
/-- a loop: its body by cuts at its head, then what is behind it -/
theorem J_loop {S E : Type} {body : S → Option (S ⊕ E)} {n : Nat} {s0 : S} {st : List Value} {kx : E → Option ρ} (lvS : S → List (Nat × Value)) (mS : S → llMem) (K' : E → Prop) (hb : ∀ s, llJ G own cc nL ret d (Sum.elim (fun s' => llJq G nL pc (lvS s') st (mS s')) K') pc (lvS s) st (mS s) (body s)) (hk : llOk G own cc nL ret d → ∀ e r, kx e = some r → K r → K' e) (ks : List Nat) (hl : lv_pick lv ks = lvS s0) (hm : mS s0 = u) : llJ G own cc nL ret d K pc lv st u ((loop body n s0).bind kx) := by
  intro ok r hr hK
  obtain ⟨e, he, hr⟩ := ob_some hr
  have hK' := hk ok e r hr hK
  have main : ∀ n s, loop body n s = some e → llJq G nL pc (lvS s) st (mS s) := by
    intro n
    induction n with
    | zero => intro s h; cases h
    | succ n ih =>
      intro s h
      unfold loop at h
      cases hbs : body s with
      | none => rw [hbs] at h; cases h
      | some q =>
        rw [hbs] at h
        cases q with
        | inl s' => exact hb s ok _ hbs (ih s' h)
        | inr e' =>
          have : e' = e := Option.some.inj h
          subst this
          exact hb s ok _ hbs hK'
  have h1 := main n s0 he
  subst hm
  obtain ⟨p, l, e, R, s, m, args, below, meth, c0, cells, slots, Z, F⟩ := G
  intro H locs ls hP hS hv
  exact h1 H locs ls hP hS (lv_sub hv ks hl)
end
