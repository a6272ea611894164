/-! making objects: worlds as lists -/
def cRm (d mc ms : Nat) : Room := { frames := d + 1, cells := mc, slots := ms, locals := 64 * (d + 1) }
def cQc (F : llFix) (w0 : va_W) (P : va_W → Prop) (sz : Nat) : Array Value → State → Outcome → State → Prop := fun _ st oc t => (oc = .returned none ∧ ∃ w1, P w1 ∧ va_P F.1 vwCl w1 t.heap ∧ va_D (va_A w0 sz) w1) ∧ va_F (va_A w0 sz) st t
def cWd (F : llFix) (w0 : va_W) (sz : Nat) (U : State) : Prop := U.heap.size = sz ∧ va_P F.1 vwCl w0 U.heap ∧ va_K F.1 vwCl (llTys F.2.1) U ∧ va_D (fun _ => True) w0
def cCt (l : Launch) (F : llFix) (y : MethodName) (cc : ByteArray) (nL d : Nat) (av : List Value) (w0 : va_W) (P : va_W → Prop) (mc ms : Nat) : Prop := ∀ sz, Met l y (Cond.code y cc nL none :: llTb) (cRm d mc ms) (va_Pc av (cWd F w0 sz)) (cQc F w0 P sz) mc ms (va_A w0 sz)
def cOk (G : llG) (own : String) (cc : ByteArray) (nL d : Nat) (A : Nat → Prop) : Prop := match G with
  | (p, _, _, R, s, m, args, _, meth, c, _, _, _, F) => p.tables.exec = Jvm.exec ∧ c.code = cc ∧ c.maxLocals = nL ∧ meth.locks = false ∧ s.vm.findClass own = some m.cls ∧ (∀ w ∈ llTb, w.before args s = true) ∧ va_K F.1 vwCl (llTys F.2.1) s ∧ (∀ q, s.heap.size ≤ q → A q) ∧ d + 1 ≤ R.frames ∧ 64 * (d + 1) ≤ R.locals
def cIn (G : llG) : Prop := match G with
  | (_, _, _, _, _, _, _, _, meth, _, _, _, _, _) => meth.name = "<init>"
def cRoom (G : llG) (a b : Nat) : Prop := match G with
  | (_, _, _, R, _, _, _, _, _, _, _, _, _, _) => a ≤ R.cells ∧ b ≤ R.slots
def cJq (G : llG) (nL : Nat) (A : Nat → Prop) (pc : Nat) (lv : List (Nat × Value)) (st : List Value) (ws : va_W) (nc ns : Nat) : Prop := match G with
  | (p, l, e, R, s, m, args, below, meth, c, _, _, Z, F) => ∀ (H : Heap) (locs : List Loc) (ls : Array Slot), va_P F.1 vwCl ws H → va_D A ws → va_S A s.heap H locs → lv_has ls nL lv → W p l e R s m args below meth c H locs nc ns Z (F0 m pc ls st)
def cJ (G : llG) (own : String) (cc : ByteArray) (nL d : Nat) (A : Nat → Prop) (pc : Nat) (lv : List (Nat × Value)) (st : List Value) (ws : va_W) (nc ns : Nat) : Prop := cOk G own cc nL d A → cJq G nL A pc lv st ws nc ns
theorem cKu {F : llFix} {s : State} {t : Nat} {ty : FieldType} {cA : ClassId} (hK : va_K F.1 vwCl (llTys F.2.1) s) (ht : (llTys F.2.1)[t]? = some (F.2.1 t, ty)) (hA : va_RA s cA ty) (hp : refKind ty = false) : cA = F.2.1 t := by
  have h1 := (hK.2 t _ ht).2
  have e1 : s.vm.findClass ("[" ++ ty.toString) = some cA := by
    cases ty <;> first | exact hA | (simp [refKind] at hp)
  have e2 : s.vm.findClass ("[" ++ ty.toString) = some (F.2.1 t) := by
    cases ty <;> first | exact h1 | (simp [refKind] at hp)
  rw [e1] at e2
  exact Option.some.inj e2
/-- behind a call whose cells stand last -/
theorem cJoin {A0 : Nat → Prop} {D : va_G} {cl : List vw_C} {wr wc w1 : va_W} {H H1 : Heap} (hP : va_P D cl (wr ++ wc) H) (hD : va_D A0 (wr ++ wc))
    (hk : ∀ q : Nat, q < H.size → ¬ va_A wc H.size q → H1[q]? = H[q]?) (hF : ∀ q, va_A wc H.size q → A0 q) (hP1 : va_P D cl w1 H1) (hD1 : va_D (va_A wc H.size) w1) : va_P D cl (wr ++ w1) H1 ∧ va_D A0 (wr ++ w1) := by
  have hr : ∀ (k : Nat) (q : Nat × va_E), wr[k]? = some q → k < wr.length ∧ (wr ++ wc)[k]? = some q := fun k q hq => by
    have hl := (List.getElem?_eq_some_iff.mp hq).1
    exact ⟨hl, by rw [List.getElem?_append_left hl]; exact hq⟩
  have apart : ∀ (k : Nat) (q : Nat × va_E), wr[k]? = some q → q.1 < H.size ∧ ¬ va_A wc H.size q.1 := by
    intro k q hq
    obtain ⟨hkl, h2⟩ := hr k q hq
    have hl := (hP k q h2).lt
    refine ⟨hl, fun h => ?_⟩
    rcases h with ⟨k2, e, h⟩ | h
    · have h4 : (wr ++ wc)[wr.length + k2]? = some (q.1, e) := by rw [List.getElem?_append_right (by omega), show wr.length + k2 - wr.length = k2 by omega]; exact h
      have hij := hD.1 k (wr.length + k2) q (q.1, e) h2 h4 rfl
      omega
    · omega
  have hDr : va_D A0 wr := ⟨fun i j p q hp hq e => hD.1 i j p q (hr i p hp).2 (hr j q hq).2 e, fun k q hq => hD.2 k q (hr k q hq).2⟩
  refine ⟨va_P.app (fun k q hq => ?_) hP1, va_D.app hDr (hD1.weaken (fun k q _ h => hF q.1 h)) (fun i j x y hx hy hxy => ?_)⟩
  · obtain ⟨g1, g2⟩ := apart k q hq
    exact (hP k q (hr k q hq).2).kept (hk q.1 g1 g2)
  · exact (apart i x hx).2 (by rw [hxy]; exact hD1.2 j y hy)
section
variable {G : llG} {own : String} {cc : ByteArray} {nL d : Nat} {A : Nat → Prop} {pc : Nat} {lv : List (Nat × Value)} {rest : List Value} {ws : va_W} {nc ns : Nat}
theorem c_aload_n {q : Fin 4} {i j v : Nat} (hd : decode cc pc = .ok (.aload_n q, 1)) (hi : (q : Nat) = i) (hj : lv[j]? = some (i, .ref v)) (k : cJ G own cc nL d A (pc + 1) lv (.ref v :: rest) ws nc ns) : cJ G own cc nL d A pc lv rest ws nc ns := by
  obtain ⟨p, l, e, R, s, m, args, below, meth, c0, cells, slots, Z, F⟩ := G
  intro ok H locs ls hP hD hS hl
  exact lv_aload_n ok.1 ok.2.1 hd hi (lv_at hl j hj) (k ok H locs ls hP hD hS hl)
theorem c_iconst {n : Int} {v : Int32} (hd : decode cc pc = .ok (.iconst n, 1)) (hv : Int32.ofInt n = v) (k : cJ G own cc nL d A (pc + 1) lv (.int v :: rest) ws nc ns) : cJ G own cc nL d A pc lv rest ws nc ns := by
  obtain ⟨p, l, e, R, s, m, args, below, meth, c0, cells, slots, Z, F⟩ := G
  intro ok H locs ls hP hD hS hl
  exact lv_iconst ok.1 ok.2.1 hd hv (k ok H locs ls hP hD hS hl)
theorem c_bipush {n : Int} {v : Int32} (hd : decode cc pc = .ok (.bipush n, 2)) (hv : (Int8.ofInt n).toInt32 = v) (k : cJ G own cc nL d A (pc + 2) lv (.int v :: rest) ws nc ns) : cJ G own cc nL d A pc lv rest ws nc ns := by
  obtain ⟨p, l, e, R, s, m, args, below, meth, c0, cells, slots, Z, F⟩ := G
  intro ok H locs ls hP hD hS hl
  exact lv_bipush ok.1 ok.2.1 hd hv (k ok H locs ls hP hD hS hl)
theorem c_sipush {n : Int} {v : Int32} (hd : decode cc pc = .ok (.sipush n, 3)) (hv : (Int16.ofInt n).toInt32 = v) (k : cJ G own cc nL d A (pc + 3) lv (.int v :: rest) ws nc ns) : cJ G own cc nL d A pc lv rest ws nc ns := by
  obtain ⟨p, l, e, R, s, m, args, below, meth, c0, cells, slots, Z, F⟩ := G
  intro ok H locs ls hP hD hS hl
  exact lv_sipush ok.1 ok.2.1 hd hv (k ok H locs ls hP hD hS hl)
theorem c_dup {a : Value} (hd : decode cc pc = .ok (.dup, 1)) (ha : a.category = 1) (k : cJ G own cc nL d A (pc + 1) lv (a :: a :: rest) ws nc ns) : cJ G own cc nL d A pc lv (a :: rest) ws nc ns := by
  obtain ⟨p, l, e, R, s, m, args, below, meth, c0, cells, slots, Z, F⟩ := G
  intro ok H locs ls hP hD hS hl
  exact lv_dup ok.1 ok.2.1 hd ha (k ok H locs ls hP hD hS hl)
theorem c_astore_n {q : Fin 4} {i a : Nat} (lv' : List (Nat × Value)) (hd : decode cc pc = .ok (.astore_n q, 1)) (hi : (q : Nat) = i) (hn : i < nL) (hf : (i, Value.ref a) :: lv.filter (fun q => !(q.1 == i) && !(q.1 + 1 == i && q.2.category == 2)) = lv') (k : cJ G own cc nL d A (pc + 1) lv' rest ws nc ns) : cJ G own cc nL d A pc lv (.ref a :: rest) ws nc ns := by
  obtain ⟨p, l, e, R, s, m, args, below, meth, c0, cells, slots, Z, F⟩ := G
  intro ok H locs ls hP hD hS hl
  exact lv_astore_n ok.1 ok.2.1 hd hi hl hn hf (fun ls hl => k ok H locs ls hP hD hS hl)
theorem c_istore_n {q : Fin 4} {i : Nat} {a : Int32} (lv' : List (Nat × Value)) (hd : decode cc pc = .ok (.istore_n q, 1)) (hi : (q : Nat) = i) (hn : i < nL) (hf : (i, Value.int a) :: lv.filter (fun q => !(q.1 == i) && !(q.1 + 1 == i && q.2.category == 2)) = lv') (k : cJ G own cc nL d A (pc + 1) lv' rest ws nc ns) : cJ G own cc nL d A pc lv (.int a :: rest) ws nc ns := by
  obtain ⟨p, l, e, R, s, m, args, below, meth, c0, cells, slots, Z, F⟩ := G
  intro ok H locs ls hP hD hS hl
  exact lv_istore_n ok.1 ok.2.1 hd hi hl hn hf (fun ls hl => k ok H locs ls hP hD hS hl)
theorem c_objInit {idx a : Nat} (hd : decode cc pc = .ok (.invokespecial idx, 3)) (h1 : Cond.methodLink own idx Lib.objectInit ∈ llTb) (h2 : Cond.instanceMethod Lib.objectInit ∈ llTb) (h3 : Cond.code Lib.objectInit ⟨#[0xb1]⟩ 1 none ∈ llTb) (hrm : (rest.map fun v => v.category).sum ≤ 8) (k : cJ G own cc nL d A (pc + 3) lv rest ws nc ns) : cJ G own cc nL d A pc lv (.ref a :: rest) ws nc ns := by
  obtain ⟨p, l, e, R, s, m, args, below, meth, c0, cells, slots, Z, F⟩ := G
  intro ok H locs ls hP hD hS hl
  obtain ⟨hx, hb, hml, hlk, hown, hts, hK, hA, hfr, hlo⟩ := id ok
  refine W.objInit hx hb hown (hts _ h1) (hts _ h2) (hts _ h3) rfl (by rw [hml]; exact hl.1) rfl hd (by omega) ?_ (k ok H locs ls hP hD hS hl)
  show 2 * 0 + _ + 12 ≤ R.locals
  omega
theorem c_new {ci idx : Nat} {C : String} {T : u_T} {N : Nat} {ty : Nat → FieldType} {fs : List Value} (hd : decode cc pc = .ok (.new idx, 3)) (hC : llCl ci C T N ty) (h1 : Cond.classLink own idx C ∈ llTb) (h2 : Cond.instantiable C N ∈ llTb) (h3 : Cond.initialized C ∈ llTb) (hfs : ∀ j, j < N → defaultValue (ty j) = vp_V fs j) (hR : cRoom G (nc + 1) (ns + N)) (k : ∀ q, cJ G own cc nL d A (pc + 3) lv (.ref q :: rest) (ws ++ [(q, .inr (ci, fs))]) (nc + 1) (ns + N)) : cJ G own cc nL d A pc lv rest ws nc ns := by
  obtain ⟨p, l, e, R, s, m, args, below, meth, c0, cells, slots, Z, F⟩ := G
  intro ok H locs ls hP hD hS hl
  obtain ⟨hx, hb, hml, hlk, hown, hts, hK, hA, hfr, hlo⟩ := id ok
  exact va_new hx hb hts hC.2.1 ty hC.2.2.1 hown (hts _ h1) (hts _ h2) (hts _ h3) hK hP hD hS hA hC.1 hfs hR.1 hR.2 hd (fun q H1 hP hD hS => k q ok H1 locs ls hP hD hS hl)
theorem c_newa {atype : ArrayType} {t : Nat} {ty : FieldType} {n : Int32} {N : Nat} {a0 : vp_A} (hd : decode cc pc = .ok (.newarray atype, 2)) (h1 : Cond.arrayClass (newarray.typeOf atype) ∈ llTb) (hty : newarray.typeOf atype = ty) (ht : ∀ dA : Nat → ClassId, (llTys dA)[t]? = some (dA t, ty)) (hp : refKind ty = false) (ha : ∀ cA : ClassId, vp_cell cA a0 = arrV cA N (fun _ => defaultValue ty)) (hn : ¬ n < 0) (hN : n.toNatClampNeg = N) (hb2 : N * componentBytes ty ≤ 536870912) (hR : cRoom G (nc + 1) (ns + N)) (k : ∀ q, cJ G own cc nL d A (pc + 2) lv (.ref q :: rest) (ws ++ [(q, .inl ((llFx G).2.1 t, a0))]) (nc + 1) (ns + N)) : cJ G own cc nL d A pc lv (.int n :: rest) ws nc ns := by
  obtain ⟨p, l, e, R, s, m, args, below, meth, c0, cells, slots, Z, F⟩ := G
  intro ok H locs ls hP hD hS hl
  obtain ⟨hx, hb, hml, hlk, hown, hts, hK, hA, hfr, hlo⟩ := id ok
  refine va_newa (atype := atype) hx hb (hts _ h1) hty hK hP hD hS hA ha hn hN hb2 hR.1 hR.2 hd (fun q cA H1 hK1 hP hD hS => ?_)
  have hcA : cA = F.2.1 t := cKu hK (ht F.2.1) (hK1.2 (llTys F.2.1).length (cA, ty) (by simp)).2 hp
  subst hcA
  exact k q ok H1 locs ls hP hD hS hl
theorem c_putF {idx ci fk a : Nat} {t : FieldType} {v : Value} {fs : List Value} (q0 : Nat) (ws' : va_W) (hd : decode cc pc = .ok (.putfield idx, 3)) (hin : cIn G) (fl : llFd own idx ci fk t true) (hdc : ∀ C T N ty, llCl ci C T N ty → (T fk).1 = own) (he : ws[q0]? = some (a, .inr (ci, fs))) (hn : narrow t v = v) (hfit : fits t v = true) (hlen : fk < fs.length) (hws : ws.set q0 (a, .inr (ci, fs.set fk v)) = ws') (k : cJ G own cc nL d A (pc + 3) lv rest ws' nc ns) : cJ G own cc nL d A pc lv (v :: .ref a :: rest) ws nc ns := by
  obtain ⟨p, l, e, R, s, m, args, below, meth, c0, cells, slots, Z, F⟩ := G
  intro ok H locs ls hP hD hS hl
  obtain ⟨hx, hb, hml, hlk, hown, hts, hK, hA, hfr, hlo⟩ := id ok
  obtain ⟨C, T, N, ty, hC, hkN, hw, hty, hfin⟩ := fl
  exact va_putF hx hb hts hC.2.1 ty hC.2.2.1 hC.2.2.2 hown hK hP hD hS q0 he hC.1 fk hkN (hts _ hw) (fun _ h => h) hfin hin (hdc C T N ty hC) (ty := t) (by rw [hC.2.2.1 fk hkN, hty]) hn hfit hlen hd (fun H1 locs1 hP hD hS => k ok H1 locs1 ls (hws ▸ hP) (hws ▸ hD) hS hl)
theorem c_putI {idx ci fk a : Nat} {v : Int32} {fs : List Value} (q0 : Nat) (ws' : va_W) (hd : decode cc pc = .ok (.putfield idx, 3)) (fl : llFd own idx ci fk .int false) (he : ws[q0]? = some (a, .inr (ci, fs))) (hlen : fk < fs.length) (hws : ws.set q0 (a, .inr (ci, fs.set fk (.int v))) = ws') (k : cJ G own cc nL d A (pc + 3) lv rest ws' nc ns) : cJ G own cc nL d A pc lv (.int v :: .ref a :: rest) ws nc ns := by
  obtain ⟨p, l, e, R, s, m, args, below, meth, c0, cells, slots, Z, F⟩ := G
  intro ok H locs ls hP hD hS hl
  obtain ⟨hx, hb, hml, hlk, hown, hts, hK, hA, hfr, hlo⟩ := id ok
  obtain ⟨C, T, N, ty, hC, hkN, hw, hty, hfin⟩ := fl
  exact va_put hx hb hts hC.2.1 ty hC.2.2.1 hC.2.2.2 hown hK hP hD hS q0 he hC.1 fk hkN (hts _ hw) (fun _ h => h) hfin (ty := .int) (by rw [hC.2.2.1 fk hkN, hty]) rfl rfl hlen hd (fun H1 locs1 hP hD hS => k ok H1 locs1 ls (hws ▸ hP) (hws ▸ hD) hS hl)
theorem c_getR {idx ci fk a : Nat} {t : FieldType} {fin : Bool} {v : Value} {fs : List Value} (q0 : Nat) (hd : decode cc pc = .ok (.getfield idx, 3)) (fl : llFd own idx ci fk t fin) (he : ws[q0]? = some (a, .inr (ci, fs))) (hv : fs[fk]? = some v) (k : cJ G own cc nL d A (pc + 3) lv (v :: rest) ws nc ns) : cJ G own cc nL d A pc lv (.ref a :: rest) ws nc ns := by
  obtain ⟨p, l, e, R, s, m, args, below, meth, c0, cells, slots, Z, F⟩ := G
  intro ok H locs ls hP hD hS hl
  obtain ⟨hx, hb, hml, hlk, hown, hts, hK, hA, hfr, hlo⟩ := id ok
  obtain ⟨C, T, N, ty, hC, hkN, hw, hty, hfin⟩ := fl
  exact va_get hx hb hts hC.2.1 hown hK hP q0 he hC.1 fk hkN (hts _ hw) (fun _ h => h) (v := v) hv hd (k ok H locs ls hP hD hS hl)
theorem c_ws (ws' : va_W) (h : ws = ws') {st : List Value} (k : cJ G own cc nL d A pc lv st ws' nc ns) : cJ G own cc nL d A pc lv st ws nc ns := by subst h; exact k
theorem c_widen {st : List Value} (a b : Nat) (h1 : nc ≤ a) (h2 : ns ≤ b) (k : cJ G own cc nL d A pc lv st ws a b) : cJ G own cc nL d A pc lv st ws nc ns := by
  obtain ⟨p, l, e, R, s, m, args, below, meth, c0, cells, slots, Z, F⟩ := G
  intro ok H locs ls hP hD hS hl
  exact W.widen h1 h2 (k ok H locs ls hP hD hS hl)
end
theorem cRunK {p : Program} {l : Launch} {e : Env} {R : Room} {s : State} {m : MethodId} {args : Array Value} {below : List Frame} {meth : Method} {c : Code} {H : Heap} {locs : List Loc} {cells slots mc ms : Nat} {Z : State → Prop} {pc : Nat} {ls : Array Slot} {rest st0 : List Value} {a : Array Value} {F : llFix} {wr wc : va_W} {P : va_W → Prop} {A : Nat → Prop}
    (hr : va_Run p l e R s m args below meth c H locs cells slots mc ms (F0 m pc ls st0) rest (cQc F wc P H.size a) (va_A wc H.size)) (hP : va_P F.1 vwCl (wr ++ wc) H) (hD : va_D A (wr ++ wc)) (hS : va_S A s.heap H locs) (hA : ∀ q, s.heap.size ≤ q → A q)
    (kk : ∀ (w1 : va_W) (H1 : Heap) (locs1 : List Loc), P w1 → va_P F.1 vwCl (wr ++ w1) H1 → va_D A (wr ++ w1) → va_S A s.heap H1 locs1 → W p l e R s m args below meth c H1 locs1 (cells + mc) (slots + ms) Z (F0 m (pc + 3) ls rest)) : W p l e R s m args below meth c H locs cells slots Z (F0 m pc ls st0) := by
  intro T hT X
  obtain ⟨v, st₀, t, T', L, h0, X', hL, e1, e2, ⟨⟨hv, w1, hp, hP1, hD1⟩, hz, hk⟩, st⟩ := hr T hT X
  have hv : v = none := by cases hv; rfl
  subst hv
  rw [h0] at hz hk
  have hF : ∀ q, va_A wc H.size q → A q := by
    intro q h
    rcases h with ⟨k, e, h⟩ | h
    · exact hD.2 (wr.length + k) (q, e) (by rw [List.getElem?_append_right (by omega), show wr.length + k - wr.length = k by omega]; exact h)
    · exact hA q (Nat.le_trans hS.1 h)
  obtain ⟨hP2, hD2⟩ := cJoin hP hD (H1 := t.heap) (fun q h1 h2 => hk q h1 h2) hF hP1 hD1
  obtain ⟨t2, a1, b1⟩ := kk w1 T'.heap (locs ++ L) hp (by rw [e1]; exact hP2) hD2
    ⟨Nat.le_trans hS.1 (by rw [e1]; exact hz), fun q h1 h2 => by rw [e1, hk q (Nat.lt_of_lt_of_le h1 hS.1) (fun z => h2 (hF q z))]; exact hS.2.1 q h1 h2, fun q hq => by
      rcases List.mem_append.mp hq with h | h
      · exact hS.2.2 q h
      · exact hF _ (hL q h)⟩ T' rfl X'
  exact ⟨t2, st t2 a1, b1⟩
theorem cBlind (F : llFix) (av : List Value) (w : va_W) (sz : Nat) : FrameBlind (va_Pc av (cWd F w sz)) := by
  intro a U g mk q
  obtain ⟨h0, h1, h2, h3, h4⟩ := q
  exact ⟨h0, h1, h2, va_K.moved (u := U) (U := U.calling g mk a) (Vm.Alike.refl U.vm) h3, h4⟩
def cYi (y : MethodName) (cc : ByteArray) (nL n : Nat) : Prop := Cond.code y cc nL none ∈ llTb ∧ Cond.instanceMethod y ∈ llTb ∧ Cond.initialized y.cls ∈ llTb ∧ y.name = "<init>" ∧ (y.cls ≠ "java/lang/invoke/MethodHandle" ∧ y.cls ≠ "java/lang/invoke/VarHandle" ∧ (parseMethodDescriptor y.desc).map (fun d => d.parameters.length) = some n) ∧ nL ≤ 45
section
variable {G : llG} {own : String} {cc : ByteArray} {nL d : Nat} {A : Nat → Prop} {pc : Nat} {lv : List (Nat × Value)} {rest : List Value} {nc ns : Nat}
theorem c_callI {y : MethodName} {cy : ByteArray} {ny n idx a mc ms : Nat} {As st : List Value} {wr wc : va_W} {P : va_W → Prop} (hd : decode cc pc = .ok (.invokespecial idx, 3)) (hc : cCt (llL G) (llFx G) y cy ny d (.ref a :: As) wc P mc ms) (hy : cYi y cy ny n) (hw : Cond.methodLink own idx y ∈ llTb) (hst : st = As.reverse ++ .ref a :: rest) (hn : As.length = n) (hrm : (rest.map fun v => v.category).sum ≤ 8) (hR : cRoom G (nc + mc) (ns + ms)) (k : ∀ w1, P w1 → cJ G own cc nL (d + 1) A (pc + 3) lv rest (wr ++ w1) (nc + mc) (ns + ms)) : cJ G own cc nL (d + 1) A pc lv st (wr ++ wc) nc ns := by
  obtain ⟨p, l, e, R, s, m, args, below, meth, c0, cells, slots, Z, F⟩ := G
  intro ok H locs ls hP hD hS hl
  obtain ⟨hx, hb, hml, hlk, hown, hts, hK, hA, hfr, hlo⟩ := id ok
  obtain ⟨y1, y2, y4, y0, y5, y6⟩ := hy
  have hB : CallB R s args own idx y cy ny none (Cond.code y cy ny none :: llTb) (cRm d mc ms) mc ms n := callB_of n hts (llGood y1) rfl rfl rfl (hts _ y4) (hts _ hw) y5 ⟨by show d + 1 + 1 ≤ R.frames; exact hfr, by show 8 + (ny + 11) + 64 * (d + 1) ≤ R.locals; omega⟩
  have hPc : va_P F.1 vwCl wc H := fun k q hq => hP (wr.length + k) q (by rw [List.getElem?_append_right (by omega), show wr.length + k - wr.length = k by omega]; exact hq)
  have hDc : va_D (fun _ => True) wc := ⟨fun i j x z hx hz e => by
    have := hD.1 (wr.length + i) (wr.length + j) x z (by rw [List.getElem?_append_right (by omega), show wr.length + i - wr.length = i by omega]; exact hx) (by rw [List.getElem?_append_right (by omega), show wr.length + j - wr.length = j by omega]; exact hz) e
    omega, fun _ _ _ => trivial⟩
  exact cRunK (rest := rest) (va_runI (As := As) (b := a) (cc := cc) (nL := nL) (Ts := llTb) (own := own) (n := n) ⟨hx, hb, hml, hown, hts⟩ (hc H.size) ⟨hB, y0, hts _ y2⟩ ⟨cBlind F _ wc H.size, fun U hU hW => ⟨rfl, by rw [hU], by rw [hU]; exact hPc, va_K.moved hW.alike hK, hDc⟩⟩ rfl hn hl.1 hst (lv_room hrm) hd hR) hP hD hS hA (fun w1 H1 locs1 hp hP1 hD1 hS1 => k w1 hp ok H1 locs1 ls hP1 hD1 hS1 hl)
theorem c_callS {y : MethodName} {cy : ByteArray} {ny n idx mc ms : Nat} {As st : List Value} {wr wc : va_W} {P : va_W → Prop} (hd : decode cc pc = .ok (.invokestatic idx, 3)) (hc : cCt (llL G) (llFx G) y cy ny d As wc P mc ms) (hy : llYs y cy ny none n) (hw : Cond.methodLink own idx y ∈ llTb) (hst : st = As.reverse ++ rest) (hn : As.length = n) (hrm : (rest.map fun v => v.category).sum ≤ 8) (hR : cRoom G (nc + mc) (ns + ms)) (k : ∀ w1, P w1 → cJ G own cc nL (d + 1) A (pc + 3) lv rest (wr ++ w1) (nc + mc) (ns + ms)) : cJ G own cc nL (d + 1) A pc lv st (wr ++ wc) nc ns := by
  obtain ⟨p, l, e, R, s, m, args, below, meth, c0, cells, slots, Z, F⟩ := G
  intro ok H locs ls hP hD hS hl
  obtain ⟨hx, hb, hml, hlk, hown, hts, hK, hA, hfr, hlo⟩ := id ok
  obtain ⟨y1, y2, y4, y5, y6⟩ := hy
  have hB : CallB R s args own idx y cy ny none (Cond.code y cy ny none :: llTb) (cRm d mc ms) mc ms n := callB_of n hts (llGood y1) rfl rfl rfl (hts _ y4) (hts _ hw) y5 ⟨by show d + 1 + 1 ≤ R.frames; exact hfr, by show 8 + (ny + 11) + 64 * (d + 1) ≤ R.locals; omega⟩
  have hPc : va_P F.1 vwCl wc H := fun k q hq => hP (wr.length + k) q (by rw [List.getElem?_append_right (by omega), show wr.length + k - wr.length = k by omega]; exact hq)
  have hDc : va_D (fun _ => True) wc := ⟨fun i j x z hx hz e => by
    have := hD.1 (wr.length + i) (wr.length + j) x z (by rw [List.getElem?_append_right (by omega), show wr.length + i - wr.length = i by omega]; exact hx) (by rw [List.getElem?_append_right (by omega), show wr.length + j - wr.length = j by omega]; exact hz) e
    omega, fun _ _ _ => trivial⟩
  exact cRunK (rest := rest) (va_runS (As := As) (cc := cc) (nL := nL) (Ts := llTb) (own := own) (n := n) ⟨hx, hb, hml, hown, hts⟩ (hc H.size) ⟨hB, hts _ y2⟩ ⟨cBlind F _ wc H.size, fun U hU hW => ⟨rfl, by rw [hU], by rw [hU]; exact hPc, va_K.moved hW.alike hK, hDc⟩⟩ rfl hn hl.1 hst (lv_room hrm) hd hR) hP hD hS hA (fun w1 H1 locs1 hp hP1 hD1 hS1 => k w1 hp ok H1 locs1 ls hP1 hD1 hS1 hl)
end
/-- a maker's end -/
def cEnd (G : llG) (w0 : va_W) (P : va_W → Prop) (mc ms : Nat) (A : Nat → Prop) : Prop := match G with
  | (_, _, _, _, s, _, args, below, meth, _, _, _, Z, F) => A = va_A w0 s.heap.size ∧ Z = MQ below (cQc F w0 P s.heap.size) args s mc ms (va_A w0 s.heap.size) ∧ meth.sig.returnType = none
theorem c_vret {G : llG} {own : String} {cc : ByteArray} {nL d : Nat} {A : Nat → Prop} {pc : Nat} {lv : List (Nat × Value)} {ws : va_W} {nc ns : Nat} {w0 : va_W} {P : va_W → Prop} (hd : decode cc pc = .ok (.return_, 1)) (hE : cEnd G w0 P nc ns A) (hp : P ws) : cJ G own cc nL d A pc lv [] ws nc ns := by
  obtain ⟨p, l, e, R, s, m, args, below, meth, c0, cells, slots, Z, F⟩ := G
  intro ok H locs ls hP hD hS hl
  obtain ⟨hx, hb, hml, hlk, hown, hts, hK, hA, hfr, hlo⟩ := id ok
  obtain ⟨rfl, rfl, hr⟩ := hE
  exact W.vret hx hb hr (fun t ht _ => ⟨⟨rfl, ws, hp, by rw [ht]; exact hP, hD⟩, hS.F ht⟩) (fun q hq => hS.2.2 q hq) hd hlk
theorem cCt.of {l : Launch} {F : llFix} {y : MethodName} {cc : ByteArray} {nL d : Nat} {av : List Value} {w0 : va_W} {P : va_W → Prop} {mc ms : Nat} (hy : plainFor y = true) (hlen : (lg_sl av).length ≤ nL) (h : ∀ (G : llG) (A : Nat → Prop), llL G = l → llFx G = F → cEnd G w0 P mc ms A → (y.name = "<init>" → cIn G) → cRoom G mc ms → cJ G y.cls cc nL d A 0 (lv_args 0 av) [] w0 0 0) : cCt l F y cc nL d av w0 P mc ms := by
  intro sz
  refine llMet_ofW (cc := cc) (maxL := nL) (ret := none) hy rfl ?_
  intro p e s m args below meth c s₁ B hml hv
  obtain ⟨rfl, hsz, hP, hK, hD0⟩ := hv
  subst hsz
  have hts := atoms_spec (ws := Cond.code y cc nL none :: llTb) B.pre
  have hl := lv_entry av (n := nL) hlen
  rw [lg_entry_eq]
  exact h (p, l, e, cRm d mc ms, s, m, av.toArray, below, meth, c, 0, 0, MQ below (cQc F w0 P s.heap.size) av.toArray s mc ms (va_A w0 s.heap.size), F) (va_A w0 s.heap.size) rfl rfl ⟨rfl, rfl, B.returns⟩ (fun hi => by show meth.name = "<init>"; rw [← hi]; exact (name_of_methodNamed B.named B.method).1) ⟨Nat.le_refl _, Nat.le_refl _⟩ ⟨B.exec, B.bytes, hml, B.notSynchronized, findClass_of_methodNamed B.named, fun w hw => hts w (List.mem_cons_of_mem _ hw), hK, fun q h => Or.inr h, Nat.le_refl _, Nat.le_refl _⟩ s.heap [] _ hP (hD0.self (sz := s.heap.size)) va_S.rf hl
