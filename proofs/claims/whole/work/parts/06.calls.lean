theorem llTb_of {w : Cond} (h : w ∈ lw_tbl) (hg : goodWord w = true) : w ∈ llTb := List.mem_filter.mpr ⟨h, hg⟩
theorem llTb_in {w : Cond} (h : w ∈ llTb) : w ∈ lw_tbl := (List.mem_filter.mp h).1
theorem llGood {y : MethodName} {cc : ByteArray} {nL : Nat} {ret : Option FieldType} (hc : Cond.code y cc nL ret ∈ llTb) : GoodIn llTb (Cond.code y cc nL ret :: llTb) := by
  intro w hw
  have h1 : w ∈ llTb := by
    rcases List.mem_cons.mp hw with rfl | h
    · exact hc
    · exact h
  exact ⟨h1, good_of_word (List.mem_filter.mp h1).2⟩
theorem llStr.moved {F : llFix} {s U : State} {H : Heap} (hW : s.WarmedH U.vm) (h : llStr F s H) : llStr F U H :=
  ⟨h.1.moved hW.alike, fun i hi => (h.2.1 i hi).warm hW, h.2.2.1.moved hW.alike, h.2.2.2.moved hW.alike⟩
theorem llStr.kept {F : llFix} {s : State} {H H1 : Heap} (h : llStr F s H) (hq : ∀ a : Nat, a < H.size → ¬ llA F.2.2.1 a → H1[a]? = H[a]?) : llStr F s H1 :=
  ⟨h.1.kept hq, h.2.1, h.2.2.1.kept hq, h.2.2.2.kept hq⟩
theorem llStr.same {F : llFix} {s U : State} {H : Heap} (hv : U.vm = s.vm) (h : llStr F s H) : llStr F U H := by
  have ha : s.vm.Alike U.vm := by rw [hv]; exact Vm.Alike.refl _
  exact ⟨h.1.moved ha, fun i hi => (h.2.1 i hi).same hv, h.2.2.1.moved ha, h.2.2.2.moved ha⟩
theorem llBlind (F : llFix) (av : List Value) (u : llMem) : FrameBlind (va_Pc av (llWd F u)) := by
  intro a U g mk q
  obtain ⟨h0, h1, h2, h3⟩ := q
  exact ⟨h0, h1, llBase.moved (u := U) (U := U.calling g mk a) (Vm.Alike.refl U.vm) h2, llStr.same (s := U) (U := U.calling g mk a) rfl h3⟩
/-- a method, of an object or static -/
def llYv (y : MethodName) (cc : ByteArray) (nL : Nat) (ret : Option FieldType) (n : Nat) : Prop := Cond.code y cc nL ret ∈ llTb ∧ Cond.instanceMethod y ∈ llTb ∧ Cond.selects y.cls y y ∈ llTb ∧ Cond.initialized y.cls ∈ llTb ∧ (y.cls ≠ "java/lang/invoke/MethodHandle" ∧ y.cls ≠ "java/lang/invoke/VarHandle" ∧ (parseMethodDescriptor y.desc).map (fun d => d.parameters.length) = some n) ∧ nL ≤ 45
/-- a contract of a method that writes nothing -/
def llCp {α : Type} (l : Launch) (F : llFix) (y : MethodName) (cc : ByteArray) (nL : Nat) (ret : Option FieldType) (d : Nat) (av : List Value) (u : llMem) (mk : α → Option Value) (x : Option α) : Prop := llCt l F y cc nL ret d av u mk (x.map (fun a => (u, a)))
theorem llP_bind {α β : Type} {u : llMem} {x : Option α} {kx : α → Option β} {r : β} (h : x.bind kx = some r) : bd (x.map (fun a => (u, a))) (fun _ a => kx a) = some r := by
  cases x with
  | none => cases h
  | some a => exact h
theorem llP_eq {α : Type} {u u' : llMem} {x : Option α} {a : α} (h : x.map (fun a => (u, a)) = some (u', a)) : u = u' := by
  cases x with
  | none => cases h
  | some b => cases h; rfl
def llYs (y : MethodName) (cc : ByteArray) (nL : Nat) (ret : Option FieldType) (n : Nat) : Prop := Cond.code y cc nL ret ∈ llTb ∧ Cond.static y ∈ llTb ∧ Cond.initialized y.cls ∈ llTb ∧ (y.cls ≠ "java/lang/invoke/MethodHandle" ∧ y.cls ≠ "java/lang/invoke/VarHandle" ∧ (parseMethodDescriptor y.desc).map (fun d => d.parameters.length) = some n) ∧ nL ≤ 45
theorem ll_call {p : Program} {l : Launch} {e : Env} {R : Room} {s : State} {m : MethodId} {args : Array Value} {below : List Frame} {meth : Method} {c : Code} {H : Heap} {locs : List Loc} {cells slots : Nat} {Z : State → Prop} {pc : Nat} {ls : Array Slot} {rest st0 : List Value} {a : Array Value} {α : Type} {F : llFix} {mk : α → Option Value} {r : llMem × α}
    (hr : va_Run p l e R s m args below meth c H locs cells slots 0 0 (F0 m pc ls st0) rest (llQc F mk r a) (llA F.2.2.1)) (hS : va_S (llA F.2.2.1) s.heap H locs)
    (kk : ∀ (H1 : Heap) (locs1 : List Loc), va_P F.1 vwCl (llW F.2.1 F.2.2.1 r.1) H1 → va_S (llA F.2.2.1) s.heap H1 locs1 → W p l e R s m args below meth c H1 locs1 cells slots Z (F0 m (pc + 3) ls ((mk r.2).toList ++ rest))) : W p l e R s m args below meth c H locs cells slots Z (F0 m pc ls st0) := by
  intro T hT X
  obtain ⟨v, st₀, t, T', L, h0, X', hL, e1, e2, ⟨⟨hv, hb⟩, hz, hk⟩, st⟩ := hr T hT X
  have hv : v = mk r.2 := by cases hv; rfl
  subst hv
  rw [h0] at hz hk
  obtain ⟨t2, a1, b1⟩ := kk T'.heap (locs ++ L) (by rw [e1]; exact hb)
    ⟨Nat.le_trans hS.1 (by rw [e1]; exact hz), fun q h1 h2 => by rw [e1, hk q (Nat.lt_of_lt_of_le h1 hS.1) h2]; exact hS.2.1 q h1 h2, fun q hq => by
      rcases List.mem_append.mp hq with h | h
      · exact hS.2.2 q h
      · exact hL q h⟩ T' rfl X'
  exact ⟨t2, st t2 a1, b1⟩
section
variable {ρ : Type} {G : llG} {own : String} {cc : ByteArray} {nL : Nat} {ret : Option FieldType} {d : Nat} {K : ρ → Prop} {pc : Nat} {lv : List (Nat × Value)} {rest : List Value} {u : llMem} {x : Option ρ}

theorem J_callV {α : Type} {mk : α → Option Value} {y : MethodName} {cy : ByteArray} {ny n idx c ci : Nat} {ry : Option FieldType} {ts : List Nat} {As st : List Value} {x0 : Option (llMem × α)} {kx : llMem → α → Option ρ} (hd : decode cc pc = .ok (.invokevirtual idx, 3)) (hc : llCt (llL G) (llFx G) y cy ny ry d (.ref (llAd G c) :: As) u mk x0) (hy : llYv y cy ny ry n) (hw : Cond.methodLink own idx y ∈ llTb) (hs : llShp[c]? = some (.inr (ci, ts))) (hcl : (vwCl[ci]?).map (fun q => q.1) = some y.cls) (hst : st = As.reverse ++ .ref (llAd G c) :: rest) (hn : As.length = n) (hrm : (rest.map fun v => v.category).sum ≤ 8) (k : ∀ u' a, x0 = some (u', a) → llJ G own cc nL ret (d + 1) K (pc + 3) lv ((mk a).toList ++ rest) u' (kx u' a)) : llJ G own cc nL ret (d + 1) K pc lv st u (bd x0 kx) := by
  obtain ⟨p, l, e, R, s, m, args, below, meth, c0, cells, slots, Z, F⟩ := G
  intro ok r hr hK H locs ls hP hS hl
  obtain ⟨q, hq, hr⟩ := bd_some hr
  obtain ⟨y1, y2, y3, y4, y5, y6⟩ := hy
  have hts := ok.2.2.2.2.2.2.1
  have hM := hc q hq
  cases hcq : vwCl[ci]? with
  | none => rw [hcq] at hcl; cases hcl
  | some Q =>
    rw [hcq] at hcl
    have hQ : Q.1 = y.cls := Option.some.inj hcl
    have hB : CallB R s args own idx y cy ny ry (Cond.code y cy ny ry :: llTb) (llRm d) 0 0 n := callB_of n hts (llGood y1) rfl rfl rfl (hts _ y4) (hts _ hw) y5 ⟨by show d + 1 + 1 ≤ R.frames; exact ok.2.2.2.2.2.2.2.2.2.1, by show 8 + (ny + 11) + 64 * (d + 1) ≤ R.locals; have := ok.2.2.2.2.2.2.2.2.2.2.1; omega⟩
    refine ll_call (r := q) (rest := rest) (va_runV (As := As) (b := F.2.2.1 c) (C := y.cls) (cc := cc) (nL := nL) (Ts := llTb) (own := own) (n := n) ⟨ok.1, ok.2.1, ok.2.2.1, ok.2.2.2.2.2.1, hts⟩ hM ⟨hB, hts _ y2, hts _ y3⟩ ⟨llBlind F _ u, ?_, fun U hU hW => ⟨rfl, by rw [hU]; exact hP, ok.2.2.2.2.2.2.2.1.moved hW.alike, ?_⟩⟩ rfl hn hl.1 hst (lv_room hrm) hd ⟨ok.2.2.2.2.2.2.2.2.2.2.2.1, ok.2.2.2.2.2.2.2.2.2.2.2.2⟩) hS (fun H1 locs1 hP1 hS1 => k q.1 q.2 hq ok r hr hK H1 locs1 ls hP1 hS1 hl)
    · rw [← hQ]
      exact va_recv ok.2.2.2.2.2.2.2.1.1 hP hcq (llW_at hs)
    · rw [hU]
      exact (ok.2.2.2.2.2.2.2.2.1.kept hS.2.1).moved hW
theorem J_callS {α : Type} {mk : α → Option Value} {y : MethodName} {cy : ByteArray} {ny n idx : Nat} {ry : Option FieldType} {As st : List Value} {x0 : Option (llMem × α)} {kx : llMem → α → Option ρ} (hd : decode cc pc = .ok (.invokestatic idx, 3)) (hc : llCt (llL G) (llFx G) y cy ny ry d As u mk x0) (hy : llYs y cy ny ry n) (hw : Cond.methodLink own idx y ∈ llTb) (hst : st = As.reverse ++ rest) (hn : As.length = n) (hrm : (rest.map fun v => v.category).sum ≤ 8) (k : ∀ u' a, x0 = some (u', a) → llJ G own cc nL ret (d + 1) K (pc + 3) lv ((mk a).toList ++ rest) u' (kx u' a)) : llJ G own cc nL ret (d + 1) K pc lv st u (bd x0 kx) := by
  obtain ⟨p, l, e, R, s, m, args, below, meth, c0, cells, slots, Z, F⟩ := G
  intro ok r hr hK H locs ls hP hS hl
  obtain ⟨q, hq, hr⟩ := bd_some hr
  obtain ⟨y1, y2, y4, y5, y6⟩ := hy
  have hts := ok.2.2.2.2.2.2.1
  have hM := hc q hq
  have hB : CallB R s args own idx y cy ny ry (Cond.code y cy ny ry :: llTb) (llRm d) 0 0 n := callB_of n hts (llGood y1) rfl rfl rfl (hts _ y4) (hts _ hw) y5 ⟨by show d + 1 + 1 ≤ R.frames; exact ok.2.2.2.2.2.2.2.2.2.1, by show 8 + (ny + 11) + 64 * (d + 1) ≤ R.locals; have := ok.2.2.2.2.2.2.2.2.2.2.1; omega⟩
  refine ll_call (r := q) (rest := rest) (va_runS (As := As) (cc := cc) (nL := nL) (Ts := llTb) (own := own) (n := n) ⟨ok.1, ok.2.1, ok.2.2.1, ok.2.2.2.2.2.1, hts⟩ hM ⟨hB, hts _ y2⟩ ⟨llBlind F _ u, fun U hU hW => ⟨rfl, by rw [hU]; exact hP, ok.2.2.2.2.2.2.2.1.moved hW.alike, ?_⟩⟩ rfl hn hl.1 hst (lv_room hrm) hd ⟨ok.2.2.2.2.2.2.2.2.2.2.2.1, ok.2.2.2.2.2.2.2.2.2.2.2.2⟩) hS (fun H1 locs1 hP1 hS1 => k q.1 q.2 hq ok r hr hK H1 locs1 ls hP1 hS1 hl)
  rw [hU]
  exact (ok.2.2.2.2.2.2.2.2.1.kept hS.2.1).moved hW
theorem J_callVip0 {y : MethodName} {cy : ByteArray} {ny idx : Nat} {ry : Option FieldType} {c ci : Nat} {ts : List Nat} {x0 : Option Int32} {kx : Int32 → Option ρ} (hd : decode cc pc = .ok (.invokevirtual idx, 3)) (hc : llCp (llL G) (llFx G) y cy ny ry d ([.ref (llAd G c)]) u llI x0) (hy : llYv y cy ny ry 0) (hw : Cond.methodLink own idx y ∈ llTb) (hs : llShp[c]? = some (.inr (ci, ts))) (hcl : (vwCl[ci]?).map (fun q => q.1) = some y.cls) (hrm : (rest.map fun v => v.category).sum ≤ 8) (k : ∀ a, llJ G own cc nL ret (d + 1) K (pc + 3) lv (.int a :: rest) u (kx a)) : llJ G own cc nL ret (d + 1) K pc lv (.ref (llAd G c) :: rest) u (x0.bind kx) := by
  intro ok r hr hK
  refine J_callV (As := []) (rest := rest) (kx := fun _ a => kx a) hd hc hy hw hs hcl rfl rfl hrm (fun u' a e => ?_) ok r (llP_bind hr) hK
  have e := llP_eq e
  subst e
  exact k a
theorem J_callVi0 {y : MethodName} {cy : ByteArray} {ny idx : Nat} {ry : Option FieldType} {c ci : Nat} {ts : List Nat} {x0 : Option (llMem × Int32)} {kx : llMem → Int32 → Option ρ} (hd : decode cc pc = .ok (.invokevirtual idx, 3)) (hc : llCt (llL G) (llFx G) y cy ny ry d ([.ref (llAd G c)]) u llI x0) (hy : llYv y cy ny ry 0) (hw : Cond.methodLink own idx y ∈ llTb) (hs : llShp[c]? = some (.inr (ci, ts))) (hcl : (vwCl[ci]?).map (fun q => q.1) = some y.cls) (hrm : (rest.map fun v => v.category).sum ≤ 8) (k : ∀ u' a, llJ G own cc nL ret (d + 1) K (pc + 3) lv (.int a :: rest) u' (kx u' a)) : llJ G own cc nL ret (d + 1) K pc lv (.ref (llAd G c) :: rest) u (bd x0 kx) := J_callV (As := []) (rest := rest) hd hc hy hw hs hcl rfl rfl hrm (fun u' a _ => k u' a)
theorem J_callVip1 {y : MethodName} {cy : ByteArray} {ny idx : Nat} {ry : Option FieldType} {c ci : Nat} {ts : List Nat} {a0 : Value} {x0 : Option Int32} {kx : Int32 → Option ρ} (hd : decode cc pc = .ok (.invokevirtual idx, 3)) (hc : llCp (llL G) (llFx G) y cy ny ry d (.ref (llAd G c) :: [a0]) u llI x0) (hy : llYv y cy ny ry 1) (hw : Cond.methodLink own idx y ∈ llTb) (hs : llShp[c]? = some (.inr (ci, ts))) (hcl : (vwCl[ci]?).map (fun q => q.1) = some y.cls) (hrm : (rest.map fun v => v.category).sum ≤ 8) (k : ∀ a, llJ G own cc nL ret (d + 1) K (pc + 3) lv (.int a :: rest) u (kx a)) : llJ G own cc nL ret (d + 1) K pc lv (a0 :: .ref (llAd G c) :: rest) u (x0.bind kx) := by
  intro ok r hr hK
  refine J_callV (As := [a0]) (rest := rest) (kx := fun _ a => kx a) hd hc hy hw hs hcl rfl rfl hrm (fun u' a e => ?_) ok r (llP_bind hr) hK
  have e := llP_eq e
  subst e
  exact k a
theorem J_callVi1 {y : MethodName} {cy : ByteArray} {ny idx : Nat} {ry : Option FieldType} {c ci : Nat} {ts : List Nat} {a0 : Value} {x0 : Option (llMem × Int32)} {kx : llMem → Int32 → Option ρ} (hd : decode cc pc = .ok (.invokevirtual idx, 3)) (hc : llCt (llL G) (llFx G) y cy ny ry d (.ref (llAd G c) :: [a0]) u llI x0) (hy : llYv y cy ny ry 1) (hw : Cond.methodLink own idx y ∈ llTb) (hs : llShp[c]? = some (.inr (ci, ts))) (hcl : (vwCl[ci]?).map (fun q => q.1) = some y.cls) (hrm : (rest.map fun v => v.category).sum ≤ 8) (k : ∀ u' a, llJ G own cc nL ret (d + 1) K (pc + 3) lv (.int a :: rest) u' (kx u' a)) : llJ G own cc nL ret (d + 1) K pc lv (a0 :: .ref (llAd G c) :: rest) u (bd x0 kx) := J_callV (As := [a0]) (rest := rest) hd hc hy hw hs hcl rfl rfl hrm (fun u' a _ => k u' a)
theorem J_callVip2 {y : MethodName} {cy : ByteArray} {ny idx : Nat} {ry : Option FieldType} {c ci : Nat} {ts : List Nat} {a0 a1 : Value} {x0 : Option Int32} {kx : Int32 → Option ρ} (hd : decode cc pc = .ok (.invokevirtual idx, 3)) (hc : llCp (llL G) (llFx G) y cy ny ry d (.ref (llAd G c) :: [a0, a1]) u llI x0) (hy : llYv y cy ny ry 2) (hw : Cond.methodLink own idx y ∈ llTb) (hs : llShp[c]? = some (.inr (ci, ts))) (hcl : (vwCl[ci]?).map (fun q => q.1) = some y.cls) (hrm : (rest.map fun v => v.category).sum ≤ 8) (k : ∀ a, llJ G own cc nL ret (d + 1) K (pc + 3) lv (.int a :: rest) u (kx a)) : llJ G own cc nL ret (d + 1) K pc lv (a1 :: a0 :: .ref (llAd G c) :: rest) u (x0.bind kx) := by
  intro ok r hr hK
  refine J_callV (As := [a0, a1]) (rest := rest) (kx := fun _ a => kx a) hd hc hy hw hs hcl rfl rfl hrm (fun u' a e => ?_) ok r (llP_bind hr) hK
  have e := llP_eq e
  subst e
  exact k a
theorem J_callVi2 {y : MethodName} {cy : ByteArray} {ny idx : Nat} {ry : Option FieldType} {c ci : Nat} {ts : List Nat} {a0 a1 : Value} {x0 : Option (llMem × Int32)} {kx : llMem → Int32 → Option ρ} (hd : decode cc pc = .ok (.invokevirtual idx, 3)) (hc : llCt (llL G) (llFx G) y cy ny ry d (.ref (llAd G c) :: [a0, a1]) u llI x0) (hy : llYv y cy ny ry 2) (hw : Cond.methodLink own idx y ∈ llTb) (hs : llShp[c]? = some (.inr (ci, ts))) (hcl : (vwCl[ci]?).map (fun q => q.1) = some y.cls) (hrm : (rest.map fun v => v.category).sum ≤ 8) (k : ∀ u' a, llJ G own cc nL ret (d + 1) K (pc + 3) lv (.int a :: rest) u' (kx u' a)) : llJ G own cc nL ret (d + 1) K pc lv (a1 :: a0 :: .ref (llAd G c) :: rest) u (bd x0 kx) := J_callV (As := [a0, a1]) (rest := rest) hd hc hy hw hs hcl rfl rfl hrm (fun u' a _ => k u' a)
theorem J_callVip3 {y : MethodName} {cy : ByteArray} {ny idx : Nat} {ry : Option FieldType} {c ci : Nat} {ts : List Nat} {a0 a1 a2 : Value} {x0 : Option Int32} {kx : Int32 → Option ρ} (hd : decode cc pc = .ok (.invokevirtual idx, 3)) (hc : llCp (llL G) (llFx G) y cy ny ry d (.ref (llAd G c) :: [a0, a1, a2]) u llI x0) (hy : llYv y cy ny ry 3) (hw : Cond.methodLink own idx y ∈ llTb) (hs : llShp[c]? = some (.inr (ci, ts))) (hcl : (vwCl[ci]?).map (fun q => q.1) = some y.cls) (hrm : (rest.map fun v => v.category).sum ≤ 8) (k : ∀ a, llJ G own cc nL ret (d + 1) K (pc + 3) lv (.int a :: rest) u (kx a)) : llJ G own cc nL ret (d + 1) K pc lv (a2 :: a1 :: a0 :: .ref (llAd G c) :: rest) u (x0.bind kx) := by
  intro ok r hr hK
  refine J_callV (As := [a0, a1, a2]) (rest := rest) (kx := fun _ a => kx a) hd hc hy hw hs hcl rfl rfl hrm (fun u' a e => ?_) ok r (llP_bind hr) hK
  have e := llP_eq e
  subst e
  exact k a
theorem J_callVi3 {y : MethodName} {cy : ByteArray} {ny idx : Nat} {ry : Option FieldType} {c ci : Nat} {ts : List Nat} {a0 a1 a2 : Value} {x0 : Option (llMem × Int32)} {kx : llMem → Int32 → Option ρ} (hd : decode cc pc = .ok (.invokevirtual idx, 3)) (hc : llCt (llL G) (llFx G) y cy ny ry d (.ref (llAd G c) :: [a0, a1, a2]) u llI x0) (hy : llYv y cy ny ry 3) (hw : Cond.methodLink own idx y ∈ llTb) (hs : llShp[c]? = some (.inr (ci, ts))) (hcl : (vwCl[ci]?).map (fun q => q.1) = some y.cls) (hrm : (rest.map fun v => v.category).sum ≤ 8) (k : ∀ u' a, llJ G own cc nL ret (d + 1) K (pc + 3) lv (.int a :: rest) u' (kx u' a)) : llJ G own cc nL ret (d + 1) K pc lv (a2 :: a1 :: a0 :: .ref (llAd G c) :: rest) u (bd x0 kx) := J_callV (As := [a0, a1, a2]) (rest := rest) hd hc hy hw hs hcl rfl rfl hrm (fun u' a _ => k u' a)
theorem J_callVip4 {y : MethodName} {cy : ByteArray} {ny idx : Nat} {ry : Option FieldType} {c ci : Nat} {ts : List Nat} {a0 a1 a2 a3 : Value} {x0 : Option Int32} {kx : Int32 → Option ρ} (hd : decode cc pc = .ok (.invokevirtual idx, 3)) (hc : llCp (llL G) (llFx G) y cy ny ry d (.ref (llAd G c) :: [a0, a1, a2, a3]) u llI x0) (hy : llYv y cy ny ry 4) (hw : Cond.methodLink own idx y ∈ llTb) (hs : llShp[c]? = some (.inr (ci, ts))) (hcl : (vwCl[ci]?).map (fun q => q.1) = some y.cls) (hrm : (rest.map fun v => v.category).sum ≤ 8) (k : ∀ a, llJ G own cc nL ret (d + 1) K (pc + 3) lv (.int a :: rest) u (kx a)) : llJ G own cc nL ret (d + 1) K pc lv (a3 :: a2 :: a1 :: a0 :: .ref (llAd G c) :: rest) u (x0.bind kx) := by
  intro ok r hr hK
  refine J_callV (As := [a0, a1, a2, a3]) (rest := rest) (kx := fun _ a => kx a) hd hc hy hw hs hcl rfl rfl hrm (fun u' a e => ?_) ok r (llP_bind hr) hK
  have e := llP_eq e
  subst e
  exact k a
theorem J_callVi4 {y : MethodName} {cy : ByteArray} {ny idx : Nat} {ry : Option FieldType} {c ci : Nat} {ts : List Nat} {a0 a1 a2 a3 : Value} {x0 : Option (llMem × Int32)} {kx : llMem → Int32 → Option ρ} (hd : decode cc pc = .ok (.invokevirtual idx, 3)) (hc : llCt (llL G) (llFx G) y cy ny ry d (.ref (llAd G c) :: [a0, a1, a2, a3]) u llI x0) (hy : llYv y cy ny ry 4) (hw : Cond.methodLink own idx y ∈ llTb) (hs : llShp[c]? = some (.inr (ci, ts))) (hcl : (vwCl[ci]?).map (fun q => q.1) = some y.cls) (hrm : (rest.map fun v => v.category).sum ≤ 8) (k : ∀ u' a, llJ G own cc nL ret (d + 1) K (pc + 3) lv (.int a :: rest) u' (kx u' a)) : llJ G own cc nL ret (d + 1) K pc lv (a3 :: a2 :: a1 :: a0 :: .ref (llAd G c) :: rest) u (bd x0 kx) := J_callV (As := [a0, a1, a2, a3]) (rest := rest) hd hc hy hw hs hcl rfl rfl hrm (fun u' a _ => k u' a)
theorem J_callVip5 {y : MethodName} {cy : ByteArray} {ny idx : Nat} {ry : Option FieldType} {c ci : Nat} {ts : List Nat} {a0 a1 a2 a3 a4 : Value} {x0 : Option Int32} {kx : Int32 → Option ρ} (hd : decode cc pc = .ok (.invokevirtual idx, 3)) (hc : llCp (llL G) (llFx G) y cy ny ry d (.ref (llAd G c) :: [a0, a1, a2, a3, a4]) u llI x0) (hy : llYv y cy ny ry 5) (hw : Cond.methodLink own idx y ∈ llTb) (hs : llShp[c]? = some (.inr (ci, ts))) (hcl : (vwCl[ci]?).map (fun q => q.1) = some y.cls) (hrm : (rest.map fun v => v.category).sum ≤ 8) (k : ∀ a, llJ G own cc nL ret (d + 1) K (pc + 3) lv (.int a :: rest) u (kx a)) : llJ G own cc nL ret (d + 1) K pc lv (a4 :: a3 :: a2 :: a1 :: a0 :: .ref (llAd G c) :: rest) u (x0.bind kx) := by
  intro ok r hr hK
  refine J_callV (As := [a0, a1, a2, a3, a4]) (rest := rest) (kx := fun _ a => kx a) hd hc hy hw hs hcl rfl rfl hrm (fun u' a e => ?_) ok r (llP_bind hr) hK
  have e := llP_eq e
  subst e
  exact k a
theorem J_callVi5 {y : MethodName} {cy : ByteArray} {ny idx : Nat} {ry : Option FieldType} {c ci : Nat} {ts : List Nat} {a0 a1 a2 a3 a4 : Value} {x0 : Option (llMem × Int32)} {kx : llMem → Int32 → Option ρ} (hd : decode cc pc = .ok (.invokevirtual idx, 3)) (hc : llCt (llL G) (llFx G) y cy ny ry d (.ref (llAd G c) :: [a0, a1, a2, a3, a4]) u llI x0) (hy : llYv y cy ny ry 5) (hw : Cond.methodLink own idx y ∈ llTb) (hs : llShp[c]? = some (.inr (ci, ts))) (hcl : (vwCl[ci]?).map (fun q => q.1) = some y.cls) (hrm : (rest.map fun v => v.category).sum ≤ 8) (k : ∀ u' a, llJ G own cc nL ret (d + 1) K (pc + 3) lv (.int a :: rest) u' (kx u' a)) : llJ G own cc nL ret (d + 1) K pc lv (a4 :: a3 :: a2 :: a1 :: a0 :: .ref (llAd G c) :: rest) u (bd x0 kx) := J_callV (As := [a0, a1, a2, a3, a4]) (rest := rest) hd hc hy hw hs hcl rfl rfl hrm (fun u' a _ => k u' a)
theorem J_callVlp0 {y : MethodName} {cy : ByteArray} {ny idx : Nat} {ry : Option FieldType} {c ci : Nat} {ts : List Nat} {x0 : Option Int64} {kx : Int64 → Option ρ} (hd : decode cc pc = .ok (.invokevirtual idx, 3)) (hc : llCp (llL G) (llFx G) y cy ny ry d ([.ref (llAd G c)]) u llLg x0) (hy : llYv y cy ny ry 0) (hw : Cond.methodLink own idx y ∈ llTb) (hs : llShp[c]? = some (.inr (ci, ts))) (hcl : (vwCl[ci]?).map (fun q => q.1) = some y.cls) (hrm : (rest.map fun v => v.category).sum ≤ 8) (k : ∀ a, llJ G own cc nL ret (d + 1) K (pc + 3) lv (.long a :: rest) u (kx a)) : llJ G own cc nL ret (d + 1) K pc lv (.ref (llAd G c) :: rest) u (x0.bind kx) := by
  intro ok r hr hK
  refine J_callV (As := []) (rest := rest) (kx := fun _ a => kx a) hd hc hy hw hs hcl rfl rfl hrm (fun u' a e => ?_) ok r (llP_bind hr) hK
  have e := llP_eq e
  subst e
  exact k a
theorem J_callVl0 {y : MethodName} {cy : ByteArray} {ny idx : Nat} {ry : Option FieldType} {c ci : Nat} {ts : List Nat} {x0 : Option (llMem × Int64)} {kx : llMem → Int64 → Option ρ} (hd : decode cc pc = .ok (.invokevirtual idx, 3)) (hc : llCt (llL G) (llFx G) y cy ny ry d ([.ref (llAd G c)]) u llLg x0) (hy : llYv y cy ny ry 0) (hw : Cond.methodLink own idx y ∈ llTb) (hs : llShp[c]? = some (.inr (ci, ts))) (hcl : (vwCl[ci]?).map (fun q => q.1) = some y.cls) (hrm : (rest.map fun v => v.category).sum ≤ 8) (k : ∀ u' a, llJ G own cc nL ret (d + 1) K (pc + 3) lv (.long a :: rest) u' (kx u' a)) : llJ G own cc nL ret (d + 1) K pc lv (.ref (llAd G c) :: rest) u (bd x0 kx) := J_callV (As := []) (rest := rest) hd hc hy hw hs hcl rfl rfl hrm (fun u' a _ => k u' a)
theorem J_callVlp1 {y : MethodName} {cy : ByteArray} {ny idx : Nat} {ry : Option FieldType} {c ci : Nat} {ts : List Nat} {a0 : Value} {x0 : Option Int64} {kx : Int64 → Option ρ} (hd : decode cc pc = .ok (.invokevirtual idx, 3)) (hc : llCp (llL G) (llFx G) y cy ny ry d (.ref (llAd G c) :: [a0]) u llLg x0) (hy : llYv y cy ny ry 1) (hw : Cond.methodLink own idx y ∈ llTb) (hs : llShp[c]? = some (.inr (ci, ts))) (hcl : (vwCl[ci]?).map (fun q => q.1) = some y.cls) (hrm : (rest.map fun v => v.category).sum ≤ 8) (k : ∀ a, llJ G own cc nL ret (d + 1) K (pc + 3) lv (.long a :: rest) u (kx a)) : llJ G own cc nL ret (d + 1) K pc lv (a0 :: .ref (llAd G c) :: rest) u (x0.bind kx) := by
  intro ok r hr hK
  refine J_callV (As := [a0]) (rest := rest) (kx := fun _ a => kx a) hd hc hy hw hs hcl rfl rfl hrm (fun u' a e => ?_) ok r (llP_bind hr) hK
  have e := llP_eq e
  subst e
  exact k a
theorem J_callVl1 {y : MethodName} {cy : ByteArray} {ny idx : Nat} {ry : Option FieldType} {c ci : Nat} {ts : List Nat} {a0 : Value} {x0 : Option (llMem × Int64)} {kx : llMem → Int64 → Option ρ} (hd : decode cc pc = .ok (.invokevirtual idx, 3)) (hc : llCt (llL G) (llFx G) y cy ny ry d (.ref (llAd G c) :: [a0]) u llLg x0) (hy : llYv y cy ny ry 1) (hw : Cond.methodLink own idx y ∈ llTb) (hs : llShp[c]? = some (.inr (ci, ts))) (hcl : (vwCl[ci]?).map (fun q => q.1) = some y.cls) (hrm : (rest.map fun v => v.category).sum ≤ 8) (k : ∀ u' a, llJ G own cc nL ret (d + 1) K (pc + 3) lv (.long a :: rest) u' (kx u' a)) : llJ G own cc nL ret (d + 1) K pc lv (a0 :: .ref (llAd G c) :: rest) u (bd x0 kx) := J_callV (As := [a0]) (rest := rest) hd hc hy hw hs hcl rfl rfl hrm (fun u' a _ => k u' a)
theorem J_callVlp2 {y : MethodName} {cy : ByteArray} {ny idx : Nat} {ry : Option FieldType} {c ci : Nat} {ts : List Nat} {a0 a1 : Value} {x0 : Option Int64} {kx : Int64 → Option ρ} (hd : decode cc pc = .ok (.invokevirtual idx, 3)) (hc : llCp (llL G) (llFx G) y cy ny ry d (.ref (llAd G c) :: [a0, a1]) u llLg x0) (hy : llYv y cy ny ry 2) (hw : Cond.methodLink own idx y ∈ llTb) (hs : llShp[c]? = some (.inr (ci, ts))) (hcl : (vwCl[ci]?).map (fun q => q.1) = some y.cls) (hrm : (rest.map fun v => v.category).sum ≤ 8) (k : ∀ a, llJ G own cc nL ret (d + 1) K (pc + 3) lv (.long a :: rest) u (kx a)) : llJ G own cc nL ret (d + 1) K pc lv (a1 :: a0 :: .ref (llAd G c) :: rest) u (x0.bind kx) := by
  intro ok r hr hK
  refine J_callV (As := [a0, a1]) (rest := rest) (kx := fun _ a => kx a) hd hc hy hw hs hcl rfl rfl hrm (fun u' a e => ?_) ok r (llP_bind hr) hK
  have e := llP_eq e
  subst e
  exact k a
theorem J_callVl2 {y : MethodName} {cy : ByteArray} {ny idx : Nat} {ry : Option FieldType} {c ci : Nat} {ts : List Nat} {a0 a1 : Value} {x0 : Option (llMem × Int64)} {kx : llMem → Int64 → Option ρ} (hd : decode cc pc = .ok (.invokevirtual idx, 3)) (hc : llCt (llL G) (llFx G) y cy ny ry d (.ref (llAd G c) :: [a0, a1]) u llLg x0) (hy : llYv y cy ny ry 2) (hw : Cond.methodLink own idx y ∈ llTb) (hs : llShp[c]? = some (.inr (ci, ts))) (hcl : (vwCl[ci]?).map (fun q => q.1) = some y.cls) (hrm : (rest.map fun v => v.category).sum ≤ 8) (k : ∀ u' a, llJ G own cc nL ret (d + 1) K (pc + 3) lv (.long a :: rest) u' (kx u' a)) : llJ G own cc nL ret (d + 1) K pc lv (a1 :: a0 :: .ref (llAd G c) :: rest) u (bd x0 kx) := J_callV (As := [a0, a1]) (rest := rest) hd hc hy hw hs hcl rfl rfl hrm (fun u' a _ => k u' a)
theorem J_callVlp3 {y : MethodName} {cy : ByteArray} {ny idx : Nat} {ry : Option FieldType} {c ci : Nat} {ts : List Nat} {a0 a1 a2 : Value} {x0 : Option Int64} {kx : Int64 → Option ρ} (hd : decode cc pc = .ok (.invokevirtual idx, 3)) (hc : llCp (llL G) (llFx G) y cy ny ry d (.ref (llAd G c) :: [a0, a1, a2]) u llLg x0) (hy : llYv y cy ny ry 3) (hw : Cond.methodLink own idx y ∈ llTb) (hs : llShp[c]? = some (.inr (ci, ts))) (hcl : (vwCl[ci]?).map (fun q => q.1) = some y.cls) (hrm : (rest.map fun v => v.category).sum ≤ 8) (k : ∀ a, llJ G own cc nL ret (d + 1) K (pc + 3) lv (.long a :: rest) u (kx a)) : llJ G own cc nL ret (d + 1) K pc lv (a2 :: a1 :: a0 :: .ref (llAd G c) :: rest) u (x0.bind kx) := by
  intro ok r hr hK
  refine J_callV (As := [a0, a1, a2]) (rest := rest) (kx := fun _ a => kx a) hd hc hy hw hs hcl rfl rfl hrm (fun u' a e => ?_) ok r (llP_bind hr) hK
  have e := llP_eq e
  subst e
  exact k a
theorem J_callVl3 {y : MethodName} {cy : ByteArray} {ny idx : Nat} {ry : Option FieldType} {c ci : Nat} {ts : List Nat} {a0 a1 a2 : Value} {x0 : Option (llMem × Int64)} {kx : llMem → Int64 → Option ρ} (hd : decode cc pc = .ok (.invokevirtual idx, 3)) (hc : llCt (llL G) (llFx G) y cy ny ry d (.ref (llAd G c) :: [a0, a1, a2]) u llLg x0) (hy : llYv y cy ny ry 3) (hw : Cond.methodLink own idx y ∈ llTb) (hs : llShp[c]? = some (.inr (ci, ts))) (hcl : (vwCl[ci]?).map (fun q => q.1) = some y.cls) (hrm : (rest.map fun v => v.category).sum ≤ 8) (k : ∀ u' a, llJ G own cc nL ret (d + 1) K (pc + 3) lv (.long a :: rest) u' (kx u' a)) : llJ G own cc nL ret (d + 1) K pc lv (a2 :: a1 :: a0 :: .ref (llAd G c) :: rest) u (bd x0 kx) := J_callV (As := [a0, a1, a2]) (rest := rest) hd hc hy hw hs hcl rfl rfl hrm (fun u' a _ => k u' a)
theorem J_callVlp4 {y : MethodName} {cy : ByteArray} {ny idx : Nat} {ry : Option FieldType} {c ci : Nat} {ts : List Nat} {a0 a1 a2 a3 : Value} {x0 : Option Int64} {kx : Int64 → Option ρ} (hd : decode cc pc = .ok (.invokevirtual idx, 3)) (hc : llCp (llL G) (llFx G) y cy ny ry d (.ref (llAd G c) :: [a0, a1, a2, a3]) u llLg x0) (hy : llYv y cy ny ry 4) (hw : Cond.methodLink own idx y ∈ llTb) (hs : llShp[c]? = some (.inr (ci, ts))) (hcl : (vwCl[ci]?).map (fun q => q.1) = some y.cls) (hrm : (rest.map fun v => v.category).sum ≤ 8) (k : ∀ a, llJ G own cc nL ret (d + 1) K (pc + 3) lv (.long a :: rest) u (kx a)) : llJ G own cc nL ret (d + 1) K pc lv (a3 :: a2 :: a1 :: a0 :: .ref (llAd G c) :: rest) u (x0.bind kx) := by
  intro ok r hr hK
  refine J_callV (As := [a0, a1, a2, a3]) (rest := rest) (kx := fun _ a => kx a) hd hc hy hw hs hcl rfl rfl hrm (fun u' a e => ?_) ok r (llP_bind hr) hK
  have e := llP_eq e
  subst e
  exact k a
theorem J_callVl4 {y : MethodName} {cy : ByteArray} {ny idx : Nat} {ry : Option FieldType} {c ci : Nat} {ts : List Nat} {a0 a1 a2 a3 : Value} {x0 : Option (llMem × Int64)} {kx : llMem → Int64 → Option ρ} (hd : decode cc pc = .ok (.invokevirtual idx, 3)) (hc : llCt (llL G) (llFx G) y cy ny ry d (.ref (llAd G c) :: [a0, a1, a2, a3]) u llLg x0) (hy : llYv y cy ny ry 4) (hw : Cond.methodLink own idx y ∈ llTb) (hs : llShp[c]? = some (.inr (ci, ts))) (hcl : (vwCl[ci]?).map (fun q => q.1) = some y.cls) (hrm : (rest.map fun v => v.category).sum ≤ 8) (k : ∀ u' a, llJ G own cc nL ret (d + 1) K (pc + 3) lv (.long a :: rest) u' (kx u' a)) : llJ G own cc nL ret (d + 1) K pc lv (a3 :: a2 :: a1 :: a0 :: .ref (llAd G c) :: rest) u (bd x0 kx) := J_callV (As := [a0, a1, a2, a3]) (rest := rest) hd hc hy hw hs hcl rfl rfl hrm (fun u' a _ => k u' a)
theorem J_callVlp5 {y : MethodName} {cy : ByteArray} {ny idx : Nat} {ry : Option FieldType} {c ci : Nat} {ts : List Nat} {a0 a1 a2 a3 a4 : Value} {x0 : Option Int64} {kx : Int64 → Option ρ} (hd : decode cc pc = .ok (.invokevirtual idx, 3)) (hc : llCp (llL G) (llFx G) y cy ny ry d (.ref (llAd G c) :: [a0, a1, a2, a3, a4]) u llLg x0) (hy : llYv y cy ny ry 5) (hw : Cond.methodLink own idx y ∈ llTb) (hs : llShp[c]? = some (.inr (ci, ts))) (hcl : (vwCl[ci]?).map (fun q => q.1) = some y.cls) (hrm : (rest.map fun v => v.category).sum ≤ 8) (k : ∀ a, llJ G own cc nL ret (d + 1) K (pc + 3) lv (.long a :: rest) u (kx a)) : llJ G own cc nL ret (d + 1) K pc lv (a4 :: a3 :: a2 :: a1 :: a0 :: .ref (llAd G c) :: rest) u (x0.bind kx) := by
  intro ok r hr hK
  refine J_callV (As := [a0, a1, a2, a3, a4]) (rest := rest) (kx := fun _ a => kx a) hd hc hy hw hs hcl rfl rfl hrm (fun u' a e => ?_) ok r (llP_bind hr) hK
  have e := llP_eq e
  subst e
  exact k a
theorem J_callVl5 {y : MethodName} {cy : ByteArray} {ny idx : Nat} {ry : Option FieldType} {c ci : Nat} {ts : List Nat} {a0 a1 a2 a3 a4 : Value} {x0 : Option (llMem × Int64)} {kx : llMem → Int64 → Option ρ} (hd : decode cc pc = .ok (.invokevirtual idx, 3)) (hc : llCt (llL G) (llFx G) y cy ny ry d (.ref (llAd G c) :: [a0, a1, a2, a3, a4]) u llLg x0) (hy : llYv y cy ny ry 5) (hw : Cond.methodLink own idx y ∈ llTb) (hs : llShp[c]? = some (.inr (ci, ts))) (hcl : (vwCl[ci]?).map (fun q => q.1) = some y.cls) (hrm : (rest.map fun v => v.category).sum ≤ 8) (k : ∀ u' a, llJ G own cc nL ret (d + 1) K (pc + 3) lv (.long a :: rest) u' (kx u' a)) : llJ G own cc nL ret (d + 1) K pc lv (a4 :: a3 :: a2 :: a1 :: a0 :: .ref (llAd G c) :: rest) u (bd x0 kx) := J_callV (As := [a0, a1, a2, a3, a4]) (rest := rest) hd hc hy hw hs hcl rfl rfl hrm (fun u' a _ => k u' a)
theorem J_callVfp0 {y : MethodName} {cy : ByteArray} {ny idx : Nat} {ry : Option FieldType} {c ci : Nat} {ts : List Nat} {x0 : Option UInt32} {kx : UInt32 → Option ρ} (hd : decode cc pc = .ok (.invokevirtual idx, 3)) (hc : llCp (llL G) (llFx G) y cy ny ry d ([.ref (llAd G c)]) u llFl x0) (hy : llYv y cy ny ry 0) (hw : Cond.methodLink own idx y ∈ llTb) (hs : llShp[c]? = some (.inr (ci, ts))) (hcl : (vwCl[ci]?).map (fun q => q.1) = some y.cls) (hrm : (rest.map fun v => v.category).sum ≤ 8) (k : ∀ a, llJ G own cc nL ret (d + 1) K (pc + 3) lv (.float a :: rest) u (kx a)) : llJ G own cc nL ret (d + 1) K pc lv (.ref (llAd G c) :: rest) u (x0.bind kx) := by
  intro ok r hr hK
  refine J_callV (As := []) (rest := rest) (kx := fun _ a => kx a) hd hc hy hw hs hcl rfl rfl hrm (fun u' a e => ?_) ok r (llP_bind hr) hK
  have e := llP_eq e
  subst e
  exact k a
theorem J_callVf0 {y : MethodName} {cy : ByteArray} {ny idx : Nat} {ry : Option FieldType} {c ci : Nat} {ts : List Nat} {x0 : Option (llMem × UInt32)} {kx : llMem → UInt32 → Option ρ} (hd : decode cc pc = .ok (.invokevirtual idx, 3)) (hc : llCt (llL G) (llFx G) y cy ny ry d ([.ref (llAd G c)]) u llFl x0) (hy : llYv y cy ny ry 0) (hw : Cond.methodLink own idx y ∈ llTb) (hs : llShp[c]? = some (.inr (ci, ts))) (hcl : (vwCl[ci]?).map (fun q => q.1) = some y.cls) (hrm : (rest.map fun v => v.category).sum ≤ 8) (k : ∀ u' a, llJ G own cc nL ret (d + 1) K (pc + 3) lv (.float a :: rest) u' (kx u' a)) : llJ G own cc nL ret (d + 1) K pc lv (.ref (llAd G c) :: rest) u (bd x0 kx) := J_callV (As := []) (rest := rest) hd hc hy hw hs hcl rfl rfl hrm (fun u' a _ => k u' a)
theorem J_callVfp1 {y : MethodName} {cy : ByteArray} {ny idx : Nat} {ry : Option FieldType} {c ci : Nat} {ts : List Nat} {a0 : Value} {x0 : Option UInt32} {kx : UInt32 → Option ρ} (hd : decode cc pc = .ok (.invokevirtual idx, 3)) (hc : llCp (llL G) (llFx G) y cy ny ry d (.ref (llAd G c) :: [a0]) u llFl x0) (hy : llYv y cy ny ry 1) (hw : Cond.methodLink own idx y ∈ llTb) (hs : llShp[c]? = some (.inr (ci, ts))) (hcl : (vwCl[ci]?).map (fun q => q.1) = some y.cls) (hrm : (rest.map fun v => v.category).sum ≤ 8) (k : ∀ a, llJ G own cc nL ret (d + 1) K (pc + 3) lv (.float a :: rest) u (kx a)) : llJ G own cc nL ret (d + 1) K pc lv (a0 :: .ref (llAd G c) :: rest) u (x0.bind kx) := by
  intro ok r hr hK
  refine J_callV (As := [a0]) (rest := rest) (kx := fun _ a => kx a) hd hc hy hw hs hcl rfl rfl hrm (fun u' a e => ?_) ok r (llP_bind hr) hK
  have e := llP_eq e
  subst e
  exact k a
theorem J_callVf1 {y : MethodName} {cy : ByteArray} {ny idx : Nat} {ry : Option FieldType} {c ci : Nat} {ts : List Nat} {a0 : Value} {x0 : Option (llMem × UInt32)} {kx : llMem → UInt32 → Option ρ} (hd : decode cc pc = .ok (.invokevirtual idx, 3)) (hc : llCt (llL G) (llFx G) y cy ny ry d (.ref (llAd G c) :: [a0]) u llFl x0) (hy : llYv y cy ny ry 1) (hw : Cond.methodLink own idx y ∈ llTb) (hs : llShp[c]? = some (.inr (ci, ts))) (hcl : (vwCl[ci]?).map (fun q => q.1) = some y.cls) (hrm : (rest.map fun v => v.category).sum ≤ 8) (k : ∀ u' a, llJ G own cc nL ret (d + 1) K (pc + 3) lv (.float a :: rest) u' (kx u' a)) : llJ G own cc nL ret (d + 1) K pc lv (a0 :: .ref (llAd G c) :: rest) u (bd x0 kx) := J_callV (As := [a0]) (rest := rest) hd hc hy hw hs hcl rfl rfl hrm (fun u' a _ => k u' a)
theorem J_callVfp2 {y : MethodName} {cy : ByteArray} {ny idx : Nat} {ry : Option FieldType} {c ci : Nat} {ts : List Nat} {a0 a1 : Value} {x0 : Option UInt32} {kx : UInt32 → Option ρ} (hd : decode cc pc = .ok (.invokevirtual idx, 3)) (hc : llCp (llL G) (llFx G) y cy ny ry d (.ref (llAd G c) :: [a0, a1]) u llFl x0) (hy : llYv y cy ny ry 2) (hw : Cond.methodLink own idx y ∈ llTb) (hs : llShp[c]? = some (.inr (ci, ts))) (hcl : (vwCl[ci]?).map (fun q => q.1) = some y.cls) (hrm : (rest.map fun v => v.category).sum ≤ 8) (k : ∀ a, llJ G own cc nL ret (d + 1) K (pc + 3) lv (.float a :: rest) u (kx a)) : llJ G own cc nL ret (d + 1) K pc lv (a1 :: a0 :: .ref (llAd G c) :: rest) u (x0.bind kx) := by
  intro ok r hr hK
  refine J_callV (As := [a0, a1]) (rest := rest) (kx := fun _ a => kx a) hd hc hy hw hs hcl rfl rfl hrm (fun u' a e => ?_) ok r (llP_bind hr) hK
  have e := llP_eq e
  subst e
  exact k a
theorem J_callVf2 {y : MethodName} {cy : ByteArray} {ny idx : Nat} {ry : Option FieldType} {c ci : Nat} {ts : List Nat} {a0 a1 : Value} {x0 : Option (llMem × UInt32)} {kx : llMem → UInt32 → Option ρ} (hd : decode cc pc = .ok (.invokevirtual idx, 3)) (hc : llCt (llL G) (llFx G) y cy ny ry d (.ref (llAd G c) :: [a0, a1]) u llFl x0) (hy : llYv y cy ny ry 2) (hw : Cond.methodLink own idx y ∈ llTb) (hs : llShp[c]? = some (.inr (ci, ts))) (hcl : (vwCl[ci]?).map (fun q => q.1) = some y.cls) (hrm : (rest.map fun v => v.category).sum ≤ 8) (k : ∀ u' a, llJ G own cc nL ret (d + 1) K (pc + 3) lv (.float a :: rest) u' (kx u' a)) : llJ G own cc nL ret (d + 1) K pc lv (a1 :: a0 :: .ref (llAd G c) :: rest) u (bd x0 kx) := J_callV (As := [a0, a1]) (rest := rest) hd hc hy hw hs hcl rfl rfl hrm (fun u' a _ => k u' a)
theorem J_callVv0 {y : MethodName} {cy : ByteArray} {ny idx : Nat} {ry : Option FieldType} {c ci : Nat} {ts : List Nat} {x0 : Option (llMem × Unit)} {kx : llMem → Unit → Option ρ} (hd : decode cc pc = .ok (.invokevirtual idx, 3)) (hc : llCt (llL G) (llFx G) y cy ny ry d ([.ref (llAd G c)]) u llVd x0) (hy : llYv y cy ny ry 0) (hw : Cond.methodLink own idx y ∈ llTb) (hs : llShp[c]? = some (.inr (ci, ts))) (hcl : (vwCl[ci]?).map (fun q => q.1) = some y.cls) (hrm : (rest.map fun v => v.category).sum ≤ 8) (k : ∀ u', llJ G own cc nL ret (d + 1) K (pc + 3) lv (rest) u' (kx u' ())) : llJ G own cc nL ret (d + 1) K pc lv (.ref (llAd G c) :: rest) u (bd x0 kx) := J_callV (As := []) (rest := rest) hd hc hy hw hs hcl rfl rfl hrm (fun u' _ _ => k u')
theorem J_callVv1 {y : MethodName} {cy : ByteArray} {ny idx : Nat} {ry : Option FieldType} {c ci : Nat} {ts : List Nat} {a0 : Value} {x0 : Option (llMem × Unit)} {kx : llMem → Unit → Option ρ} (hd : decode cc pc = .ok (.invokevirtual idx, 3)) (hc : llCt (llL G) (llFx G) y cy ny ry d (.ref (llAd G c) :: [a0]) u llVd x0) (hy : llYv y cy ny ry 1) (hw : Cond.methodLink own idx y ∈ llTb) (hs : llShp[c]? = some (.inr (ci, ts))) (hcl : (vwCl[ci]?).map (fun q => q.1) = some y.cls) (hrm : (rest.map fun v => v.category).sum ≤ 8) (k : ∀ u', llJ G own cc nL ret (d + 1) K (pc + 3) lv (rest) u' (kx u' ())) : llJ G own cc nL ret (d + 1) K pc lv (a0 :: .ref (llAd G c) :: rest) u (bd x0 kx) := J_callV (As := [a0]) (rest := rest) hd hc hy hw hs hcl rfl rfl hrm (fun u' _ _ => k u')
theorem J_callVv2 {y : MethodName} {cy : ByteArray} {ny idx : Nat} {ry : Option FieldType} {c ci : Nat} {ts : List Nat} {a0 a1 : Value} {x0 : Option (llMem × Unit)} {kx : llMem → Unit → Option ρ} (hd : decode cc pc = .ok (.invokevirtual idx, 3)) (hc : llCt (llL G) (llFx G) y cy ny ry d (.ref (llAd G c) :: [a0, a1]) u llVd x0) (hy : llYv y cy ny ry 2) (hw : Cond.methodLink own idx y ∈ llTb) (hs : llShp[c]? = some (.inr (ci, ts))) (hcl : (vwCl[ci]?).map (fun q => q.1) = some y.cls) (hrm : (rest.map fun v => v.category).sum ≤ 8) (k : ∀ u', llJ G own cc nL ret (d + 1) K (pc + 3) lv (rest) u' (kx u' ())) : llJ G own cc nL ret (d + 1) K pc lv (a1 :: a0 :: .ref (llAd G c) :: rest) u (bd x0 kx) := J_callV (As := [a0, a1]) (rest := rest) hd hc hy hw hs hcl rfl rfl hrm (fun u' _ _ => k u')
theorem J_callVv3 {y : MethodName} {cy : ByteArray} {ny idx : Nat} {ry : Option FieldType} {c ci : Nat} {ts : List Nat} {a0 a1 a2 : Value} {x0 : Option (llMem × Unit)} {kx : llMem → Unit → Option ρ} (hd : decode cc pc = .ok (.invokevirtual idx, 3)) (hc : llCt (llL G) (llFx G) y cy ny ry d (.ref (llAd G c) :: [a0, a1, a2]) u llVd x0) (hy : llYv y cy ny ry 3) (hw : Cond.methodLink own idx y ∈ llTb) (hs : llShp[c]? = some (.inr (ci, ts))) (hcl : (vwCl[ci]?).map (fun q => q.1) = some y.cls) (hrm : (rest.map fun v => v.category).sum ≤ 8) (k : ∀ u', llJ G own cc nL ret (d + 1) K (pc + 3) lv (rest) u' (kx u' ())) : llJ G own cc nL ret (d + 1) K pc lv (a2 :: a1 :: a0 :: .ref (llAd G c) :: rest) u (bd x0 kx) := J_callV (As := [a0, a1, a2]) (rest := rest) hd hc hy hw hs hcl rfl rfl hrm (fun u' _ _ => k u')
theorem J_callVv4 {y : MethodName} {cy : ByteArray} {ny idx : Nat} {ry : Option FieldType} {c ci : Nat} {ts : List Nat} {a0 a1 a2 a3 : Value} {x0 : Option (llMem × Unit)} {kx : llMem → Unit → Option ρ} (hd : decode cc pc = .ok (.invokevirtual idx, 3)) (hc : llCt (llL G) (llFx G) y cy ny ry d (.ref (llAd G c) :: [a0, a1, a2, a3]) u llVd x0) (hy : llYv y cy ny ry 4) (hw : Cond.methodLink own idx y ∈ llTb) (hs : llShp[c]? = some (.inr (ci, ts))) (hcl : (vwCl[ci]?).map (fun q => q.1) = some y.cls) (hrm : (rest.map fun v => v.category).sum ≤ 8) (k : ∀ u', llJ G own cc nL ret (d + 1) K (pc + 3) lv (rest) u' (kx u' ())) : llJ G own cc nL ret (d + 1) K pc lv (a3 :: a2 :: a1 :: a0 :: .ref (llAd G c) :: rest) u (bd x0 kx) := J_callV (As := [a0, a1, a2, a3]) (rest := rest) hd hc hy hw hs hcl rfl rfl hrm (fun u' _ _ => k u')
theorem J_callVv5 {y : MethodName} {cy : ByteArray} {ny idx : Nat} {ry : Option FieldType} {c ci : Nat} {ts : List Nat} {a0 a1 a2 a3 a4 : Value} {x0 : Option (llMem × Unit)} {kx : llMem → Unit → Option ρ} (hd : decode cc pc = .ok (.invokevirtual idx, 3)) (hc : llCt (llL G) (llFx G) y cy ny ry d (.ref (llAd G c) :: [a0, a1, a2, a3, a4]) u llVd x0) (hy : llYv y cy ny ry 5) (hw : Cond.methodLink own idx y ∈ llTb) (hs : llShp[c]? = some (.inr (ci, ts))) (hcl : (vwCl[ci]?).map (fun q => q.1) = some y.cls) (hrm : (rest.map fun v => v.category).sum ≤ 8) (k : ∀ u', llJ G own cc nL ret (d + 1) K (pc + 3) lv (rest) u' (kx u' ())) : llJ G own cc nL ret (d + 1) K pc lv (a4 :: a3 :: a2 :: a1 :: a0 :: .ref (llAd G c) :: rest) u (bd x0 kx) := J_callV (As := [a0, a1, a2, a3, a4]) (rest := rest) hd hc hy hw hs hcl rfl rfl hrm (fun u' _ _ => k u')
theorem J_callSip0 {y : MethodName} {cy : ByteArray} {ny idx : Nat} {ry : Option FieldType} {x0 : Option Int32} {kx : Int32 → Option ρ} (hd : decode cc pc = .ok (.invokestatic idx, 3)) (hc : llCp (llL G) (llFx G) y cy ny ry d ([]) u llI x0) (hy : llYs y cy ny ry 0) (hw : Cond.methodLink own idx y ∈ llTb) (hrm : (rest.map fun v => v.category).sum ≤ 8) (k : ∀ a, llJ G own cc nL ret (d + 1) K (pc + 3) lv (.int a :: rest) u (kx a)) : llJ G own cc nL ret (d + 1) K pc lv (rest) u (x0.bind kx) := by
  intro ok r hr hK
  refine J_callS (As := []) (rest := rest) (kx := fun _ a => kx a) hd hc hy hw rfl rfl hrm (fun u' a e => ?_) ok r (llP_bind hr) hK
  have e := llP_eq e
  subst e
  exact k a
theorem J_callSi0 {y : MethodName} {cy : ByteArray} {ny idx : Nat} {ry : Option FieldType} {x0 : Option (llMem × Int32)} {kx : llMem → Int32 → Option ρ} (hd : decode cc pc = .ok (.invokestatic idx, 3)) (hc : llCt (llL G) (llFx G) y cy ny ry d ([]) u llI x0) (hy : llYs y cy ny ry 0) (hw : Cond.methodLink own idx y ∈ llTb) (hrm : (rest.map fun v => v.category).sum ≤ 8) (k : ∀ u' a, llJ G own cc nL ret (d + 1) K (pc + 3) lv (.int a :: rest) u' (kx u' a)) : llJ G own cc nL ret (d + 1) K pc lv (rest) u (bd x0 kx) := J_callS (As := []) (rest := rest) hd hc hy hw rfl rfl hrm (fun u' a _ => k u' a)
theorem J_callSip1 {y : MethodName} {cy : ByteArray} {ny idx : Nat} {ry : Option FieldType} {a0 : Value} {x0 : Option Int32} {kx : Int32 → Option ρ} (hd : decode cc pc = .ok (.invokestatic idx, 3)) (hc : llCp (llL G) (llFx G) y cy ny ry d ([a0]) u llI x0) (hy : llYs y cy ny ry 1) (hw : Cond.methodLink own idx y ∈ llTb) (hrm : (rest.map fun v => v.category).sum ≤ 8) (k : ∀ a, llJ G own cc nL ret (d + 1) K (pc + 3) lv (.int a :: rest) u (kx a)) : llJ G own cc nL ret (d + 1) K pc lv (a0 :: rest) u (x0.bind kx) := by
  intro ok r hr hK
  refine J_callS (As := [a0]) (rest := rest) (kx := fun _ a => kx a) hd hc hy hw rfl rfl hrm (fun u' a e => ?_) ok r (llP_bind hr) hK
  have e := llP_eq e
  subst e
  exact k a
theorem J_callSi1 {y : MethodName} {cy : ByteArray} {ny idx : Nat} {ry : Option FieldType} {a0 : Value} {x0 : Option (llMem × Int32)} {kx : llMem → Int32 → Option ρ} (hd : decode cc pc = .ok (.invokestatic idx, 3)) (hc : llCt (llL G) (llFx G) y cy ny ry d ([a0]) u llI x0) (hy : llYs y cy ny ry 1) (hw : Cond.methodLink own idx y ∈ llTb) (hrm : (rest.map fun v => v.category).sum ≤ 8) (k : ∀ u' a, llJ G own cc nL ret (d + 1) K (pc + 3) lv (.int a :: rest) u' (kx u' a)) : llJ G own cc nL ret (d + 1) K pc lv (a0 :: rest) u (bd x0 kx) := J_callS (As := [a0]) (rest := rest) hd hc hy hw rfl rfl hrm (fun u' a _ => k u' a)
theorem J_callSip2 {y : MethodName} {cy : ByteArray} {ny idx : Nat} {ry : Option FieldType} {a0 a1 : Value} {x0 : Option Int32} {kx : Int32 → Option ρ} (hd : decode cc pc = .ok (.invokestatic idx, 3)) (hc : llCp (llL G) (llFx G) y cy ny ry d ([a0, a1]) u llI x0) (hy : llYs y cy ny ry 2) (hw : Cond.methodLink own idx y ∈ llTb) (hrm : (rest.map fun v => v.category).sum ≤ 8) (k : ∀ a, llJ G own cc nL ret (d + 1) K (pc + 3) lv (.int a :: rest) u (kx a)) : llJ G own cc nL ret (d + 1) K pc lv (a1 :: a0 :: rest) u (x0.bind kx) := by
  intro ok r hr hK
  refine J_callS (As := [a0, a1]) (rest := rest) (kx := fun _ a => kx a) hd hc hy hw rfl rfl hrm (fun u' a e => ?_) ok r (llP_bind hr) hK
  have e := llP_eq e
  subst e
  exact k a
theorem J_callSi2 {y : MethodName} {cy : ByteArray} {ny idx : Nat} {ry : Option FieldType} {a0 a1 : Value} {x0 : Option (llMem × Int32)} {kx : llMem → Int32 → Option ρ} (hd : decode cc pc = .ok (.invokestatic idx, 3)) (hc : llCt (llL G) (llFx G) y cy ny ry d ([a0, a1]) u llI x0) (hy : llYs y cy ny ry 2) (hw : Cond.methodLink own idx y ∈ llTb) (hrm : (rest.map fun v => v.category).sum ≤ 8) (k : ∀ u' a, llJ G own cc nL ret (d + 1) K (pc + 3) lv (.int a :: rest) u' (kx u' a)) : llJ G own cc nL ret (d + 1) K pc lv (a1 :: a0 :: rest) u (bd x0 kx) := J_callS (As := [a0, a1]) (rest := rest) hd hc hy hw rfl rfl hrm (fun u' a _ => k u' a)
theorem J_callSip3 {y : MethodName} {cy : ByteArray} {ny idx : Nat} {ry : Option FieldType} {a0 a1 a2 : Value} {x0 : Option Int32} {kx : Int32 → Option ρ} (hd : decode cc pc = .ok (.invokestatic idx, 3)) (hc : llCp (llL G) (llFx G) y cy ny ry d ([a0, a1, a2]) u llI x0) (hy : llYs y cy ny ry 3) (hw : Cond.methodLink own idx y ∈ llTb) (hrm : (rest.map fun v => v.category).sum ≤ 8) (k : ∀ a, llJ G own cc nL ret (d + 1) K (pc + 3) lv (.int a :: rest) u (kx a)) : llJ G own cc nL ret (d + 1) K pc lv (a2 :: a1 :: a0 :: rest) u (x0.bind kx) := by
  intro ok r hr hK
  refine J_callS (As := [a0, a1, a2]) (rest := rest) (kx := fun _ a => kx a) hd hc hy hw rfl rfl hrm (fun u' a e => ?_) ok r (llP_bind hr) hK
  have e := llP_eq e
  subst e
  exact k a
theorem J_callSi3 {y : MethodName} {cy : ByteArray} {ny idx : Nat} {ry : Option FieldType} {a0 a1 a2 : Value} {x0 : Option (llMem × Int32)} {kx : llMem → Int32 → Option ρ} (hd : decode cc pc = .ok (.invokestatic idx, 3)) (hc : llCt (llL G) (llFx G) y cy ny ry d ([a0, a1, a2]) u llI x0) (hy : llYs y cy ny ry 3) (hw : Cond.methodLink own idx y ∈ llTb) (hrm : (rest.map fun v => v.category).sum ≤ 8) (k : ∀ u' a, llJ G own cc nL ret (d + 1) K (pc + 3) lv (.int a :: rest) u' (kx u' a)) : llJ G own cc nL ret (d + 1) K pc lv (a2 :: a1 :: a0 :: rest) u (bd x0 kx) := J_callS (As := [a0, a1, a2]) (rest := rest) hd hc hy hw rfl rfl hrm (fun u' a _ => k u' a)
theorem J_callSip4 {y : MethodName} {cy : ByteArray} {ny idx : Nat} {ry : Option FieldType} {a0 a1 a2 a3 : Value} {x0 : Option Int32} {kx : Int32 → Option ρ} (hd : decode cc pc = .ok (.invokestatic idx, 3)) (hc : llCp (llL G) (llFx G) y cy ny ry d ([a0, a1, a2, a3]) u llI x0) (hy : llYs y cy ny ry 4) (hw : Cond.methodLink own idx y ∈ llTb) (hrm : (rest.map fun v => v.category).sum ≤ 8) (k : ∀ a, llJ G own cc nL ret (d + 1) K (pc + 3) lv (.int a :: rest) u (kx a)) : llJ G own cc nL ret (d + 1) K pc lv (a3 :: a2 :: a1 :: a0 :: rest) u (x0.bind kx) := by
  intro ok r hr hK
  refine J_callS (As := [a0, a1, a2, a3]) (rest := rest) (kx := fun _ a => kx a) hd hc hy hw rfl rfl hrm (fun u' a e => ?_) ok r (llP_bind hr) hK
  have e := llP_eq e
  subst e
  exact k a
theorem J_callSi4 {y : MethodName} {cy : ByteArray} {ny idx : Nat} {ry : Option FieldType} {a0 a1 a2 a3 : Value} {x0 : Option (llMem × Int32)} {kx : llMem → Int32 → Option ρ} (hd : decode cc pc = .ok (.invokestatic idx, 3)) (hc : llCt (llL G) (llFx G) y cy ny ry d ([a0, a1, a2, a3]) u llI x0) (hy : llYs y cy ny ry 4) (hw : Cond.methodLink own idx y ∈ llTb) (hrm : (rest.map fun v => v.category).sum ≤ 8) (k : ∀ u' a, llJ G own cc nL ret (d + 1) K (pc + 3) lv (.int a :: rest) u' (kx u' a)) : llJ G own cc nL ret (d + 1) K pc lv (a3 :: a2 :: a1 :: a0 :: rest) u (bd x0 kx) := J_callS (As := [a0, a1, a2, a3]) (rest := rest) hd hc hy hw rfl rfl hrm (fun u' a _ => k u' a)
theorem J_callSip5 {y : MethodName} {cy : ByteArray} {ny idx : Nat} {ry : Option FieldType} {a0 a1 a2 a3 a4 : Value} {x0 : Option Int32} {kx : Int32 → Option ρ} (hd : decode cc pc = .ok (.invokestatic idx, 3)) (hc : llCp (llL G) (llFx G) y cy ny ry d ([a0, a1, a2, a3, a4]) u llI x0) (hy : llYs y cy ny ry 5) (hw : Cond.methodLink own idx y ∈ llTb) (hrm : (rest.map fun v => v.category).sum ≤ 8) (k : ∀ a, llJ G own cc nL ret (d + 1) K (pc + 3) lv (.int a :: rest) u (kx a)) : llJ G own cc nL ret (d + 1) K pc lv (a4 :: a3 :: a2 :: a1 :: a0 :: rest) u (x0.bind kx) := by
  intro ok r hr hK
  refine J_callS (As := [a0, a1, a2, a3, a4]) (rest := rest) (kx := fun _ a => kx a) hd hc hy hw rfl rfl hrm (fun u' a e => ?_) ok r (llP_bind hr) hK
  have e := llP_eq e
  subst e
  exact k a
theorem J_callSi5 {y : MethodName} {cy : ByteArray} {ny idx : Nat} {ry : Option FieldType} {a0 a1 a2 a3 a4 : Value} {x0 : Option (llMem × Int32)} {kx : llMem → Int32 → Option ρ} (hd : decode cc pc = .ok (.invokestatic idx, 3)) (hc : llCt (llL G) (llFx G) y cy ny ry d ([a0, a1, a2, a3, a4]) u llI x0) (hy : llYs y cy ny ry 5) (hw : Cond.methodLink own idx y ∈ llTb) (hrm : (rest.map fun v => v.category).sum ≤ 8) (k : ∀ u' a, llJ G own cc nL ret (d + 1) K (pc + 3) lv (.int a :: rest) u' (kx u' a)) : llJ G own cc nL ret (d + 1) K pc lv (a4 :: a3 :: a2 :: a1 :: a0 :: rest) u (bd x0 kx) := J_callS (As := [a0, a1, a2, a3, a4]) (rest := rest) hd hc hy hw rfl rfl hrm (fun u' a _ => k u' a)
theorem J_callSlp0 {y : MethodName} {cy : ByteArray} {ny idx : Nat} {ry : Option FieldType} {x0 : Option Int64} {kx : Int64 → Option ρ} (hd : decode cc pc = .ok (.invokestatic idx, 3)) (hc : llCp (llL G) (llFx G) y cy ny ry d ([]) u llLg x0) (hy : llYs y cy ny ry 0) (hw : Cond.methodLink own idx y ∈ llTb) (hrm : (rest.map fun v => v.category).sum ≤ 8) (k : ∀ a, llJ G own cc nL ret (d + 1) K (pc + 3) lv (.long a :: rest) u (kx a)) : llJ G own cc nL ret (d + 1) K pc lv (rest) u (x0.bind kx) := by
  intro ok r hr hK
  refine J_callS (As := []) (rest := rest) (kx := fun _ a => kx a) hd hc hy hw rfl rfl hrm (fun u' a e => ?_) ok r (llP_bind hr) hK
  have e := llP_eq e
  subst e
  exact k a
theorem J_callSl0 {y : MethodName} {cy : ByteArray} {ny idx : Nat} {ry : Option FieldType} {x0 : Option (llMem × Int64)} {kx : llMem → Int64 → Option ρ} (hd : decode cc pc = .ok (.invokestatic idx, 3)) (hc : llCt (llL G) (llFx G) y cy ny ry d ([]) u llLg x0) (hy : llYs y cy ny ry 0) (hw : Cond.methodLink own idx y ∈ llTb) (hrm : (rest.map fun v => v.category).sum ≤ 8) (k : ∀ u' a, llJ G own cc nL ret (d + 1) K (pc + 3) lv (.long a :: rest) u' (kx u' a)) : llJ G own cc nL ret (d + 1) K pc lv (rest) u (bd x0 kx) := J_callS (As := []) (rest := rest) hd hc hy hw rfl rfl hrm (fun u' a _ => k u' a)
theorem J_callSlp1 {y : MethodName} {cy : ByteArray} {ny idx : Nat} {ry : Option FieldType} {a0 : Value} {x0 : Option Int64} {kx : Int64 → Option ρ} (hd : decode cc pc = .ok (.invokestatic idx, 3)) (hc : llCp (llL G) (llFx G) y cy ny ry d ([a0]) u llLg x0) (hy : llYs y cy ny ry 1) (hw : Cond.methodLink own idx y ∈ llTb) (hrm : (rest.map fun v => v.category).sum ≤ 8) (k : ∀ a, llJ G own cc nL ret (d + 1) K (pc + 3) lv (.long a :: rest) u (kx a)) : llJ G own cc nL ret (d + 1) K pc lv (a0 :: rest) u (x0.bind kx) := by
  intro ok r hr hK
  refine J_callS (As := [a0]) (rest := rest) (kx := fun _ a => kx a) hd hc hy hw rfl rfl hrm (fun u' a e => ?_) ok r (llP_bind hr) hK
  have e := llP_eq e
  subst e
  exact k a
theorem J_callSl1 {y : MethodName} {cy : ByteArray} {ny idx : Nat} {ry : Option FieldType} {a0 : Value} {x0 : Option (llMem × Int64)} {kx : llMem → Int64 → Option ρ} (hd : decode cc pc = .ok (.invokestatic idx, 3)) (hc : llCt (llL G) (llFx G) y cy ny ry d ([a0]) u llLg x0) (hy : llYs y cy ny ry 1) (hw : Cond.methodLink own idx y ∈ llTb) (hrm : (rest.map fun v => v.category).sum ≤ 8) (k : ∀ u' a, llJ G own cc nL ret (d + 1) K (pc + 3) lv (.long a :: rest) u' (kx u' a)) : llJ G own cc nL ret (d + 1) K pc lv (a0 :: rest) u (bd x0 kx) := J_callS (As := [a0]) (rest := rest) hd hc hy hw rfl rfl hrm (fun u' a _ => k u' a)
theorem J_callSlp2 {y : MethodName} {cy : ByteArray} {ny idx : Nat} {ry : Option FieldType} {a0 a1 : Value} {x0 : Option Int64} {kx : Int64 → Option ρ} (hd : decode cc pc = .ok (.invokestatic idx, 3)) (hc : llCp (llL G) (llFx G) y cy ny ry d ([a0, a1]) u llLg x0) (hy : llYs y cy ny ry 2) (hw : Cond.methodLink own idx y ∈ llTb) (hrm : (rest.map fun v => v.category).sum ≤ 8) (k : ∀ a, llJ G own cc nL ret (d + 1) K (pc + 3) lv (.long a :: rest) u (kx a)) : llJ G own cc nL ret (d + 1) K pc lv (a1 :: a0 :: rest) u (x0.bind kx) := by
  intro ok r hr hK
  refine J_callS (As := [a0, a1]) (rest := rest) (kx := fun _ a => kx a) hd hc hy hw rfl rfl hrm (fun u' a e => ?_) ok r (llP_bind hr) hK
  have e := llP_eq e
  subst e
  exact k a
theorem J_callSl2 {y : MethodName} {cy : ByteArray} {ny idx : Nat} {ry : Option FieldType} {a0 a1 : Value} {x0 : Option (llMem × Int64)} {kx : llMem → Int64 → Option ρ} (hd : decode cc pc = .ok (.invokestatic idx, 3)) (hc : llCt (llL G) (llFx G) y cy ny ry d ([a0, a1]) u llLg x0) (hy : llYs y cy ny ry 2) (hw : Cond.methodLink own idx y ∈ llTb) (hrm : (rest.map fun v => v.category).sum ≤ 8) (k : ∀ u' a, llJ G own cc nL ret (d + 1) K (pc + 3) lv (.long a :: rest) u' (kx u' a)) : llJ G own cc nL ret (d + 1) K pc lv (a1 :: a0 :: rest) u (bd x0 kx) := J_callS (As := [a0, a1]) (rest := rest) hd hc hy hw rfl rfl hrm (fun u' a _ => k u' a)
theorem J_callSlp3 {y : MethodName} {cy : ByteArray} {ny idx : Nat} {ry : Option FieldType} {a0 a1 a2 : Value} {x0 : Option Int64} {kx : Int64 → Option ρ} (hd : decode cc pc = .ok (.invokestatic idx, 3)) (hc : llCp (llL G) (llFx G) y cy ny ry d ([a0, a1, a2]) u llLg x0) (hy : llYs y cy ny ry 3) (hw : Cond.methodLink own idx y ∈ llTb) (hrm : (rest.map fun v => v.category).sum ≤ 8) (k : ∀ a, llJ G own cc nL ret (d + 1) K (pc + 3) lv (.long a :: rest) u (kx a)) : llJ G own cc nL ret (d + 1) K pc lv (a2 :: a1 :: a0 :: rest) u (x0.bind kx) := by
  intro ok r hr hK
  refine J_callS (As := [a0, a1, a2]) (rest := rest) (kx := fun _ a => kx a) hd hc hy hw rfl rfl hrm (fun u' a e => ?_) ok r (llP_bind hr) hK
  have e := llP_eq e
  subst e
  exact k a
theorem J_callSl3 {y : MethodName} {cy : ByteArray} {ny idx : Nat} {ry : Option FieldType} {a0 a1 a2 : Value} {x0 : Option (llMem × Int64)} {kx : llMem → Int64 → Option ρ} (hd : decode cc pc = .ok (.invokestatic idx, 3)) (hc : llCt (llL G) (llFx G) y cy ny ry d ([a0, a1, a2]) u llLg x0) (hy : llYs y cy ny ry 3) (hw : Cond.methodLink own idx y ∈ llTb) (hrm : (rest.map fun v => v.category).sum ≤ 8) (k : ∀ u' a, llJ G own cc nL ret (d + 1) K (pc + 3) lv (.long a :: rest) u' (kx u' a)) : llJ G own cc nL ret (d + 1) K pc lv (a2 :: a1 :: a0 :: rest) u (bd x0 kx) := J_callS (As := [a0, a1, a2]) (rest := rest) hd hc hy hw rfl rfl hrm (fun u' a _ => k u' a)
theorem J_callSlp4 {y : MethodName} {cy : ByteArray} {ny idx : Nat} {ry : Option FieldType} {a0 a1 a2 a3 : Value} {x0 : Option Int64} {kx : Int64 → Option ρ} (hd : decode cc pc = .ok (.invokestatic idx, 3)) (hc : llCp (llL G) (llFx G) y cy ny ry d ([a0, a1, a2, a3]) u llLg x0) (hy : llYs y cy ny ry 4) (hw : Cond.methodLink own idx y ∈ llTb) (hrm : (rest.map fun v => v.category).sum ≤ 8) (k : ∀ a, llJ G own cc nL ret (d + 1) K (pc + 3) lv (.long a :: rest) u (kx a)) : llJ G own cc nL ret (d + 1) K pc lv (a3 :: a2 :: a1 :: a0 :: rest) u (x0.bind kx) := by
  intro ok r hr hK
  refine J_callS (As := [a0, a1, a2, a3]) (rest := rest) (kx := fun _ a => kx a) hd hc hy hw rfl rfl hrm (fun u' a e => ?_) ok r (llP_bind hr) hK
  have e := llP_eq e
  subst e
  exact k a
theorem J_callSl4 {y : MethodName} {cy : ByteArray} {ny idx : Nat} {ry : Option FieldType} {a0 a1 a2 a3 : Value} {x0 : Option (llMem × Int64)} {kx : llMem → Int64 → Option ρ} (hd : decode cc pc = .ok (.invokestatic idx, 3)) (hc : llCt (llL G) (llFx G) y cy ny ry d ([a0, a1, a2, a3]) u llLg x0) (hy : llYs y cy ny ry 4) (hw : Cond.methodLink own idx y ∈ llTb) (hrm : (rest.map fun v => v.category).sum ≤ 8) (k : ∀ u' a, llJ G own cc nL ret (d + 1) K (pc + 3) lv (.long a :: rest) u' (kx u' a)) : llJ G own cc nL ret (d + 1) K pc lv (a3 :: a2 :: a1 :: a0 :: rest) u (bd x0 kx) := J_callS (As := [a0, a1, a2, a3]) (rest := rest) hd hc hy hw rfl rfl hrm (fun u' a _ => k u' a)
theorem J_callSlp5 {y : MethodName} {cy : ByteArray} {ny idx : Nat} {ry : Option FieldType} {a0 a1 a2 a3 a4 : Value} {x0 : Option Int64} {kx : Int64 → Option ρ} (hd : decode cc pc = .ok (.invokestatic idx, 3)) (hc : llCp (llL G) (llFx G) y cy ny ry d ([a0, a1, a2, a3, a4]) u llLg x0) (hy : llYs y cy ny ry 5) (hw : Cond.methodLink own idx y ∈ llTb) (hrm : (rest.map fun v => v.category).sum ≤ 8) (k : ∀ a, llJ G own cc nL ret (d + 1) K (pc + 3) lv (.long a :: rest) u (kx a)) : llJ G own cc nL ret (d + 1) K pc lv (a4 :: a3 :: a2 :: a1 :: a0 :: rest) u (x0.bind kx) := by
  intro ok r hr hK
  refine J_callS (As := [a0, a1, a2, a3, a4]) (rest := rest) (kx := fun _ a => kx a) hd hc hy hw rfl rfl hrm (fun u' a e => ?_) ok r (llP_bind hr) hK
  have e := llP_eq e
  subst e
  exact k a
theorem J_callSl5 {y : MethodName} {cy : ByteArray} {ny idx : Nat} {ry : Option FieldType} {a0 a1 a2 a3 a4 : Value} {x0 : Option (llMem × Int64)} {kx : llMem → Int64 → Option ρ} (hd : decode cc pc = .ok (.invokestatic idx, 3)) (hc : llCt (llL G) (llFx G) y cy ny ry d ([a0, a1, a2, a3, a4]) u llLg x0) (hy : llYs y cy ny ry 5) (hw : Cond.methodLink own idx y ∈ llTb) (hrm : (rest.map fun v => v.category).sum ≤ 8) (k : ∀ u' a, llJ G own cc nL ret (d + 1) K (pc + 3) lv (.long a :: rest) u' (kx u' a)) : llJ G own cc nL ret (d + 1) K pc lv (a4 :: a3 :: a2 :: a1 :: a0 :: rest) u (bd x0 kx) := J_callS (As := [a0, a1, a2, a3, a4]) (rest := rest) hd hc hy hw rfl rfl hrm (fun u' a _ => k u' a)
theorem J_callSfp0 {y : MethodName} {cy : ByteArray} {ny idx : Nat} {ry : Option FieldType} {x0 : Option UInt32} {kx : UInt32 → Option ρ} (hd : decode cc pc = .ok (.invokestatic idx, 3)) (hc : llCp (llL G) (llFx G) y cy ny ry d ([]) u llFl x0) (hy : llYs y cy ny ry 0) (hw : Cond.methodLink own idx y ∈ llTb) (hrm : (rest.map fun v => v.category).sum ≤ 8) (k : ∀ a, llJ G own cc nL ret (d + 1) K (pc + 3) lv (.float a :: rest) u (kx a)) : llJ G own cc nL ret (d + 1) K pc lv (rest) u (x0.bind kx) := by
  intro ok r hr hK
  refine J_callS (As := []) (rest := rest) (kx := fun _ a => kx a) hd hc hy hw rfl rfl hrm (fun u' a e => ?_) ok r (llP_bind hr) hK
  have e := llP_eq e
  subst e
  exact k a
theorem J_callSf0 {y : MethodName} {cy : ByteArray} {ny idx : Nat} {ry : Option FieldType} {x0 : Option (llMem × UInt32)} {kx : llMem → UInt32 → Option ρ} (hd : decode cc pc = .ok (.invokestatic idx, 3)) (hc : llCt (llL G) (llFx G) y cy ny ry d ([]) u llFl x0) (hy : llYs y cy ny ry 0) (hw : Cond.methodLink own idx y ∈ llTb) (hrm : (rest.map fun v => v.category).sum ≤ 8) (k : ∀ u' a, llJ G own cc nL ret (d + 1) K (pc + 3) lv (.float a :: rest) u' (kx u' a)) : llJ G own cc nL ret (d + 1) K pc lv (rest) u (bd x0 kx) := J_callS (As := []) (rest := rest) hd hc hy hw rfl rfl hrm (fun u' a _ => k u' a)
theorem J_callSfp1 {y : MethodName} {cy : ByteArray} {ny idx : Nat} {ry : Option FieldType} {a0 : Value} {x0 : Option UInt32} {kx : UInt32 → Option ρ} (hd : decode cc pc = .ok (.invokestatic idx, 3)) (hc : llCp (llL G) (llFx G) y cy ny ry d ([a0]) u llFl x0) (hy : llYs y cy ny ry 1) (hw : Cond.methodLink own idx y ∈ llTb) (hrm : (rest.map fun v => v.category).sum ≤ 8) (k : ∀ a, llJ G own cc nL ret (d + 1) K (pc + 3) lv (.float a :: rest) u (kx a)) : llJ G own cc nL ret (d + 1) K pc lv (a0 :: rest) u (x0.bind kx) := by
  intro ok r hr hK
  refine J_callS (As := [a0]) (rest := rest) (kx := fun _ a => kx a) hd hc hy hw rfl rfl hrm (fun u' a e => ?_) ok r (llP_bind hr) hK
  have e := llP_eq e
  subst e
  exact k a
theorem J_callSf1 {y : MethodName} {cy : ByteArray} {ny idx : Nat} {ry : Option FieldType} {a0 : Value} {x0 : Option (llMem × UInt32)} {kx : llMem → UInt32 → Option ρ} (hd : decode cc pc = .ok (.invokestatic idx, 3)) (hc : llCt (llL G) (llFx G) y cy ny ry d ([a0]) u llFl x0) (hy : llYs y cy ny ry 1) (hw : Cond.methodLink own idx y ∈ llTb) (hrm : (rest.map fun v => v.category).sum ≤ 8) (k : ∀ u' a, llJ G own cc nL ret (d + 1) K (pc + 3) lv (.float a :: rest) u' (kx u' a)) : llJ G own cc nL ret (d + 1) K pc lv (a0 :: rest) u (bd x0 kx) := J_callS (As := [a0]) (rest := rest) hd hc hy hw rfl rfl hrm (fun u' a _ => k u' a)
theorem J_callSfp2 {y : MethodName} {cy : ByteArray} {ny idx : Nat} {ry : Option FieldType} {a0 a1 : Value} {x0 : Option UInt32} {kx : UInt32 → Option ρ} (hd : decode cc pc = .ok (.invokestatic idx, 3)) (hc : llCp (llL G) (llFx G) y cy ny ry d ([a0, a1]) u llFl x0) (hy : llYs y cy ny ry 2) (hw : Cond.methodLink own idx y ∈ llTb) (hrm : (rest.map fun v => v.category).sum ≤ 8) (k : ∀ a, llJ G own cc nL ret (d + 1) K (pc + 3) lv (.float a :: rest) u (kx a)) : llJ G own cc nL ret (d + 1) K pc lv (a1 :: a0 :: rest) u (x0.bind kx) := by
  intro ok r hr hK
  refine J_callS (As := [a0, a1]) (rest := rest) (kx := fun _ a => kx a) hd hc hy hw rfl rfl hrm (fun u' a e => ?_) ok r (llP_bind hr) hK
  have e := llP_eq e
  subst e
  exact k a
theorem J_callSf2 {y : MethodName} {cy : ByteArray} {ny idx : Nat} {ry : Option FieldType} {a0 a1 : Value} {x0 : Option (llMem × UInt32)} {kx : llMem → UInt32 → Option ρ} (hd : decode cc pc = .ok (.invokestatic idx, 3)) (hc : llCt (llL G) (llFx G) y cy ny ry d ([a0, a1]) u llFl x0) (hy : llYs y cy ny ry 2) (hw : Cond.methodLink own idx y ∈ llTb) (hrm : (rest.map fun v => v.category).sum ≤ 8) (k : ∀ u' a, llJ G own cc nL ret (d + 1) K (pc + 3) lv (.float a :: rest) u' (kx u' a)) : llJ G own cc nL ret (d + 1) K pc lv (a1 :: a0 :: rest) u (bd x0 kx) := J_callS (As := [a0, a1]) (rest := rest) hd hc hy hw rfl rfl hrm (fun u' a _ => k u' a)
theorem J_callSv0 {y : MethodName} {cy : ByteArray} {ny idx : Nat} {ry : Option FieldType} {x0 : Option (llMem × Unit)} {kx : llMem → Unit → Option ρ} (hd : decode cc pc = .ok (.invokestatic idx, 3)) (hc : llCt (llL G) (llFx G) y cy ny ry d ([]) u llVd x0) (hy : llYs y cy ny ry 0) (hw : Cond.methodLink own idx y ∈ llTb) (hrm : (rest.map fun v => v.category).sum ≤ 8) (k : ∀ u', llJ G own cc nL ret (d + 1) K (pc + 3) lv (rest) u' (kx u' ())) : llJ G own cc nL ret (d + 1) K pc lv (rest) u (bd x0 kx) := J_callS (As := []) (rest := rest) hd hc hy hw rfl rfl hrm (fun u' _ _ => k u')
theorem J_callSv1 {y : MethodName} {cy : ByteArray} {ny idx : Nat} {ry : Option FieldType} {a0 : Value} {x0 : Option (llMem × Unit)} {kx : llMem → Unit → Option ρ} (hd : decode cc pc = .ok (.invokestatic idx, 3)) (hc : llCt (llL G) (llFx G) y cy ny ry d ([a0]) u llVd x0) (hy : llYs y cy ny ry 1) (hw : Cond.methodLink own idx y ∈ llTb) (hrm : (rest.map fun v => v.category).sum ≤ 8) (k : ∀ u', llJ G own cc nL ret (d + 1) K (pc + 3) lv (rest) u' (kx u' ())) : llJ G own cc nL ret (d + 1) K pc lv (a0 :: rest) u (bd x0 kx) := J_callS (As := [a0]) (rest := rest) hd hc hy hw rfl rfl hrm (fun u' _ _ => k u')
theorem J_callSv2 {y : MethodName} {cy : ByteArray} {ny idx : Nat} {ry : Option FieldType} {a0 a1 : Value} {x0 : Option (llMem × Unit)} {kx : llMem → Unit → Option ρ} (hd : decode cc pc = .ok (.invokestatic idx, 3)) (hc : llCt (llL G) (llFx G) y cy ny ry d ([a0, a1]) u llVd x0) (hy : llYs y cy ny ry 2) (hw : Cond.methodLink own idx y ∈ llTb) (hrm : (rest.map fun v => v.category).sum ≤ 8) (k : ∀ u', llJ G own cc nL ret (d + 1) K (pc + 3) lv (rest) u' (kx u' ())) : llJ G own cc nL ret (d + 1) K pc lv (a1 :: a0 :: rest) u (bd x0 kx) := J_callS (As := [a0, a1]) (rest := rest) hd hc hy hw rfl rfl hrm (fun u' _ _ => k u')
theorem J_callSv3 {y : MethodName} {cy : ByteArray} {ny idx : Nat} {ry : Option FieldType} {a0 a1 a2 : Value} {x0 : Option (llMem × Unit)} {kx : llMem → Unit → Option ρ} (hd : decode cc pc = .ok (.invokestatic idx, 3)) (hc : llCt (llL G) (llFx G) y cy ny ry d ([a0, a1, a2]) u llVd x0) (hy : llYs y cy ny ry 3) (hw : Cond.methodLink own idx y ∈ llTb) (hrm : (rest.map fun v => v.category).sum ≤ 8) (k : ∀ u', llJ G own cc nL ret (d + 1) K (pc + 3) lv (rest) u' (kx u' ())) : llJ G own cc nL ret (d + 1) K pc lv (a2 :: a1 :: a0 :: rest) u (bd x0 kx) := J_callS (As := [a0, a1, a2]) (rest := rest) hd hc hy hw rfl rfl hrm (fun u' _ _ => k u')
theorem J_callSv4 {y : MethodName} {cy : ByteArray} {ny idx : Nat} {ry : Option FieldType} {a0 a1 a2 a3 : Value} {x0 : Option (llMem × Unit)} {kx : llMem → Unit → Option ρ} (hd : decode cc pc = .ok (.invokestatic idx, 3)) (hc : llCt (llL G) (llFx G) y cy ny ry d ([a0, a1, a2, a3]) u llVd x0) (hy : llYs y cy ny ry 4) (hw : Cond.methodLink own idx y ∈ llTb) (hrm : (rest.map fun v => v.category).sum ≤ 8) (k : ∀ u', llJ G own cc nL ret (d + 1) K (pc + 3) lv (rest) u' (kx u' ())) : llJ G own cc nL ret (d + 1) K pc lv (a3 :: a2 :: a1 :: a0 :: rest) u (bd x0 kx) := J_callS (As := [a0, a1, a2, a3]) (rest := rest) hd hc hy hw rfl rfl hrm (fun u' _ _ => k u')
theorem J_callSv5 {y : MethodName} {cy : ByteArray} {ny idx : Nat} {ry : Option FieldType} {a0 a1 a2 a3 a4 : Value} {x0 : Option (llMem × Unit)} {kx : llMem → Unit → Option ρ} (hd : decode cc pc = .ok (.invokestatic idx, 3)) (hc : llCt (llL G) (llFx G) y cy ny ry d ([a0, a1, a2, a3, a4]) u llVd x0) (hy : llYs y cy ny ry 5) (hw : Cond.methodLink own idx y ∈ llTb) (hrm : (rest.map fun v => v.category).sum ≤ 8) (k : ∀ u', llJ G own cc nL ret (d + 1) K (pc + 3) lv (rest) u' (kx u' ())) : llJ G own cc nL ret (d + 1) K pc lv (a4 :: a3 :: a2 :: a1 :: a0 :: rest) u (bd x0 kx) := J_callS (As := [a0, a1, a2, a3, a4]) (rest := rest) hd hc hy hw rfl rfl hrm (fun u' _ _ => k u')
end
section
variable {ρ : Type} {G : llG} {own : String} {cc : ByteArray} {nL : Nat} {ret : Option FieldType} {d : Nat} {K : ρ → Prop} {pc : Nat} {lv : List (Nat × Value)} {rest : List Value} {u : llMem} {x : Option ρ}
theorem J_mmax {a b : Int32} {idx : Nat} (hd : decode cc pc = .ok (.invokestatic idx, 3)) (h1 : Cond.methodLink own idx Lib.Math.max.name ∈ llTb) (h2 : Cond.static Lib.Math.max.name ∈ llTb) (h3 : Cond.initialized "java/lang/Math" ∈ llTb) (h4 : Cond.code Lib.Math.max.name Lib.Math.max.code 2 (some .int) ∈ llTb) (hrm : (rest.map fun v => v.category).sum ≤ 8) (k : llJ G own cc nL ret d K (pc + 3) lv (.int (if a < b then b else a) :: rest) u x) : llJ G own cc nL ret d K pc lv (.int b :: .int a :: rest) u x := by
  obtain ⟨p, l, e, R, s, m, args, below, meth, c0, cells, slots, Z, F⟩ := G
  intro ok r hr hK H locs ls hP hS hl
  have hts := ok.2.2.2.2.2.2.1
  exact va_mmax ok.1 ok.2.1 (by rw [ok.2.2.1, hl.1]) ok.2.2.2.2.2.1 (hts _ h1) (hts _ h2) (hts _ h3) (hts _ h4) (Nat.le_trans (by omega) ok.2.2.2.2.2.2.2.2.2.1) (Nat.le_trans (by omega) ok.2.2.2.2.2.2.2.2.2.2.1) ok.2.2.2.2.2.2.2.2.2.2.2.1 ok.2.2.2.2.2.2.2.2.2.2.2.2 hd (k ok r hr hK H locs ls hP hS hl)
theorem J_mmin {a b : Int32} {idx : Nat} (hd : decode cc pc = .ok (.invokestatic idx, 3)) (h1 : Cond.methodLink own idx Lib.Math.min.name ∈ llTb) (h2 : Cond.static Lib.Math.min.name ∈ llTb) (h3 : Cond.initialized "java/lang/Math" ∈ llTb) (h4 : Cond.code Lib.Math.min.name Lib.Math.min.code 2 (some .int) ∈ llTb) (hrm : (rest.map fun v => v.category).sum ≤ 8) (k : llJ G own cc nL ret d K (pc + 3) lv (.int (if b < a then b else a) :: rest) u x) : llJ G own cc nL ret d K pc lv (.int b :: .int a :: rest) u x := by
  obtain ⟨p, l, e, R, s, m, args, below, meth, c0, cells, slots, Z, F⟩ := G
  intro ok r hr hK H locs ls hP hS hl
  have hts := ok.2.2.2.2.2.2.1
  exact va_mmin ok.1 ok.2.1 (by rw [ok.2.2.1, hl.1]) ok.2.2.2.2.2.1 (hts _ h1) (hts _ h2) (hts _ h3) (hts _ h4) (Nat.le_trans (by omega) ok.2.2.2.2.2.2.2.2.2.1) (Nat.le_trans (by omega) ok.2.2.2.2.2.2.2.2.2.2.1) ok.2.2.2.2.2.2.2.2.2.2.2.1 ok.2.2.2.2.2.2.2.2.2.2.2.2 hd (k ok r hr hK H locs ls hP hS hl)
theorem J_mabs {a : Int32} {idx : Nat} (hd : decode cc pc = .ok (.invokestatic idx, 3)) (h1 : Cond.methodLink own idx Lib.Math.abs.name ∈ llTb) (h2 : Cond.static Lib.Math.abs.name ∈ llTb) (h3 : Cond.initialized "java/lang/Math" ∈ llTb) (h4 : Cond.code Lib.Math.abs.name Lib.Math.abs.code 1 (some .int) ∈ llTb) (hrm : (rest.map fun v => v.category).sum ≤ 8) (k : llJ G own cc nL ret d K (pc + 3) lv (.int (if 0 ≤ a then a else 0 - a) :: rest) u x) : llJ G own cc nL ret d K pc lv (.int a :: rest) u x := by
  obtain ⟨p, l, e, R, s, m, args, below, meth, c0, cells, slots, Z, F⟩ := G
  intro ok r hr hK H locs ls hP hS hl
  have hts := ok.2.2.2.2.2.2.1
  exact va_mabs ok.1 ok.2.1 (by rw [ok.2.2.1, hl.1]) ok.2.2.2.2.2.1 (hts _ h1) (hts _ h2) (hts _ h3) (hts _ h4) (Nat.le_trans (by omega) ok.2.2.2.2.2.2.2.2.2.1) (Nat.le_trans (by omega) ok.2.2.2.2.2.2.2.2.2.2.1) ok.2.2.2.2.2.2.2.2.2.2.2.1 ok.2.2.2.2.2.2.2.2.2.2.2.2 hd (k ok r hr hK H locs ls hP hS hl)
theorem J_f2i {b : UInt32} {idx : Nat} (hd : decode cc pc = .ok (.invokestatic idx, 3)) (h1 : Cond.methodLink own idx ⟨"java/lang/Float", "floatToRawIntBits", "(F)I"⟩ ∈ llTb) (h2 : Cond.native ⟨"java/lang/Float", "floatToRawIntBits", "(F)I"⟩ ∈ llTb) (h3 : Cond.static ⟨"java/lang/Float", "floatToRawIntBits", "(F)I"⟩ ∈ llTb) (h4 : Cond.initialized "java/lang/Float" ∈ llTb) (hrm : (rest.map fun v => v.category).sum ≤ 8) (k : llJ G own cc nL ret d K (pc + 3) lv (.int b.toInt32 :: rest) u x) : llJ G own cc nL ret d K pc lv (.float b :: rest) u x := by
  obtain ⟨p, l, e, R, s, m, args, below, meth, c0, cells, slots, Z, F⟩ := G
  intro ok r hr hK H locs ls hP hS hl
  have hts := ok.2.2.2.2.2.2.1
  exact vn_f2i ok.1 ok.2.1 (by rw [ok.2.2.1, hl.1]) ok.2.2.2.2.2.1 (hts _ h1) (hts _ h2) (hts _ h3) (hts _ h4) (Nat.le_trans (by omega) ok.2.2.2.2.2.2.2.2.2.1) (Nat.le_trans (by omega) ok.2.2.2.2.2.2.2.2.2.2.1) hd (k ok r hr hK H locs ls hP hS hl)
theorem J_d2l' {b : UInt64} {idx : Nat} (hd : decode cc pc = .ok (.invokestatic idx, 3)) (h1 : Cond.methodLink own idx ⟨"java/lang/Double", "doubleToRawLongBits", "(D)J"⟩ ∈ llTb) (h2 : Cond.native ⟨"java/lang/Double", "doubleToRawLongBits", "(D)J"⟩ ∈ llTb) (h3 : Cond.static ⟨"java/lang/Double", "doubleToRawLongBits", "(D)J"⟩ ∈ llTb) (h4 : Cond.initialized "java/lang/Double" ∈ llTb) (hrm : (rest.map fun v => v.category).sum ≤ 8) (k : llJ G own cc nL ret d K (pc + 3) lv (.long b.toInt64 :: rest) u x) : llJ G own cc nL ret d K pc lv (.double b :: rest) u x := by
  obtain ⟨p, l, e, R, s, m, args, below, meth, c0, cells, slots, Z, F⟩ := G
  intro ok r hr hK H locs ls hP hS hl
  have hts := ok.2.2.2.2.2.2.1
  exact vn_d2l ok.1 ok.2.1 (by rw [ok.2.2.1, hl.1]) ok.2.2.2.2.2.1 (hts _ h1) (hts _ h2) (hts _ h3) (hts _ h4) (Nat.le_trans (by omega) ok.2.2.2.2.2.2.2.2.2.1) (Nat.le_trans (by omega) ok.2.2.2.2.2.2.2.2.2.2.1) hd (k ok r hr hK H locs ls hP hS hl)
/-- arraycopy of ints -/
def cpI {ρ : Type} (u : llMem) (c0 n0 c1 n1 : Nat) (sp dp n : Int32) (kx : llMem → Option ρ) : Option ρ := if sp < 0 ∨ dp < 0 ∨ n < 0 ∨ n0 < sp.toNatClampNeg + n.toNatClampNeg ∨ n1 < dp.toNatClampNeg + n.toNatClampNeg then none else kx (llSA u c1 (va_cpy (u.1 c0) (u.1 c1) sp.toNatClampNeg dp.toNatClampNeg n.toNatClampNeg))
def cpL {ρ : Type} (u : llMem) (c0 n0 c1 n1 : Nat) (sp dp n : Int32) (kx : llMem → Option ρ) : Option ρ := if sp < 0 ∨ dp < 0 ∨ n < 0 ∨ n0 < sp.toNatClampNeg + n.toNatClampNeg ∨ n1 < dp.toNatClampNeg + n.toNatClampNeg then none else kx (llSLA u c1 (va_cpy (u.2.1 c0) (u.2.1 c1) sp.toNatClampNeg dp.toNatClampNeg n.toNatClampNeg))
theorem J_cpI {a0 a1 n0 n1 idx : Nat} {sp dp n : Int32} {kx : llMem → Option ρ} (hd : decode cc pc = .ok (.invokestatic idx, 3)) (h1 : Cond.methodLink own idx arraycopyName ∈ llTb) (h2 : Cond.native arraycopyName ∈ llTb) (h3 : Cond.static arraycopyName ∈ llTb) (h4 : Cond.initialized "java/lang/System" ∈ llTb) (hs0 : llShp[a0]? = some (.inl (0, n0))) (hs1 : llShp[a1]? = some (.inl (0, n1))) (hrm : (rest.map fun v => v.category).sum ≤ 8) (kk : ∀ u', llJ G own cc nL ret d K (pc + 3) lv rest u' (kx u')) : llJ G own cc nL ret d K pc lv (.int n :: .int dp :: .ref (llAd G a1) :: .int sp :: .ref (llAd G a0) :: rest) u (cpI u a0 n0 a1 n1 sp dp n kx) := by
  obtain ⟨p, l, e, R, s, m, args, below, meth, c0, cells, slots, Z, F⟩ := G
  intro ok r hr hK H locs ls hP hS hl
  have hts := ok.2.2.2.2.2.2.1
  unfold cpI at hr
  split at hr
  · cases hr
  · next hcnd =>
    have hlo : (rest.map fun v => v.category).sum + (nativeFrameWords "java/lang/System" "arraycopy" 5 + 11) ≤ R.locals := by
      have h56 : nativeFrameWords "java/lang/System" "arraycopy" 5 + 11 ≤ 56 := by decide +kernel
      have := ok.2.2.2.2.2.2.2.2.2.2.1
      omega
    refine va_copyi ok.1 ok.2.1 (by rw [ok.2.2.1, hl.1]) ok.2.2.2.2.2.1 (hts _ h1) (hts _ h2) (hts _ h3) (hts _ h4) ok.2.2.2.2.2.2.2.1.1 hP (ok.2.2.2.2.2.2.2.1.D u) hS a0 a1 0 0 (llW_at hs0) (llW_at hs1) rfl rfl rfl (fun h => hcnd (Or.inl h)) (fun h => hcnd (Or.inr (Or.inl h))) (fun h => hcnd (Or.inr (Or.inr (Or.inl h)))) (Nat.le_of_not_lt (fun h => hcnd (Or.inr (Or.inr (Or.inr (Or.inl h)))))) (Nat.le_of_not_lt (fun h => hcnd (Or.inr (Or.inr (Or.inr (Or.inr h)))))) (fun _ _ => rfl) (Nat.le_trans (by omega) ok.2.2.2.2.2.2.2.2.2.1) hlo hd (fun H1 locs1 hP1 hD1 hS1 => ?_)
    have hP1 : va_P F.1 vwCl (llW F.2.1 F.2.2.1 (llSA u a1 (va_cpy (u.1 a0) (u.1 a1) sp.toNatClampNeg dp.toNatClampNeg n.toNatClampNeg))) H1 := by
      rw [← llW_setA0 (dA := F.2.1) (ad := F.2.2.1) (u := u) (f := va_cpy (u.1 a0) (u.1 a1) sp.toNatClampNeg dp.toNatClampNeg n.toNatClampNeg) hs1]
      exact hP1
    exact kk _ ok r hr hK H1 locs1 ls hP1 hS1 hl
theorem J_cpL {a0 a1 n0 n1 idx : Nat} {sp dp n : Int32} {kx : llMem → Option ρ} (hd : decode cc pc = .ok (.invokestatic idx, 3)) (h1 : Cond.methodLink own idx arraycopyName ∈ llTb) (h2 : Cond.native arraycopyName ∈ llTb) (h3 : Cond.static arraycopyName ∈ llTb) (h4 : Cond.initialized "java/lang/System" ∈ llTb) (hs0 : llShp[a0]? = some (.inl (1, n0))) (hs1 : llShp[a1]? = some (.inl (1, n1))) (hrm : (rest.map fun v => v.category).sum ≤ 8) (kk : ∀ u', llJ G own cc nL ret d K (pc + 3) lv rest u' (kx u')) : llJ G own cc nL ret d K pc lv (.int n :: .int dp :: .ref (llAd G a1) :: .int sp :: .ref (llAd G a0) :: rest) u (cpL u a0 n0 a1 n1 sp dp n kx) := by
  obtain ⟨p, l, e, R, s, m, args, below, meth, c0, cells, slots, Z, F⟩ := G
  intro ok r hr hK H locs ls hP hS hl
  have hts := ok.2.2.2.2.2.2.1
  unfold cpL at hr
  split at hr
  · cases hr
  · next hcnd =>
    have hlo : (rest.map fun v => v.category).sum + (nativeFrameWords "java/lang/System" "arraycopy" 5 + 11) ≤ R.locals := by
      have h56 : nativeFrameWords "java/lang/System" "arraycopy" 5 + 11 ≤ 56 := by decide +kernel
      have := ok.2.2.2.2.2.2.2.2.2.2.1
      omega
    refine va_copyl ok.1 ok.2.1 (by rw [ok.2.2.1, hl.1]) ok.2.2.2.2.2.1 (hts _ h1) (hts _ h2) (hts _ h3) (hts _ h4) ok.2.2.2.2.2.2.2.1.1 hP (ok.2.2.2.2.2.2.2.1.D u) hS a0 a1 1 1 (llW_at hs0) (llW_at hs1) rfl rfl rfl (fun h => hcnd (Or.inl h)) (fun h => hcnd (Or.inr (Or.inl h))) (fun h => hcnd (Or.inr (Or.inr (Or.inl h)))) (Nat.le_of_not_lt (fun h => hcnd (Or.inr (Or.inr (Or.inr (Or.inl h)))))) (Nat.le_of_not_lt (fun h => hcnd (Or.inr (Or.inr (Or.inr (Or.inr h)))))) (fun _ _ => rfl) (Nat.le_trans (by omega) ok.2.2.2.2.2.2.2.2.2.1) hlo hd (fun H1 locs1 hP1 hD1 hS1 => ?_)
    have hP1 : va_P F.1 vwCl (llW F.2.1 F.2.2.1 (llSLA u a1 (va_cpy (u.2.1 a0) (u.2.1 a1) sp.toNatClampNeg dp.toNatClampNeg n.toNatClampNeg))) H1 := by
      rw [← llW_setA1 (dA := F.2.1) (ad := F.2.2.1) (u := u) (f := va_cpy (u.2.1 a0) (u.2.1 a1) sp.toNatClampNeg dp.toNatClampNeg n.toNatClampNeg) hs1]
      exact hP1
    exact kk _ ok r hr hK H1 locs1 ls hP1 hS1 hl
theorem llTabG {a : Int32} {lo hi : Int} (h0 : 0 ≤ lo) (h1 : hi < 2 ^ 31) (h : ∀ k : Nat, lo ≤ (k : Int) → (k : Int) ≤ hi → ¬ a = Int32.ofNat k) : a.toInt < lo ∨ hi < a.toInt := by
  rcases Int.lt_or_le a.toInt lo with h2 | h2
  · exact Or.inl h2
  · refine Or.inr ?_
    rcases Int.lt_or_le hi a.toInt with h3 | h3
    · exact h3
    · exfalso
      refine h a.toInt.toNat (by omega) (by omega) ?_
      apply Int32.toInt_inj.mp
      have : (nI a.toInt.toNat).toInt = (a.toInt.toNat : Int) := nI_toInt (by omega)
      show a.toInt = (nI a.toInt.toNat).toInt
      rw [this]; omega
theorem llLook2 {a : Int32} {o0 o1 dflt : Int} (h0 : ¬ a = 0) (h1 : ¬ a = 1) : Op.lookupswitch.offset (#[((0 : Int), o0), (1, o1)] : Array (Int × Int)).toList dflt a.toInt = dflt := by
  have e0 : ¬ (0 : Int) = a.toInt := fun e => h0 (Int32.toInt_inj.mp (by rw [← e]; rfl))
  have e1 : ¬ (1 : Int) = a.toInt := fun e => h1 (Int32.toInt_inj.mp (by rw [← e]; rfl))
  simp [Op.lookupswitch.offset, e0, e1]

end
theorem llMet_ofW {l : Launch} {y : MethodName} {ws ws' : List Cond} {rm : Room} {Pc : Array Value → State → Prop} {Qc : Array Value → State → Outcome → State → Prop} {mc ms : Nat} {free : Addr → Prop} {cc : ByteArray} {maxL : Nat} {ret : Option FieldType}
    (hy : plainFor y = true) (hw : ws = Cond.code y cc maxL ret :: ws')
    (body : ∀ p e s m args below meth c s₁, BodyLoose p l y (headSpec ws rm) cc maxL ret e s m args below meth c s₁ → c.maxLocals = maxL → Pc args s →
      W p l e (headSpec ws rm).room s m args below meth c s.heap [] 0 0 (MQ below Qc args s mc ms free) (entryFrame m args maxL)) : Met l y ws rm Pc Qc mc ms free := by
  refine MetFree.of_bodySF (code := cc) (maxLocals := maxL) (ret := ret) hy ?_ ?_
  · intro args s m h hn
    obtain ⟨meth, c, h1, h2, h3, h4, h5, h6, -, -⟩ := Cond.code_spec hn (atoms_spec (ws := ws) h _ (by rw [hw]; exact List.mem_cons_self))
    exact ⟨meth, c, h1, h2, h3, h4, h5, h6⟩
  · intro p e s m args below meth c s₁ B hml hP _
    have hh0 : s₁.heap = s.heap := by rw [B.state]; rfl
    obtain ⟨t, a1, o, b1, b2, b3⟩ := body p e s m args below meth c s₁ B hml hP s₁ hh0 (Stand.of_body B)
    exact ⟨t, o, a1, b1, b2, ⟨b3.1, b3.2⟩⟩
theorem llCt.of {α : Type} {l : Launch} {F : llFix} {y : MethodName} {cc : ByteArray} {nL : Nat} {ret : Option FieldType} {d : Nat} {av : List Value} {u : llMem} {mk : α → Option Value} {x : Option (llMem × α)} (hy : plainFor y = true) (hlen : (lg_sl av).length ≤ nL) (h : ∀ G : llG, llL G = l → llFx G = F → llJ G y.cls cc nL ret d (fun r => llRet G (mk r.2) r.1) 0 (lv_args 0 av) [] u x) : llCt l F y cc nL ret d av u mk x := by
  intro r hr
  refine llMet_ofW (cc := cc) (maxL := nL) (ret := ret) hy rfl ?_
  intro p e s m args below meth c s₁ B hml hv
  obtain ⟨rfl, hP, hB, hZ⟩ := hv
  have hts := atoms_spec (ws := Cond.code y cc nL ret :: llTb) B.pre
  have hl := lv_entry av (n := nL) hlen
  rw [lg_entry_eq]
  exact h (p, l, e, llRm d, s, m, av.toArray, below, meth, c, 0, 0, MQ below (llQc F mk r) av.toArray s 0 0 (llA F.2.2.1), F) rfl rfl ⟨B.exec, B.bytes, hml, B.returns, B.notSynchronized, findClass_of_methodNamed B.named, fun w hw => hts w (List.mem_cons_of_mem _ hw), hB, hZ, Nat.le_refl _, Nat.le_refl _, Nat.le_refl _, Nat.le_refl _⟩ r hr ⟨_, rfl, fun H locs t hP1 hS1 ht => ⟨⟨rfl, by rw [ht]; exact hP1⟩, hS1.F ht⟩⟩ s.heap [] _ hP va_S.rf hl
theorem llCp.of {α : Type} {l : Launch} {F : llFix} {y : MethodName} {cc : ByteArray} {nL : Nat} {ret : Option FieldType} {d : Nat} {av : List Value} {u : llMem} {mk : α → Option Value} {x : Option α} (hy : plainFor y = true) (hlen : (lg_sl av).length ≤ nL) (h : ∀ G : llG, llL G = l → llFx G = F → llJ G y.cls cc nL ret d (fun r => llRet G (mk r) u) 0 (lv_args 0 av) [] u x) : llCp l F y cc nL ret d av u mk x := by
  refine llCt.of hy hlen (fun G h1 h2 ok r hr hK => ?_)
  cases x with
  | none => cases hr
  | some a => cases hr; exact h G h1 h2 ok a rfl hK
theorem J_loopE {ρ : Type} {G : llG} {own : String} {cc : ByteArray} {nL : Nat} {ret : Option FieldType} {d : Nat} {K : ρ → Prop} {pc : Nat} {lv : List (Nat × Value)} {u : llMem} {S E : Type} {body : S → Option (S ⊕ E)} {n : Nat} {s0 : S} {st : List Value} {kx : E → Option ρ} (lvS : S → List (Nat × Value)) (mS : S → llMem) (pcx : Nat) (lvE : E → List (Nat × Value)) (mE : E → llMem) (hb : ∀ s, llJ G own cc nL ret d (Sum.elim (fun s' => llJq G nL pc (lvS s') st (mS s')) (fun e => llJq G nL pcx (lvE e) st (mE e))) pc (lvS s) st (mS s) (body s)) (ks : List Nat) (hl : lv_pick lv ks = lvS s0) (hm : mS s0 = u) (hx : ∀ e, llJ G own cc nL ret d K pcx (lvE e) st (mE e) (kx e)) : llJ G own cc nL ret d K pc lv st u ((loop body n s0).bind kx) :=
  J_loop lvS mS _ hb (fun ok e r h hK => hx e ok r h hK) ks hl hm
theorem J_loopR {ρ V : Type} {G : llG} {own : String} {cc : ByteArray} {nL : Nat} {ret : Option FieldType} {d : Nat} {K : ρ → Prop} {pc : Nat} {lv : List (Nat × Value)} {u : llMem} {S E : Type} {body : S → Option (S ⊕ (E ⊕ V))} {n : Nat} {s0 : S} {st : List Value} {kx : E → Option ρ} {wr : V → ρ} (lvS : S → List (Nat × Value)) (mS : S → llMem) (pcx : Nat) (lvE : E → List (Nat × Value)) (mE : E → llMem) (KV : V → Prop) (hb : ∀ s, llJ G own cc nL ret d (Sum.elim (fun s' => llJq G nL pc (lvS s') st (mS s')) (Sum.elim (fun e => llJq G nL pcx (lvE e) st (mE e)) KV)) pc (lvS s) st (mS s) (body s)) (ks : List Nat) (hl : lv_pick lv ks = lvS s0) (hm : mS s0 = u) (hv : ∀ v, K (wr v) → KV v) (hx : ∀ e, llJ G own cc nL ret d K pcx (lvE e) st (mE e) (kx e)) : llJ G own cc nL ret d K pc lv st u ((loop body n s0).bind (Sum.elim kx (fun v => some (wr v)))) :=
  J_loop lvS mS _ hb (fun ok e r h hK => by
    cases e with
    | inl e => exact hx e ok r h hK
    | inr v => cases h; exact hv v hK) ks hl hm
