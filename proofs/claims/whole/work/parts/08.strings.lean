/-! the string constants: length() and charAt() -/
def fx_strlen (j : Nat) (_ : llMem) : Option Int32 := some (nI (llLen.getD j 0))
def fx_charAt (j : Nat) (_ : llMem) (k : Int32) : Option Int32 := gI k (llLen.getD j 0) (some ((llByt.getD j []).getD k.toNatClampNeg 0))
def llSv (G : llG) (c : Nat) : Nat := (llFx G).2.2.2.2.1 c
def llFm (G : llG) : Option Nat := (llFx G).2.2.2.2.2
section
variable {ρ : Type} {G : llG} {own : String} {cc : ByteArray} {nL : Nat} {ret : Option FieldType} {d : Nat} {K : ρ → Prop} {pc : Nat} {lv : List (Nat × Value)} {rest : List Value} {u : llMem} {x : Option ρ}
theorem J_none {st : List Value} : llJ G own cc nL ret d K pc lv st u none := fun _ _ h => by cases h
theorem J_sval {j idx : Nat} (hj : j < 7) (hw : Cond.fieldLink own idx "java/lang/String" "value" "[B" ∈ llTb) (hd : decode cc pc = .ok (.getfield idx, 3)) (k : llJ G own cc nL ret d K (pc + 3) lv (.ref (llSv G j) :: rest) u x) : llJ G own cc nL ret d K pc lv (.ref (llSk G j) :: rest) u x := by
  obtain ⟨p, l, e, R, s, m, args, below, meth, c0, cells, slots, Z, F⟩ := G
  intro ok r hr hK H locs ls hP hS hl
  exact vk_getf ok.1 ok.2.1 (ok.2.2.2.2.2.2.2.2.1.1.1 j hj).2.2.1 hS ok.2.2.2.2.2.1 (ok.2.2.2.2.2.2.1 _ hw) (fun _ h => h) hd (k ok r hr hK H locs ls hP hS hl)
theorem J_scoder {j idx : Nat} (hj : j < 7) (hw : Cond.fieldLink own idx "java/lang/String" "coder" "B" ∈ llTb) (hd : decode cc pc = .ok (.getfield idx, 3)) (k : llJ G own cc nL ret d K (pc + 3) lv (.int 0 :: rest) u x) : llJ G own cc nL ret d K pc lv (.ref (llSk G j) :: rest) u x := by
  obtain ⟨p, l, e, R, s, m, args, below, meth, c0, cells, slots, Z, F⟩ := G
  intro ok r hr hK H locs ls hP hS hl
  exact vk_getf ok.1 ok.2.1 (ok.2.2.2.2.2.2.2.2.1.1.1 j hj).2.1 hS ok.2.2.2.2.2.1 (ok.2.2.2.2.2.2.1 _ hw) (fun _ h => h) hd (k ok r hr hK H locs ls hP hS hl)
theorem J_gsZ {idx : Nat} (hw : Cond.fieldLink own idx "java/lang/String" "COMPACT_STRINGS" "Z" ∈ llTb) (hd : decode cc pc = .ok (.getstatic idx, 3)) (k : llJ G own cc nL ret d K (pc + 3) lv (.int 1 :: rest) u x) : llJ G own cc nL ret d K pc lv rest u x := by
  obtain ⟨p, l, e, R, s, m, args, below, meth, c0, cells, slots, Z, F⟩ := G
  intro ok r hr hK H locs ls hP hS hl
  exact va_gets ok.1 ok.2.1 ok.2.2.2.2.2.2.2.2.1.2.2.1 hS ok.2.2.2.2.2.1 (ok.2.2.2.2.2.2.1 _ hw) (fun _ h => h) hd (k ok r hr hK H locs ls hP hS hl)
theorem J_gsF {idx : Nat} (hw : Cond.fieldLink own idx "jdk/internal/util/Preconditions" "SIOOBE_FORMATTER" "Ljava/util/function/BiFunction;" ∈ llTb) (hd : decode cc pc = .ok (.getstatic idx, 3)) (k : llJ G own cc nL ret d K (pc + 3) lv (va_rf (llFm G) :: rest) u x) : llJ G own cc nL ret d K pc lv rest u x := by
  obtain ⟨p, l, e, R, s, m, args, below, meth, c0, cells, slots, Z, F⟩ := G
  intro ok r hr hK H locs ls hP hS hl
  exact va_gets ok.1 ok.2.1 ok.2.2.2.2.2.2.2.2.1.2.2.2 hS ok.2.2.2.2.2.1 (ok.2.2.2.2.2.2.1 _ hw) (fun _ h => h) hd (k ok r hr hK H locs ls hP hS hl)
theorem J_slen {j : Nat} (hj : j < 7) (hd : decode cc pc = .ok (.arraylength, 1)) (k : llJ G own cc nL ret d K (pc + 1) lv (.int (nI (llLen.getD j 0)) :: rest) u x) : llJ G own cc nL ret d K pc lv (.ref (llSv G j) :: rest) u x := by
  obtain ⟨p, l, e, R, s, m, args, below, meth, c0, cells, slots, Z, F⟩ := G
  intro ok r hr hK H locs ls hP hS hl
  exact va_tlen ok.1 ok.2.1 (ok.2.2.2.2.2.2.2.2.1.1.1 j hj).2.2.2 hS rfl hd (k ok r hr hK H locs ls hP hS hl)
theorem J_sald {j : Nat} {i : Int32} (hj : j < 7) (hd : decode cc pc = .ok (.baload, 1)) (k : llJ G own cc nL ret d K (pc + 1) lv (.int ((llByt.getD j []).getD i.toNatClampNeg 0) :: rest) u x) : llJ G own cc nL ret d K pc lv (.int i :: .ref (llSv G j) :: rest) u (gI i (llLen.getD j 0) x) := by
  obtain ⟨p, l, e, R, s, m, args, below, meth, c0, cells, slots, Z, F⟩ := G
  intro ok r hr hK H locs ls hP hS hl
  obtain ⟨hg, hr⟩ := gI_some hr
  exact va_tb ok.1 ok.2.1 (ok.2.2.2.2.2.2.2.2.1.1.1 j hj).2.2.2 hS hg rfl hd (k ok r hr hK H locs ls hP hS hl)
theorem J_i2c {a v : Int32} (hd : decode cc pc = .ok (.i2c, 1)) (hv : (a.toUInt32 % 65536).toInt32 = v) (k : llJ G own cc nL ret d K (pc + 1) lv (.int v :: rest) u x) : llJ G own cc nL ret d K pc lv (.int a :: rest) u x := by
  obtain ⟨p, l, e, R, s, m, args, below, meth, c0, cells, slots, Z, F⟩ := G
  intro ok r hr hK H locs ls hP hS hl
  exact lv_i2c ok.1 ok.2.1 hd hv (k ok r hr hK H locs ls hP hS hl)
theorem J_xret {ty : FieldType} {v : Int32} {r0 : ρ} (hd : decode cc pc = .ok (.ireturn, 1)) (hn : narrow ty (.int v) = .int v) (h : K r0 → llRet G (some (.int v)) u) : llJ G own cc nL (some ty) d K pc lv [.int v] u (some r0) := by
  obtain ⟨p, l, e, R, s, m, args, below, meth, c0, cells, slots, Z, F⟩ := G
  intro ok r hr hK H locs ls hP hS hl
  cases hr
  obtain ⟨Qc, rfl, hQ⟩ := h hK
  exact W.zret ok.1 ok.2.1 ok.2.2.2.1 hn (fun t ht _ => hQ H locs t hP hS ht) (fun q hq => hS.2.2 q hq) hd ok.2.2.2.2.1
theorem J_eqx {st : List Value} {y : Option ρ} (h : x = y) (k : llJ G own cc nL ret d K pc lv st u y) : llJ G own cc nL ret d K pc lv st u x := by subst h; exact k
theorem J_pq {a : Value} {st : List Value} (h : a :: rest = st) (k : llJ G own cc nL ret d K pc lv (a :: rest) u x) : llJ G own cc nL ret d K pc lv st u x := by subst h; exact k
end
section
variable {ρ : Type} {G : llG} {own : String} {cc : ByteArray} {nL : Nat} {ret : Option FieldType} {d : Nat} {K : ρ → Prop} {pc : Nat} {lv : List (Nat × Value)} {rest : List Value} {u : llMem} {x : Option ρ}
theorem J_callT {α : Type} {mk : α → Option Value} {y : MethodName} {cy : ByteArray} {ny n idx c : Nat} {ry : Option FieldType} {As st : List Value} {x0 : Option (llMem × α)} {kx : llMem → α → Option ρ} (hd : decode cc pc = .ok (.invokevirtual idx, 3)) (hc : llCt (llL G) (llFx G) y cy ny ry d (.ref (llSk G c) :: As) u mk x0) (hy : llYv y cy ny ry n) (hw : Cond.methodLink own idx y ∈ llTb) (hs : c < 7) (hcl : y.cls = "java/lang/String") (hst : st = As.reverse ++ .ref (llSk G c) :: rest) (hn : As.length = n) (hrm : (rest.map fun v => v.category).sum ≤ 8) (k : ∀ u' a, x0 = some (u', a) → llJ G own cc nL ret (d + 1) K (pc + 3) lv ((mk a).toList ++ rest) u' (kx u' a)) : llJ G own cc nL ret (d + 1) K pc lv st u (bd x0 kx) := by
  obtain ⟨p, l, e, R, s, m, args, below, meth, c0, cells, slots, Z, F⟩ := G
  intro ok r hr hK H locs ls hP hS hl
  obtain ⟨q, hq, hr⟩ := bd_some hr
  obtain ⟨y1, y2, y3, y4, y5, y6⟩ := hy
  have hts := ok.2.2.2.2.2.2.1
  have hM := hc q hq
  have hB : CallB R s args own idx y cy ny ry (Cond.code y cy ny ry :: llTb) (llRm d) 0 0 n := callB_of n hts (llGood y1) rfl rfl rfl (hts _ y4) (hts _ hw) y5 ⟨by show d + 1 + 1 ≤ R.frames; exact ok.2.2.2.2.2.2.2.2.2.1, by show 8 + (ny + 11) + 64 * (d + 1) ≤ R.locals; have := ok.2.2.2.2.2.2.2.2.2.2.1; omega⟩
  refine ll_call (r := q) (rest := rest) (va_runV (As := As) (b := F.2.2.2.1 c) (C := y.cls) (cc := cc) (nL := nL) (Ts := llTb) (own := own) (n := n) ⟨ok.1, ok.2.1, ok.2.2.1, ok.2.2.2.2.2.1, hts⟩ hM ⟨hB, hts _ y2, hts _ y3⟩ ⟨llBlind F _ u, ?_, fun U hU hW => ⟨rfl, by rw [hU]; exact hP, ok.2.2.2.2.2.2.2.1.moved hW.alike, ?_⟩⟩ rfl hn hl.1 hst (lv_room hrm) hd ⟨ok.2.2.2.2.2.2.2.2.2.2.2.1, ok.2.2.2.2.2.2.2.2.2.2.2.2⟩) hS (fun H1 locs1 hP1 hS1 => k q.1 q.2 hq ok r hr hK H1 locs1 ls hP1 hS1 hl)
  · rw [hcl]
    exact vk_recv ok.2.2.2.2.2.2.2.2.1.1 hs hS
  · rw [hU]
    exact (ok.2.2.2.2.2.2.2.2.1.kept hS.2.1).moved hW
theorem J_callTip0 {y : MethodName} {cy : ByteArray} {ny idx c : Nat} {ry : Option FieldType} {x0 : Option Int32} {kx : Int32 → Option ρ} (hd : decode cc pc = .ok (.invokevirtual idx, 3)) (hc : llCp (llL G) (llFx G) y cy ny ry d [.ref (llSk G c)] u llI x0) (hy : llYv y cy ny ry 0) (hw : Cond.methodLink own idx y ∈ llTb) (j : Nat) (hs : c < 7) (hrm : (rest.map fun v => v.category).sum ≤ 8) (hcl : y.cls = "java/lang/String") (k : ∀ a, llJ G own cc nL ret (d + 1) K (pc + 3) lv (.int a :: rest) u (kx a)) : llJ G own cc nL ret (d + 1) K pc lv (.ref (llSk G c) :: rest) u (x0.bind kx) := by
  intro ok r hr hK
  refine J_callT (As := []) (rest := rest) (kx := fun _ a => kx a) hd hc hy hw hs hcl rfl rfl hrm (fun u' a e => ?_) ok r (llP_bind hr) hK
  have e := llP_eq e
  subst e
  exact k a
theorem J_callTip1 {y : MethodName} {cy : ByteArray} {ny idx c : Nat} {ry : Option FieldType} {a0 : Value} {x0 : Option Int32} {kx : Int32 → Option ρ} (hd : decode cc pc = .ok (.invokevirtual idx, 3)) (hc : llCp (llL G) (llFx G) y cy ny ry d (.ref (llSk G c) :: [a0]) u llI x0) (hy : llYv y cy ny ry 1) (hw : Cond.methodLink own idx y ∈ llTb) (j : Nat) (hs : c < 7) (hrm : (rest.map fun v => v.category).sum ≤ 8) (hcl : y.cls = "java/lang/String") (k : ∀ a, llJ G own cc nL ret (d + 1) K (pc + 3) lv (.int a :: rest) u (kx a)) : llJ G own cc nL ret (d + 1) K pc lv (a0 :: .ref (llSk G c) :: rest) u (x0.bind kx) := by
  intro ok r hr hK
  refine J_callT (As := [a0]) (rest := rest) (kx := fun _ a => kx a) hd hc hy hw hs hcl rfl rfl hrm (fun u' a e => ?_) ok r (llP_bind hr) hK
  have e := llP_eq e
  subst e
  exact k a
end
theorem llByt_ok0 : ∀ j, j < 7 → ∀ b ∈ llByt.getD j [], ((b &&& 255).toUInt32 % 65536).toInt32 = b ∧ narrow .char (.int b) = .int b := by decide +kernel
theorem llByt_ok (j : Nat) (hj : j < 7) (b : Int32) (h : b ∈ llByt.getD j [] ∨ b = 0) : ((b &&& 255).toUInt32 % 65536).toInt32 = b ∧ narrow .char (.int b) = .int b := by
  rcases h with h | rfl
  · exact llByt_ok0 j hj b h
  · exact ⟨by decide +kernel, by decide +kernel⟩
theorem t_coder (l : Launch) (F : llFix) (d : Nat) (j : Nat) (hj : j < 7) (u : llMem) : llCp l F yJ0_coder_7d493 cJ0_coder_7d493 1 (some .byte) d [.ref (F.2.2.2.1 j)] u llI (some 0) := llCp.of (by decide +kernel) (by exact Nat.le_of_ble_eq_true rfl) (fun G h1 h2 => by
  subst h1; subst h2
  refine J_eqx (y := if (1 : Int32) = 0 then none else some 0) (by decide) ?_
  refine J_gsZ (own := RJ0) (lv := [(0, .ref (llSk G j))]) wd_1353 dJ0_coder_7d493_0 ?_
  refine J_if_eq (tgt := 13) dJ0_coder_7d493_3 (by decide) ?_ ?_
  · exact J_none
  · refine J_aload_n (j := 0) dJ0_coder_7d493_6 rfl rfl ?_
    refine J_scoder hj wd_1736 dJ0_coder_7d493_7 ?_
    refine J_goto (tgt := 14) dJ0_coder_7d493_10 (by decide) ?_
    exact J_xret dJ0_coder_7d493_14 (by decide) (fun h => h))
theorem t_isLatin1 (l : Launch) (F : llFix) (d : Nat) (j : Nat) (hj : j < 7) (u : llMem) : llCp l F yJ0_isLatin1_aae02 cJ0_isLatin1_aae02 1 (some .boolean) d [.ref (F.2.2.2.1 j)] u llI (some 1) := llCp.of (by decide +kernel) (by exact Nat.le_of_ble_eq_true rfl) (fun G h1 h2 => by
  subst h1; subst h2
  refine J_eqx (y := if (1 : Int32) = 0 then none else if ¬ (0 : Int32) = 0 then none else some 1) (by decide) ?_
  refine J_gsZ (own := RJ0) (lv := [(0, .ref (llSk G j))]) wd_1353 dJ0_isLatin1_aae02_0 ?_
  refine J_if_eq (tgt := 17) dJ0_isLatin1_aae02_3 (by decide) ?_ ?_
  · exact J_none
  · refine J_aload_n (j := 0) dJ0_isLatin1_aae02_6 rfl rfl ?_
    refine J_scoder hj wd_1736 dJ0_isLatin1_aae02_7 ?_
    refine J_if_ne (tgt := 17) dJ0_isLatin1_aae02_10 (by decide) ?_ ?_
    · exact J_none
    · refine J_iconst (v := 1) dJ0_isLatin1_aae02_13 (by decide) ?_
      refine J_goto (tgt := 18) dJ0_isLatin1_aae02_14 (by decide) ?_
      exact J_xret dJ0_isLatin1_aae02_18 (by decide) (fun h => h))
theorem t_chkIndex3 (l : Launch) (F : llFix) (d : Nat) (u : llMem) (a b : Int32) : llCp l F yJ3_checkIndex_8e157 cJ3_checkIndex_8e157 3 (some .int) d [.int a, .int b, va_rf F.2.2.2.2.2] u llI (if a < 0 then none else if a < b then some a else none) := llCp.of (by decide +kernel) (by cases F.2.2.2.2.2 <;> exact Nat.le_of_ble_eq_true rfl) (fun G h1 h2 => by
  subst h1; subst h2
  refine J_iload_n (lv := [(0, .int a), (1, .int b), (2, va_rf (llFm G))]) (j := 0) dJ3_checkIndex_8e157_0 rfl rfl ?_
  refine J_if_lt (tgt := 9) dJ3_checkIndex_8e157_1 (by decide) ?_ ?_
  · exact J_none
  · refine J_iload_n (j := 0) dJ3_checkIndex_8e157_4 rfl rfl ?_
    refine J_iload_n (j := 1) dJ3_checkIndex_8e157_5 rfl rfl ?_
    refine J_icmp_lt (tgt := 16) dJ3_checkIndex_8e157_6 (by decide) ?_ ?_
    · refine J_iload_n (j := 0) dJ3_checkIndex_8e157_16 rfl rfl ?_
      exact J_iret dJ3_checkIndex_8e157_17 (fun h => h)
    · exact J_none)
theorem t_chkIndex (l : Launch) (F : llFix) (d : Nat) (u : llMem) (a b : Int32) : llCt l F yJ0_checkIndex_df160 cJ0_checkIndex_df160 2 none (d + 1) [.int a, .int b] u llVd ((if a < 0 then none else if a < b then some a else none).bind (fun (_ : Int32) => some (u, ()))) := llCt.of (by decide +kernel) (by exact Nat.le_of_ble_eq_true rfl) (fun G h1 h2 => by
  subst h1; subst h2
  refine J_iload_n (lv := [(0, .int a), (1, .int b)]) (j := 0) dJ0_checkIndex_df160_0 rfl rfl ?_
  refine J_iload_n (j := 1) dJ0_checkIndex_df160_1 rfl rfl ?_
  refine J_gsF (own := RJ0) wd_1372 dJ0_checkIndex_df160_2 ?_
  refine J_callSip3 dJ0_checkIndex_df160_5 (t_chkIndex3 (llL G) (llFx G) d u a b) ym_J3_checkIndex_8e157 wd_1374 (Nat.le_of_ble_eq_true rfl) (fun r => ?_)
  refine J_pop dJ0_checkIndex_df160_8 rfl ?_
  exact J_vret dJ0_checkIndex_df160_9 (fun h => h))
theorem t_charAtL (l : Launch) (F : llFix) (d : Nat) (j : Nat) (hj : j < 7) (u : llMem) (k : Int32) : llCp l F yJ1_charAt_3b067 cJ1_charAt_3b067 2 (some .char) (d + 2) [.ref (F.2.2.2.2.1 j), .int k] u llI (fx_charAt j u k) := llCp.of (by decide +kernel) (by exact Nat.le_of_ble_eq_true rfl) (fun G h1 h2 => by
  subst h1; subst h2
  refine J_eqx (y := bd ((if k < 0 then none else if k < nI (llLen.getD j 0) then some k else none).bind (fun (_ : Int32) => some (u, ()))) (fun _ _ => gI k (llLen.getD j 0) (some ((llByt.getD j []).getD k.toNatClampNeg 0)))) ?_ ?_
  · have hL : llLen.getD j 0 < 2 ^ 31 := by
      rcases (show j = 0 ∨ j = 1 ∨ j = 2 ∨ j = 3 ∨ j = 4 ∨ j = 5 ∨ j = 6 by omega) with rfl | rfl | rfl | rfl | rfl | rfl | rfl <;> decide
    unfold fx_charAt
    by_cases h0 : k < 0
    · rw [if_pos h0]
      show gI k (llLen.getD j 0) (some ((llByt.getD j []).getD k.toNatClampNeg 0)) = none
      unfold gI
      rw [if_pos (Or.inl h0)]
    · rw [if_neg h0]
      by_cases h1 : k < nI (llLen.getD j 0)
      · rw [if_pos h1]
        rfl
      · rw [if_neg h1]
        show gI k (llLen.getD j 0) (some ((llByt.getD j []).getD k.toNatClampNeg 0)) = none
        have h2 : llLen.getD j 0 ≤ k.toNatClampNeg := by
          apply Nat.le_of_not_lt
          intro h
          apply h1
          rw [Int32.lt_iff_toInt_lt, nI_toInt hL]
          have h3 : (0 : Int) ≤ k.toInt := by
            have := Int32.not_lt.mp h0
            simpa using Int32.le_iff_toInt_le.mp this
          have h4 : k.toNatClampNeg = k.toInt.toNat := rfl
          omega
        unfold gI
        rw [if_pos (Or.inr h2)]
  · refine J_iload_n (lv := [(0, .ref (llSv G j)), (1, .int k)]) (j := 1) dJ1_charAt_3b067_0 rfl rfl ?_
    refine J_aload_n (j := 0) dJ1_charAt_3b067_1 rfl rfl ?_
    refine J_slen hj dJ1_charAt_3b067_2 ?_
    refine J_callS (mk := llVd) (As := [.int k, .int (nI (llLen.getD j 0))]) (rest := []) dJ1_charAt_3b067_3 (t_chkIndex (llL G) (llFx G) d u k (nI (llLen.getD j 0))) ym_J0_checkIndex_df160 wd_1369 rfl rfl (Nat.le_of_ble_eq_true rfl) (fun u' a e => ?_)
    have e : u = u' := by
      cases hq : (if k < 0 then none else if k < nI (llLen.getD j 0) then some k else none) with
      | none => rw [hq] at e; cases e
      | some q => rw [hq] at e; cases e; rfl
    subst e
    refine J_aload_n (rest := []) (j := 0) dJ1_charAt_3b067_6 rfl rfl ?_
    refine J_iload_n (j := 1) dJ1_charAt_3b067_7 rfl rfl ?_
    refine J_sald hj dJ1_charAt_3b067_8 ?_
    refine J_sipush (v := 255) dJ1_charAt_3b067_9 (by decide) ?_
    refine J_iand dJ1_charAt_3b067_12 ?_
    have hc := llByt_ok j hj
    have hb : (llByt.getD j []).getD k.toNatClampNeg 0 ∈ llByt.getD j [] ∨ (llByt.getD j []).getD k.toNatClampNeg 0 = 0 := by
      show (((llByt.getD j [])[k.toNatClampNeg]?).getD 0) ∈ llByt.getD j [] ∨ (((llByt.getD j [])[k.toNatClampNeg]?).getD 0) = 0
      cases hg : (llByt.getD j [])[k.toNatClampNeg]? with
      | none => exact Or.inr rfl
      | some b => exact Or.inl (List.mem_of_getElem? hg)
    obtain ⟨c1, c2⟩ := hc _ hb
    refine J_i2c dJ1_charAt_3b067_13 c1 ?_
    exact J_xret dJ1_charAt_3b067_14 c2 (fun h => h))
theorem t_strlen (l : Launch) (F : llFix) (d : Nat) (j : Nat) (hj : j < 7) (u : llMem) : llCp l F yJ0_length_8abf5 cJ0_length_8abf5 1 (some .int) (d + 5) [.ref (F.2.2.2.1 j)] u llI (fx_strlen j u) := llCp.of (by decide +kernel) (by exact Nat.le_of_ble_eq_true rfl) (fun G h1 h2 => by
  subst h1; subst h2
  refine J_eqx (y := (some (0 : Int32)).bind (fun r => some (nI (llLen.getD j 0) >>> (r &&& 31)))) ?_ ?_
  · have h : ∀ j, j < 7 → (some (nI (llLen.getD j 0)) : Option Int32) = some (nI (llLen.getD j 0) >>> ((0 : Int32) &&& 31)) := by decide +kernel
    exact h j hj
  · refine J_aload_n (lv := [(0, .ref (llSk G j))]) (j := 0) dJ0_length_8abf5_0 rfl rfl ?_
    refine J_sval hj wd_1735 dJ0_length_8abf5_1 ?_
    refine J_slen hj dJ0_length_8abf5_4 ?_
    refine J_aload_n (j := 0) dJ0_length_8abf5_5 rfl rfl ?_
    refine J_callTip0 dJ0_length_8abf5_6 (t_coder (llL G) (llFx G) (d + 4) j hj u) ym_J0_coder_7d493 wd_1349 j hj (Nat.le_of_ble_eq_true rfl) rfl (fun r => ?_)
    refine J_ishr dJ0_length_8abf5_9 ?_
    exact J_iret dJ0_length_8abf5_10 (fun h => h))
theorem t_charAt (l : Launch) (F : llFix) (d : Nat) (j : Nat) (hj : j < 7) (u : llMem) (k : Int32) : llCp l F yJ0_charAt_5068e cJ0_charAt_5068e 2 (some .char) (d + 5) [.ref (F.2.2.2.1 j), .int k] u llI (fx_charAt j u k) := llCp.of (by decide +kernel) (by exact Nat.le_of_ble_eq_true rfl) (fun G h1 h2 => by
  subst h1; subst h2
  have hc := llByt_ok j hj
  have hb : (llByt.getD j []).getD k.toNatClampNeg 0 ∈ llByt.getD j [] ∨ (llByt.getD j []).getD k.toNatClampNeg 0 = 0 := by
    show (((llByt.getD j [])[k.toNatClampNeg]?).getD 0) ∈ llByt.getD j [] ∨ (((llByt.getD j [])[k.toNatClampNeg]?).getD 0) = 0
    cases hg : (llByt.getD j [])[k.toNatClampNeg]? with
    | none => exact Or.inr rfl
    | some b => exact Or.inl (List.mem_of_getElem? hg)
  have hn := (hc _ hb).2
  refine J_eqx (y := (some (1 : Int32)).bind (fun r => if r = 0 then none else bd ((fx_charAt j u k).map (fun a => (u, a))) (fun _ a => if a = (llByt.getD j []).getD k.toNatClampNeg 0 then some a else none))) ?_ ?_
  · show fx_charAt j u k = if (1 : Int32) = 0 then none else _
    rw [if_neg (by decide)]
    unfold fx_charAt gI
    split <;> simp [bd]
  · refine J_aload_n (lv := [(0, .ref (llSk G j)), (1, .int k)]) (j := 0) dJ0_charAt_5068e_0 rfl rfl ?_
    refine J_callTip0 dJ0_charAt_5068e_1 (t_isLatin1 (llL G) (llFx G) (d + 4) j hj u) ym_J0_isLatin1_aae02 wd_1362 j hj (Nat.le_of_ble_eq_true rfl) rfl (fun r => ?_)
    refine J_if_eq (tgt := 16) dJ0_charAt_5068e_4 (by decide) ?_ ?_
    · exact J_none
    · refine J_aload_n (j := 0) dJ0_charAt_5068e_7 rfl rfl ?_
      refine J_sval hj wd_1735 dJ0_charAt_5068e_8 ?_
      refine J_iload_n (j := 1) dJ0_charAt_5068e_11 rfl rfl ?_
      refine J_callS (mk := llI) (As := [.ref (llSv G j), .int k]) (rest := []) dJ0_charAt_5068e_12 (t_charAtL (llL G) (llFx G) (d + 2) j hj u k) ym_J1_charAt_3b067 wd_1366 rfl rfl (Nat.le_of_ble_eq_true rfl) (fun u' a e => ?_)
      have e := llP_eq e
      subst e
      refine J_case (fun ha => ?_) (fun _ => J_none)
      exact J_xret dJ0_charAt_5068e_15 (by rw [ha]; exact hn) (fun h => h))
