def fx_X12_pyramid_69_j50_b27 (u : llMem) (t0 : Int32) : Option ((llMem × Int32) ⊕ (llMem)) := some (.inl (u, t0))
set_option maxRecDepth 20000 in
theorem t_X12_pyramid_69_j50_b27 {G : llG} {d : Nat} (u : llMem) (t0 : Int32) : llJ G RX12 cX12_pyramid 4 (some .int) (d + 11) (Sum.elim (fun s' => llJq G 4 27 [(0, .ref (llAd G 69)), (1, .int s'.2)] [] s'.1) (fun e => llJq G 4 54 [(0, .ref (llAd G 69))] [] e)) 50 [(0, .ref (llAd G 69))] [.int t0] u (fx_X12_pyramid_69_j50_b27 u t0) := by
  unfold fx_X12_pyramid_69_j50_b27
  refine J_istore_n [(1, .int t0), (0, .ref (llAd G 69))] dX12_pyramid_50 rfl (by decide) rfl ?_
  refine J_goto (tgt := 27) dX12_pyramid_51 (by decide) ?_
  exact J_cut [1, 0] (lv' := [(0, .ref (llAd G 69)), (1, .int t0)]) rfl (fun h => h)
def fx_X12_pyramid_69_j49_b27 (u : llMem)  : Option ((llMem × Int32) ⊕ (llMem)) := fx_X12_pyramid_69_j50_b27 u 0
set_option maxRecDepth 20000 in
theorem t_X12_pyramid_69_j49_b27 {G : llG} {d : Nat} (u : llMem)  : llJ G RX12 cX12_pyramid 4 (some .int) (d + 11) (Sum.elim (fun s' => llJq G 4 27 [(0, .ref (llAd G 69)), (1, .int s'.2)] [] s'.1) (fun e => llJq G 4 54 [(0, .ref (llAd G 69))] [] e)) 49 [(0, .ref (llAd G 69))] [] u (fx_X12_pyramid_69_j49_b27 u ) := by
  unfold fx_X12_pyramid_69_j49_b27
  refine J_iconst (v := 0) dX12_pyramid_49 (by decide) ?_
  refine J_sub [0] (lv' := [(0, .ref (llAd G 69))]) rfl ?_
  exact t_X12_pyramid_69_j50_b27 u 0
def fx_X12_pyramid_69_l27  (s : llMem × Int32) : Option ((llMem × Int32) ⊕ (llMem)) := (if s.2 = 0 then some (.inr s.1) else bd (fx_X12_readLine_69 s.1 ) (fun u4 r5 => (if r5 = 0 then fx_X12_pyramid_69_j49_b27 u4  else (if (u4.1 69 21) = 0 then fx_X12_pyramid_69_j49_b27 u4  else fx_X12_pyramid_69_j50_b27 u4 1))))
set_option maxRecDepth 20000 in
theorem t_X12_pyramid_69_l27 {G : llG} {d : Nat}  (s : llMem × Int32) : llJ G RX12 cX12_pyramid 4 (some .int) (d + 11) (Sum.elim (fun s' => llJq G 4 27 [(0, .ref (llAd G 69)), (1, .int s'.2)] [] s'.1) (fun e => llJq G 4 54 [(0, .ref (llAd G 69))] [] e)) 27 [(0, .ref (llAd G 69)), (1, .int s.2)] [] s.1 (fx_X12_pyramid_69_l27 s) := by
  unfold fx_X12_pyramid_69_l27
  refine J_iload_n (j := 1) dX12_pyramid_27 rfl rfl ?_
  refine J_if_eq (tgt := 54) dX12_pyramid_28 (by decide) ?_ ?_
  · exact J_cut [0] (lv' := [(0, .ref (llAd G 69))]) rfl (fun h => h)
  · refine J_aload_n (j := 0) dX12_pyramid_31 rfl rfl ?_
    refine J_callVi0 dX12_pyramid_32 (t_X12_readLine_69 (llL G) (llFx G) d s.1 ) ym_X12_readLine wd_1336 sh_69 rfl (Nat.le_of_ble_eq_true rfl) (fun u4 r5 => ?_)
    refine J_if_eq (tgt := 49) dX12_pyramid_35 (by decide) ?_ ?_
    · refine J_sub [0] (lv' := [(0, .ref (llAd G 69))]) rfl ?_
      exact t_X12_pyramid_69_j49_b27 u4 
    · refine J_aload_n (j := 0) dX12_pyramid_38 rfl rfl ?_
      refine J_getI dX12_pyramid_39 fl_X12_144 sh_69 rfl ?_
      refine J_if_eq (tgt := 49) dX12_pyramid_42 (by decide) ?_ ?_
      · refine J_sub [0] (lv' := [(0, .ref (llAd G 69))]) rfl ?_
        exact t_X12_pyramid_69_j49_b27 u4 
      · refine J_iconst (v := 1) dX12_pyramid_45 (by decide) ?_
        refine J_goto (tgt := 50) dX12_pyramid_46 (by decide) ?_
        refine J_sub [0] (lv' := [(0, .ref (llAd G 69))]) rfl ?_
        exact t_X12_pyramid_69_j50_b27 u4 1
def fx_X12_pyramid_69_j116_b73_b56 (u : llMem) (v2 : Int32) (v3 : Int32) : Option ((llMem × Int32) ⊕ (llMem)) := lt (v3 + 1) (fun v3_8 => some (.inl (u, v3_8)))
set_option maxRecDepth 20000 in
theorem t_X12_pyramid_69_j116_b73_b56 {G : llG} {d : Nat} (u : llMem) (v2 : Int32) (v3 : Int32) : llJ G RX12 cX12_pyramid 4 (some .int) (d + 11) (Sum.elim (fun s' => llJq G 4 73 [(0, .ref (llAd G 69)), (2, .int v2), (3, .int s'.2)] [] s'.1) (fun e => llJq G 4 122 [(0, .ref (llAd G 69)), (2, .int v2)] [] e)) 116 [(0, .ref (llAd G 69)), (2, .int v2), (3, .int v3)] [] u (fx_X12_pyramid_69_j116_b73_b56 u v2 v3) := by
  unfold fx_X12_pyramid_69_j116_b73_b56
  refine J_iinc (j := 2) (b := 1) (fun v3_8 => [(3, .int v3_8), (0, .ref (llAd G 69)), (2, .int v2)]) dX12_pyramid_116 rfl (by decide) (by decide) (fun _ => rfl) (fun v3_8 => ?_)
  refine J_goto (tgt := 73) dX12_pyramid_119 (by decide) ?_
  exact J_cut [1, 2, 0] (lv' := [(0, .ref (llAd G 69)), (2, .int v2), (3, .int v3_8)]) rfl (fun h => h)
def fx_X12_pyramid_69_l73_b56 (v2 : Int32) (s : llMem × Int32) : Option ((llMem × Int32) ⊕ (llMem)) := gI ((4 * (4 + v2)) + 0) 32 ((if (rI s.1 70 ((4 * (4 + v2)) + 0)) ≤ s.2 then some (.inr s.1) else (fx_X12_manyIn_69 s.1 v2 s.2).bind (fun r7 => gI ((4 * (4 + v2)) + 1) 32 ((if (rI s.1 70 ((4 * (4 + v2)) + 1)) ≤ r7 then fx_X12_pyramid_69_j116_b73_b56 s.1 v2 s.2 else bd (fx_X12_fails_69 s.1 5) (fun u9 r10 => fx_X12_pyramid_69_j116_b73_b56 u9 v2 s.2))))))
set_option maxRecDepth 20000 in
theorem t_X12_pyramid_69_l73_b56 {G : llG} {d : Nat} (v2 : Int32) (s : llMem × Int32) : llJ G RX12 cX12_pyramid 4 (some .int) (d + 11) (Sum.elim (fun s' => llJq G 4 73 [(0, .ref (llAd G 69)), (2, .int v2), (3, .int s'.2)] [] s'.1) (fun e => llJq G 4 122 [(0, .ref (llAd G 69)), (2, .int v2)] [] e)) 73 [(0, .ref (llAd G 69)), (2, .int v2), (3, .int s.2)] [] s.1 (fx_X12_pyramid_69_l73_b56 v2 s) := by
  unfold fx_X12_pyramid_69_l73_b56
  refine J_iload_n (j := 2) dX12_pyramid_73 rfl rfl ?_
  refine J_aload_n (j := 0) dX12_pyramid_74 rfl rfl ?_
  refine J_getR (b := 70) dX12_pyramid_75 fl_X12_7 sh_69 rfl ?_
  refine J_iconst (v := 4) dX12_pyramid_78 (by decide) ?_
  refine J_iconst (v := 4) dX12_pyramid_79 (by decide) ?_
  refine J_iload_n (j := 1) dX12_pyramid_80 rfl rfl ?_
  refine J_iadd dX12_pyramid_81 ?_
  refine J_imul dX12_pyramid_82 ?_
  refine J_iconst (v := 0) dX12_pyramid_83 (by decide) ?_
  refine J_iadd dX12_pyramid_84 ?_
  refine J_iald dX12_pyramid_85 sh_70 ?_
  refine J_icmp_ge (tgt := 122) dX12_pyramid_86 (by decide) ?_ ?_
  · exact J_cut [0, 1] (lv' := [(0, .ref (llAd G 69)), (2, .int v2)]) rfl (fun h => h)
  · refine J_aload_n (j := 0) dX12_pyramid_89 rfl rfl ?_
    refine J_iload_n (j := 1) dX12_pyramid_90 rfl rfl ?_
    refine J_iload_n (j := 2) dX12_pyramid_91 rfl rfl ?_
    refine J_callVip2 dX12_pyramid_92 (t_X12_manyIn_69 (llL G) (llFx G) (d + 9) s.1 v2 s.2) ym_X12_manyIn wd_1435 sh_69 rfl (Nat.le_of_ble_eq_true rfl) (fun r7 => ?_)
    refine J_aload_n (j := 0) dX12_pyramid_95 rfl rfl ?_
    refine J_getR (b := 70) dX12_pyramid_96 fl_X12_7 sh_69 rfl ?_
    refine J_iconst (v := 4) dX12_pyramid_99 (by decide) ?_
    refine J_iconst (v := 4) dX12_pyramid_100 (by decide) ?_
    refine J_iload_n (j := 1) dX12_pyramid_101 rfl rfl ?_
    refine J_iadd dX12_pyramid_102 ?_
    refine J_imul dX12_pyramid_103 ?_
    refine J_iconst (v := 1) dX12_pyramid_104 (by decide) ?_
    refine J_iadd dX12_pyramid_105 ?_
    refine J_iald dX12_pyramid_106 sh_70 ?_
    refine J_icmp_ge (tgt := 116) dX12_pyramid_107 (by decide) ?_ ?_
    · refine J_sub [0, 1, 2] (lv' := [(0, .ref (llAd G 69)), (2, .int v2), (3, .int s.2)]) rfl ?_
      exact t_X12_pyramid_69_j116_b73_b56 s.1 v2 s.2
    · refine J_aload_n (j := 0) dX12_pyramid_110 rfl rfl ?_
      refine J_iconst (v := 5) dX12_pyramid_111 (by decide) ?_
      refine J_callVi1 dX12_pyramid_112 (t_X12_fails_69 (llL G) (llFx G) (d + 10) s.1 5) ym_X12_fails wd_1400 sh_69 rfl (Nat.le_of_ble_eq_true rfl) (fun u9 r10 => ?_)
      refine J_pop dX12_pyramid_115 rfl ?_
      refine J_sub [0, 1, 2] (lv' := [(0, .ref (llAd G 69)), (2, .int v2), (3, .int s.2)]) rfl ?_
      exact t_X12_pyramid_69_j116_b73_b56 u9 v2 s.2
def fx_X12_pyramid_69_l56  (s : llMem × Int32) : Option ((llMem × Int32) ⊕ (llMem)) := (if (s.1.1 69 2) ≤ s.2 then some (.inr s.1) else (if ¬ (s.1.1 69 19) = 0 then some (.inr s.1) else (loop (fx_X12_pyramid_69_l73_b56 s.2) llFuel (s.1, 0)).bind (fun e11 => lt (s.2 + 1) (fun v2_12 => some (.inl (e11, v2_12))))))
set_option maxRecDepth 20000 in
theorem t_X12_pyramid_69_l56 {G : llG} {d : Nat}  (s : llMem × Int32) : llJ G RX12 cX12_pyramid 4 (some .int) (d + 11) (Sum.elim (fun s' => llJq G 4 56 [(0, .ref (llAd G 69)), (2, .int s'.2)] [] s'.1) (fun e => llJq G 4 128 [(0, .ref (llAd G 69))] [] e)) 56 [(0, .ref (llAd G 69)), (2, .int s.2)] [] s.1 (fx_X12_pyramid_69_l56 s) := by
  unfold fx_X12_pyramid_69_l56
  refine J_iload_n (j := 1) dX12_pyramid_56 rfl rfl ?_
  refine J_aload_n (j := 0) dX12_pyramid_57 rfl rfl ?_
  refine J_getI dX12_pyramid_58 fl_X12_205 sh_69 rfl ?_
  refine J_icmp_ge (tgt := 128) dX12_pyramid_61 (by decide) ?_ ?_
  · exact J_cut [0] (lv' := [(0, .ref (llAd G 69))]) rfl (fun h => h)
  · refine J_aload_n (j := 0) dX12_pyramid_64 rfl rfl ?_
    refine J_getI dX12_pyramid_65 fl_X12_155 sh_69 rfl ?_
    refine J_if_ne (tgt := 128) dX12_pyramid_68 (by decide) ?_ ?_
    · exact J_cut [0] (lv' := [(0, .ref (llAd G 69))]) rfl (fun h => h)
    · refine J_iconst (v := 0) dX12_pyramid_71 (by decide) ?_
      refine J_istore_n [(3, .int 0), (0, .ref (llAd G 69)), (2, .int s.2)] dX12_pyramid_72 rfl (by decide) rfl ?_
      refine J_loopE (fun s' => [(0, .ref (llAd G 69)), (2, .int s.2), (3, .int s'.2)]) (fun s' => s'.1) 122 (fun e => [(0, .ref (llAd G 69)), (2, .int s.2)]) (fun e => e) (fun z => t_X12_pyramid_69_l73_b56 s.2 z) [1, 2, 0] rfl rfl (fun e11 => ?_)
      refine J_iinc (j := 1) (b := 1) (fun v2_12 => [(2, .int v2_12), (0, .ref (llAd G 69))]) dX12_pyramid_122 rfl (by decide) (by decide) (fun _ => rfl) (fun v2_12 => ?_)
      refine J_goto (tgt := 56) dX12_pyramid_125 (by decide) ?_
      exact J_cut [1, 0] (lv' := [(0, .ref (llAd G 69)), (2, .int v2_12)]) rfl (fun h => h)
def fx_X12_isRead_69 (u : llMem)  : Option (llMem × Int32) := lt (llSI u 69 16 0) (fun u1 => lt (llSI u1 69 17 (u1.1 69 19)) (fun u2 => lt (llSI u2 69 18 (u2.1 69 20)) (fun u3 => (if ¬ (u3.1 69 19) = 0 then gB 0 (some (u3, 0)) else gB 1 (some (u3, 1))))))
set_option maxRecDepth 20000 in
theorem tj_X12_isRead_69 {G : llG} {d : Nat} (u : llMem)  : llJ G RX12 cX12_isRead 1 (some .boolean) d (fun r => llRet G (llI r.2) r.1) 0 [(0, .ref (llAd G 69))] [] u (fx_X12_isRead_69 u ) := by
  unfold fx_X12_isRead_69
  refine J_aload_n (j := 0) dX12_isRead_0 rfl rfl ?_
  refine J_iconst (v := 0) dX12_isRead_1 (by decide) ?_
  refine J_putI dX12_isRead_2 fl_X12_113 sh_69 rfl (fun u1 => ?_)
  refine J_aload_n (j := 0) dX12_isRead_5 rfl rfl ?_
  refine J_aload_n (j := 0) dX12_isRead_6 rfl rfl ?_
  refine J_getI dX12_isRead_7 fl_X12_155 sh_69 rfl ?_
  refine J_putI dX12_isRead_10 fl_X12_248 sh_69 rfl (fun u2 => ?_)
  refine J_aload_n (j := 0) dX12_isRead_13 rfl rfl ?_
  refine J_aload_n (j := 0) dX12_isRead_14 rfl rfl ?_
  refine J_getI dX12_isRead_15 fl_X12_158 sh_69 rfl ?_
  refine J_putI dX12_isRead_18 fl_X12_41 sh_69 rfl (fun u3 => ?_)
  refine J_aload_n (j := 0) dX12_isRead_21 rfl rfl ?_
  refine J_getI dX12_isRead_22 fl_X12_155 sh_69 rfl ?_
  refine J_if_ne (tgt := 32) dX12_isRead_25 (by decide) ?_ ?_
  · refine J_iconst (v := 0) dX12_isRead_32 (by decide) ?_
    exact J_zret dX12_isRead_33 (fun h => h)
  · refine J_iconst (v := 1) dX12_isRead_28 (by decide) ?_
    refine J_goto (tgt := 33) dX12_isRead_29 (by decide) ?_
    exact J_zret dX12_isRead_33 (fun h => h)
theorem t_X12_isRead_69 (l : Launch) (F : llFix) (d : Nat) (u : llMem)  : llCt l F yX12_isRead cX12_isRead 1 (some .boolean) d [.ref (F.2.2.1 69)] u llI (fx_X12_isRead_69 u ) := llCt.of (by decide +kernel) (by exact Nat.le_of_ble_eq_true rfl) (fun G h1 h2 => by subst h1; subst h2; exact tj_X12_isRead_69 u )
def fx_X12_pyramid_69_l160  (s : llMem × Int32) : Option ((llMem × Int32) ⊕ (llMem)) := (if 16 ≤ s.2 then some (.inr s.1) else gI (16 + s.2) 32 (gI s.2 32 (lt (llSI s.1 70 (Int32.toNatClampNeg s.2) (rI s.1 70 (16 + s.2))) (fun u19 => lt (s.2 + 1) (fun v2_20 => some (.inl (u19, v2_20)))))))
set_option maxRecDepth 20000 in
theorem t_X12_pyramid_69_l160 {G : llG} {d : Nat}  (s : llMem × Int32) : llJ G RX12 cX12_pyramid 4 (some .int) (d + 11) (Sum.elim (fun s' => llJq G 4 160 [(0, .ref (llAd G 69)), (2, .int s'.2)] [] s'.1) (fun e => llJq G 4 187 [(0, .ref (llAd G 69))] [] e)) 160 [(0, .ref (llAd G 69)), (2, .int s.2)] [] s.1 (fx_X12_pyramid_69_l160 s) := by
  unfold fx_X12_pyramid_69_l160
  refine J_iload_n (j := 1) dX12_pyramid_160 rfl rfl ?_
  refine J_bipush (v := 16) dX12_pyramid_161 (by decide) ?_
  refine J_icmp_ge (tgt := 187) dX12_pyramid_163 (by decide) ?_ ?_
  · exact J_cut [0] (lv' := [(0, .ref (llAd G 69))]) rfl (fun h => h)
  · refine J_aload_n (j := 0) dX12_pyramid_166 rfl rfl ?_
    refine J_getR (b := 70) dX12_pyramid_167 fl_X12_7 sh_69 rfl ?_
    refine J_iload_n (j := 1) dX12_pyramid_170 rfl rfl ?_
    refine J_aload_n (j := 0) dX12_pyramid_171 rfl rfl ?_
    refine J_getR (b := 70) dX12_pyramid_172 fl_X12_7 sh_69 rfl ?_
    refine J_bipush (v := 16) dX12_pyramid_175 (by decide) ?_
    refine J_iload_n (j := 1) dX12_pyramid_177 rfl rfl ?_
    refine J_iadd dX12_pyramid_178 ?_
    refine J_iald dX12_pyramid_179 sh_70 ?_
    refine J_iast dX12_pyramid_180 sh_70 (fun u19 => ?_)
    refine J_iinc (j := 1) (b := 1) (fun v2_20 => [(2, .int v2_20), (0, .ref (llAd G 69))]) dX12_pyramid_181 rfl (by decide) (by decide) (fun _ => rfl) (fun v2_20 => ?_)
    refine J_goto (tgt := 160) dX12_pyramid_184 (by decide) ?_
    exact J_cut [1, 0] (lv' := [(0, .ref (llAd G 69)), (2, .int v2_20)]) rfl (fun h => h)
def fx_X12_pyramid_69_l189  (s : llMem × Int32) : Option ((llMem × Int32) ⊕ (llMem)) := (if 30 ≤ s.2 then some (.inr s.1) else gI (30 + s.2) 60 (gI s.2 60 (lt (llSL s.1 71 (Int32.toNatClampNeg s.2) (rL s.1 71 (30 + s.2))) (fun u22 => gI (30 + s.2) 60 (gI s.2 60 (lt (llSI u22 72 (Int32.toNatClampNeg s.2) (rI u22 72 (30 + s.2))) (fun u23 => gI (30 + s.2) 60 (gI s.2 60 (lt (llSI u23 73 (Int32.toNatClampNeg s.2) (rI u23 73 (30 + s.2))) (fun u24 => gI (30 + s.2) 60 (gI s.2 60 (lt (llSI u24 74 (Int32.toNatClampNeg s.2) (rI u24 74 (30 + s.2))) (fun u25 => gI (30 + s.2) 60 (gI s.2 60 (lt (llSI u25 75 (Int32.toNatClampNeg s.2) (rI u25 75 (30 + s.2))) (fun u26 => gI (30 + s.2) 60 (gI (0 + s.2) 1020 (lt (llSI u26 77 (Int32.toNatClampNeg (0 + s.2)) (rI u26 76 (30 + s.2))) (fun u27 => lt (s.2 + 1) (fun v2_28 => some (.inl (u27, v2_28))))))))))))))))))))))
set_option maxRecDepth 20000 in
theorem t_X12_pyramid_69_l189 {G : llG} {d : Nat}  (s : llMem × Int32) : llJ G RX12 cX12_pyramid 4 (some .int) (d + 11) (Sum.elim (fun s' => llJq G 4 189 [(0, .ref (llAd G 69)), (2, .int s'.2)] [] s'.1) (fun e => llJq G 4 293 [(0, .ref (llAd G 69))] [] e)) 189 [(0, .ref (llAd G 69)), (2, .int s.2)] [] s.1 (fx_X12_pyramid_69_l189 s) := by
  unfold fx_X12_pyramid_69_l189
  refine J_iload_n (j := 1) dX12_pyramid_189 rfl rfl ?_
  refine J_bipush (v := 30) dX12_pyramid_190 (by decide) ?_
  refine J_icmp_ge (tgt := 293) dX12_pyramid_192 (by decide) ?_ ?_
  · exact J_cut [0] (lv' := [(0, .ref (llAd G 69))]) rfl (fun h => h)
  · refine J_aload_n (j := 0) dX12_pyramid_195 rfl rfl ?_
    refine J_getR (b := 71) dX12_pyramid_196 fl_X12_13 sh_69 rfl ?_
    refine J_iload_n (j := 1) dX12_pyramid_199 rfl rfl ?_
    refine J_aload_n (j := 0) dX12_pyramid_200 rfl rfl ?_
    refine J_getR (b := 71) dX12_pyramid_201 fl_X12_13 sh_69 rfl ?_
    refine J_bipush (v := 30) dX12_pyramid_204 (by decide) ?_
    refine J_iload_n (j := 1) dX12_pyramid_206 rfl rfl ?_
    refine J_iadd dX12_pyramid_207 ?_
    refine J_lald dX12_pyramid_208 sh_71 ?_
    refine J_last dX12_pyramid_209 sh_71 (fun u22 => ?_)
    refine J_aload_n (j := 0) dX12_pyramid_210 rfl rfl ?_
    refine J_getR (b := 72) dX12_pyramid_211 fl_X12_17 sh_69 rfl ?_
    refine J_iload_n (j := 1) dX12_pyramid_214 rfl rfl ?_
    refine J_aload_n (j := 0) dX12_pyramid_215 rfl rfl ?_
    refine J_getR (b := 72) dX12_pyramid_216 fl_X12_17 sh_69 rfl ?_
    refine J_bipush (v := 30) dX12_pyramid_219 (by decide) ?_
    refine J_iload_n (j := 1) dX12_pyramid_221 rfl rfl ?_
    refine J_iadd dX12_pyramid_222 ?_
    refine J_iald dX12_pyramid_223 sh_72 ?_
    refine J_iast dX12_pyramid_224 sh_72 (fun u23 => ?_)
    refine J_aload_n (j := 0) dX12_pyramid_225 rfl rfl ?_
    refine J_getR (b := 73) dX12_pyramid_226 fl_X12_20 sh_69 rfl ?_
    refine J_iload_n (j := 1) dX12_pyramid_229 rfl rfl ?_
    refine J_aload_n (j := 0) dX12_pyramid_230 rfl rfl ?_
    refine J_getR (b := 73) dX12_pyramid_231 fl_X12_20 sh_69 rfl ?_
    refine J_bipush (v := 30) dX12_pyramid_234 (by decide) ?_
    refine J_iload_n (j := 1) dX12_pyramid_236 rfl rfl ?_
    refine J_iadd dX12_pyramid_237 ?_
    refine J_iald dX12_pyramid_238 sh_73 ?_
    refine J_iast dX12_pyramid_239 sh_73 (fun u24 => ?_)
    refine J_aload_n (j := 0) dX12_pyramid_240 rfl rfl ?_
    refine J_getR (b := 74) dX12_pyramid_241 fl_X12_23 sh_69 rfl ?_
    refine J_iload_n (j := 1) dX12_pyramid_244 rfl rfl ?_
    refine J_aload_n (j := 0) dX12_pyramid_245 rfl rfl ?_
    refine J_getR (b := 74) dX12_pyramid_246 fl_X12_23 sh_69 rfl ?_
    refine J_bipush (v := 30) dX12_pyramid_249 (by decide) ?_
    refine J_iload_n (j := 1) dX12_pyramid_251 rfl rfl ?_
    refine J_iadd dX12_pyramid_252 ?_
    refine J_iald dX12_pyramid_253 sh_74 ?_
    refine J_iast dX12_pyramid_254 sh_74 (fun u25 => ?_)
    refine J_aload_n (j := 0) dX12_pyramid_255 rfl rfl ?_
    refine J_getR (b := 75) dX12_pyramid_256 fl_X12_26 sh_69 rfl ?_
    refine J_iload_n (j := 1) dX12_pyramid_259 rfl rfl ?_
    refine J_aload_n (j := 0) dX12_pyramid_260 rfl rfl ?_
    refine J_getR (b := 75) dX12_pyramid_261 fl_X12_26 sh_69 rfl ?_
    refine J_bipush (v := 30) dX12_pyramid_264 (by decide) ?_
    refine J_iload_n (j := 1) dX12_pyramid_266 rfl rfl ?_
    refine J_iadd dX12_pyramid_267 ?_
    refine J_iald dX12_pyramid_268 sh_75 ?_
    refine J_iast dX12_pyramid_269 sh_75 (fun u26 => ?_)
    refine J_aload_n (j := 0) dX12_pyramid_270 rfl rfl ?_
    refine J_getR (b := 77) dX12_pyramid_271 fl_X12_32 sh_69 rfl ?_
    refine J_iconst (v := 0) dX12_pyramid_274 (by decide) ?_
    refine J_iload_n (j := 1) dX12_pyramid_275 rfl rfl ?_
    refine J_iadd dX12_pyramid_276 ?_
    refine J_aload_n (j := 0) dX12_pyramid_277 rfl rfl ?_
    refine J_getR (b := 76) dX12_pyramid_278 fl_X12_29 sh_69 rfl ?_
    refine J_bipush (v := 30) dX12_pyramid_281 (by decide) ?_
    refine J_iload_n (j := 1) dX12_pyramid_283 rfl rfl ?_
    refine J_iadd dX12_pyramid_284 ?_
    refine J_iald dX12_pyramid_285 sh_76 ?_
    refine J_iast dX12_pyramid_286 sh_77 (fun u27 => ?_)
    refine J_iinc (j := 1) (b := 1) (fun v2_28 => [(2, .int v2_28), (0, .ref (llAd G 69))]) dX12_pyramid_287 rfl (by decide) (by decide) (fun _ => rfl) (fun v2_28 => ?_)
    refine J_goto (tgt := 189) dX12_pyramid_290 (by decide) ?_
    exact J_cut [1, 0] (lv' := [(0, .ref (llAd G 69)), (2, .int v2_28)]) rfl (fun h => h)
def fx_X12_starts_69_l7  (s : llMem × Int32) : Option ((llMem × Int32) ⊕ (llMem)) := (if 30 ≤ s.2 then some (.inr s.1) else gI (30 + s.2) 1020 (lt (llSI s.1 77 (Int32.toNatClampNeg (30 + s.2)) 0) (fun u2 => gI (60 + s.2) 1020 (lt (llSI u2 77 (Int32.toNatClampNeg (60 + s.2)) 0) (fun u3 => gI (90 + s.2) 1020 (lt (llSI u3 77 (Int32.toNatClampNeg (90 + s.2)) 0) (fun u4 => lt (s.2 + 1) (fun v1_5 => some (.inl (u4, v1_5))))))))))
set_option maxRecDepth 20000 in
theorem t_X12_starts_69_l7 {G : llG} {d : Nat}  (s : llMem × Int32) : llJ G RX12 cX12_starts 2 none d (Sum.elim (fun s' => llJq G 2 7 [(0, .ref (llAd G 69)), (1, .int s'.2)] [] s'.1) (fun e => llJq G 2 49 [(0, .ref (llAd G 69))] [] e)) 7 [(0, .ref (llAd G 69)), (1, .int s.2)] [] s.1 (fx_X12_starts_69_l7 s) := by
  unfold fx_X12_starts_69_l7
  refine J_iload_n (j := 1) dX12_starts_7 rfl rfl ?_
  refine J_bipush (v := 30) dX12_starts_8 (by decide) ?_
  refine J_icmp_ge (tgt := 49) dX12_starts_10 (by decide) ?_ ?_
  · exact J_cut [0] (lv' := [(0, .ref (llAd G 69))]) rfl (fun h => h)
  · refine J_aload_n (j := 0) dX12_starts_13 rfl rfl ?_
    refine J_getR (b := 77) dX12_starts_14 fl_X12_32 sh_69 rfl ?_
    refine J_bipush (v := 30) dX12_starts_17 (by decide) ?_
    refine J_iload_n (j := 1) dX12_starts_19 rfl rfl ?_
    refine J_iadd dX12_starts_20 ?_
    refine J_iconst (v := 0) dX12_starts_21 (by decide) ?_
    refine J_iast dX12_starts_22 sh_77 (fun u2 => ?_)
    refine J_aload_n (j := 0) dX12_starts_23 rfl rfl ?_
    refine J_getR (b := 77) dX12_starts_24 fl_X12_32 sh_69 rfl ?_
    refine J_bipush (v := 60) dX12_starts_27 (by decide) ?_
    refine J_iload_n (j := 1) dX12_starts_29 rfl rfl ?_
    refine J_iadd dX12_starts_30 ?_
    refine J_iconst (v := 0) dX12_starts_31 (by decide) ?_
    refine J_iast dX12_starts_32 sh_77 (fun u3 => ?_)
    refine J_aload_n (j := 0) dX12_starts_33 rfl rfl ?_
    refine J_getR (b := 77) dX12_starts_34 fl_X12_32 sh_69 rfl ?_
    refine J_bipush (v := 90) dX12_starts_37 (by decide) ?_
    refine J_iload_n (j := 1) dX12_starts_39 rfl rfl ?_
    refine J_iadd dX12_starts_40 ?_
    refine J_iconst (v := 0) dX12_starts_41 (by decide) ?_
    refine J_iast dX12_starts_42 sh_77 (fun u4 => ?_)
    refine J_iinc (j := 1) (b := 1) (fun v1_5 => [(1, .int v1_5), (0, .ref (llAd G 69))]) dX12_starts_43 rfl (by decide) (by decide) (fun _ => rfl) (fun v1_5 => ?_)
    refine J_goto (tgt := 7) dX12_starts_46 (by decide) ?_
    exact J_cut [1, 0] (lv' := [(0, .ref (llAd G 69)), (1, .int v1_5)]) rfl (fun h => h)
def fx_X12_starts_69_l51  (s : llMem × Int32) : Option ((llMem × Int32) ⊕ (llMem)) := (if 900 ≤ s.2 then some (.inr s.1) else gI (120 + s.2) 1020 (lt (llSI s.1 77 (Int32.toNatClampNeg (120 + s.2)) ((-1))) (fun u7 => lt (s.2 + 1) (fun v1_8 => some (.inl (u7, v1_8))))))
set_option maxRecDepth 20000 in
theorem t_X12_starts_69_l51 {G : llG} {d : Nat}  (s : llMem × Int32) : llJ G RX12 cX12_starts 2 none d (Sum.elim (fun s' => llJq G 2 51 [(0, .ref (llAd G 69)), (1, .int s'.2)] [] s'.1) (fun e => llJq G 2 74 [] [] e)) 51 [(0, .ref (llAd G 69)), (1, .int s.2)] [] s.1 (fx_X12_starts_69_l51 s) := by
  unfold fx_X12_starts_69_l51
  refine J_iload_n (j := 1) dX12_starts_51 rfl rfl ?_
  refine J_sipush (v := 900) dX12_starts_52 (by decide) ?_
  refine J_icmp_ge (tgt := 74) dX12_starts_55 (by decide) ?_ ?_
  · exact J_cut [] (lv' := []) rfl (fun h => h)
  · refine J_aload_n (j := 0) dX12_starts_58 rfl rfl ?_
    refine J_getR (b := 77) dX12_starts_59 fl_X12_32 sh_69 rfl ?_
    refine J_bipush (v := 120) dX12_starts_62 (by decide) ?_
    refine J_iload_n (j := 1) dX12_starts_64 rfl rfl ?_
    refine J_iadd dX12_starts_65 ?_
    refine J_iconst (v := (-1)) dX12_starts_66 (by decide) ?_
    refine J_iast dX12_starts_67 sh_77 (fun u7 => ?_)
    refine J_iinc (j := 1) (b := 1) (fun v1_8 => [(1, .int v1_8), (0, .ref (llAd G 69))]) dX12_starts_68 rfl (by decide) (by decide) (fun _ => rfl) (fun v1_8 => ?_)
    refine J_goto (tgt := 51) dX12_starts_71 (by decide) ?_
    exact J_cut [1, 0] (lv' := [(0, .ref (llAd G 69)), (1, .int v1_8)]) rfl (fun h => h)
def fx_X12_starts_69 (u : llMem)  : Option (llMem × Unit) := lt (llSI u 69 14 0) (fun u1 => (loop (fx_X12_starts_69_l7) llFuel (u1, 0)).bind (fun e6 => (loop (fx_X12_starts_69_l51) llFuel (e6, 0)).bind (fun e9 => some (e9, ()))))
set_option maxRecDepth 20000 in
theorem tj_X12_starts_69 {G : llG} {d : Nat} (u : llMem)  : llJ G RX12 cX12_starts 2 none d (fun r => llRet G (llVd r.2) r.1) 0 [(0, .ref (llAd G 69))] [] u (fx_X12_starts_69 u ) := by
  unfold fx_X12_starts_69
  refine J_aload_n (j := 0) dX12_starts_0 rfl rfl ?_
  refine J_iconst (v := 0) dX12_starts_1 (by decide) ?_
  refine J_putI dX12_starts_2 fl_X12_110 sh_69 rfl (fun u1 => ?_)
  refine J_iconst (v := 0) dX12_starts_5 (by decide) ?_
  refine J_istore_n [(1, .int 0), (0, .ref (llAd G 69))] dX12_starts_6 rfl (by decide) rfl ?_
  refine J_loopE (fun s' => [(0, .ref (llAd G 69)), (1, .int s'.2)]) (fun s' => s'.1) 49 (fun e => [(0, .ref (llAd G 69))]) (fun e => e) (fun z => t_X12_starts_69_l7 z) [1, 0] rfl rfl (fun e6 => ?_)
  refine J_iconst (v := 0) dX12_starts_49 (by decide) ?_
  refine J_istore_n [(1, .int 0), (0, .ref (llAd G 69))] dX12_starts_50 rfl (by decide) rfl ?_
  refine J_loopE (fun s' => [(0, .ref (llAd G 69)), (1, .int s'.2)]) (fun s' => s'.1) 74 (fun e => []) (fun e => e) (fun z => t_X12_starts_69_l51 z) [1, 0] rfl rfl (fun e9 => ?_)
  exact J_vret dX12_starts_74 (fun h => h)
theorem t_X12_starts_69 (l : Launch) (F : llFix) (d : Nat) (u : llMem)  : llCt l F yX12_starts cX12_starts 2 none d [.ref (F.2.2.1 69)] u llVd (fx_X12_starts_69 u ) := llCt.of (by decide +kernel) (by exact Nat.le_of_ble_eq_true rfl) (fun G h1 h2 => by subst h1; subst h2; exact tj_X12_starts_69 u )
def fx_X12_pyramid_69_j26 (u : llMem) (t0 : Int32) : Option ((llMem × Int32)) := (loop (fx_X12_pyramid_69_l27) llFuel (u, t0)).bind (fun e6 => (loop (fx_X12_pyramid_69_l56) llFuel (e6, 0)).bind (fun e13 => bd (fx_X12_isRead_69 e13 ) (fun u14 r15 => (if ¬ r15 = 0 then lt (llSI u14 69 1 (u14.1 69 2)) (fun u16 => lt (llSI u16 69 9 (u16.1 69 10)) (fun u17 => lt (llSI u17 69 11 0) (fun u18 => (loop (fx_X12_pyramid_69_l160) llFuel (u18, 0)).bind (fun e21 => (loop (fx_X12_pyramid_69_l189) llFuel (e21, 0)).bind (fun e29 => bd (fx_X12_starts_69 e29 ) (fun u30 _ => some (u30, u30.1 69 9))))))) else some (u14, (-1))))))
set_option maxRecDepth 20000 in
theorem t_X12_pyramid_69_j26 {G : llG} {d : Nat} (u : llMem) (t0 : Int32) : llJ G RX12 cX12_pyramid 4 (some .int) (d + 11) (fun r => llRet G (llI r.2) r.1) 26 [(0, .ref (llAd G 69))] [.int t0] u (fx_X12_pyramid_69_j26 u t0) := by
  unfold fx_X12_pyramid_69_j26
  refine J_istore_n [(1, .int t0), (0, .ref (llAd G 69))] dX12_pyramid_26 rfl (by decide) rfl ?_
  refine J_loopE (fun s' => [(0, .ref (llAd G 69)), (1, .int s'.2)]) (fun s' => s'.1) 54 (fun e => [(0, .ref (llAd G 69))]) (fun e => e) (fun z => t_X12_pyramid_69_l27 z) [1, 0] rfl rfl (fun e6 => ?_)
  refine J_iconst (v := 0) dX12_pyramid_54 (by decide) ?_
  refine J_istore_n [(2, .int 0), (0, .ref (llAd G 69))] dX12_pyramid_55 rfl (by decide) rfl ?_
  refine J_loopE (fun s' => [(0, .ref (llAd G 69)), (2, .int s'.2)]) (fun s' => s'.1) 128 (fun e => [(0, .ref (llAd G 69))]) (fun e => e) (fun z => t_X12_pyramid_69_l56 z) [1, 0] rfl rfl (fun e13 => ?_)
  refine J_aload_n (j := 0) dX12_pyramid_128 rfl rfl ?_
  refine J_callVi0 dX12_pyramid_129 (t_X12_isRead_69 (llL G) (llFx G) (d + 10) e13 ) ym_X12_isRead wd_1446 sh_69 rfl (Nat.le_of_ble_eq_true rfl) (fun u14 r15 => ?_)
  refine J_if_ne (tgt := 137) dX12_pyramid_132 (by decide) ?_ ?_
  · refine J_aload_n (j := 0) dX12_pyramid_137 rfl rfl ?_
    refine J_aload_n (j := 0) dX12_pyramid_138 rfl rfl ?_
    refine J_getI dX12_pyramid_139 fl_X12_205 sh_69 rfl ?_
    refine J_putI dX12_pyramid_142 fl_X12_260 sh_69 rfl (fun u16 => ?_)
    refine J_aload_n (j := 0) dX12_pyramid_145 rfl rfl ?_
    refine J_aload_n (j := 0) dX12_pyramid_146 rfl rfl ?_
    refine J_getI dX12_pyramid_147 fl_X12_221 sh_69 rfl ?_
    refine J_putI dX12_pyramid_150 fl_X12_263 sh_69 rfl (fun u17 => ?_)
    refine J_aload_n (j := 0) dX12_pyramid_153 rfl rfl ?_
    refine J_iconst (v := 0) dX12_pyramid_154 (by decide) ?_
    refine J_putI dX12_pyramid_155 fl_X12_266 sh_69 rfl (fun u18 => ?_)
    refine J_iconst (v := 0) dX12_pyramid_158 (by decide) ?_
    refine J_istore_n [(2, .int 0), (0, .ref (llAd G 69))] dX12_pyramid_159 rfl (by decide) rfl ?_
    refine J_loopE (fun s' => [(0, .ref (llAd G 69)), (2, .int s'.2)]) (fun s' => s'.1) 187 (fun e => [(0, .ref (llAd G 69))]) (fun e => e) (fun z => t_X12_pyramid_69_l160 z) [1, 0] rfl rfl (fun e21 => ?_)
    refine J_iconst (v := 0) dX12_pyramid_187 (by decide) ?_
    refine J_istore_n [(2, .int 0), (0, .ref (llAd G 69))] dX12_pyramid_188 rfl (by decide) rfl ?_
    refine J_loopE (fun s' => [(0, .ref (llAd G 69)), (2, .int s'.2)]) (fun s' => s'.1) 293 (fun e => [(0, .ref (llAd G 69))]) (fun e => e) (fun z => t_X12_pyramid_69_l189 z) [1, 0] rfl rfl (fun e29 => ?_)
    refine J_aload_n (j := 0) dX12_pyramid_293 rfl rfl ?_
    refine J_callVv0 dX12_pyramid_294 (t_X12_starts_69 (llL G) (llFx G) (d + 10) e29 ) ym_X12_starts wd_1450 sh_69 rfl (Nat.le_of_ble_eq_true rfl) (fun u30 => ?_)
    refine J_aload_n (j := 0) dX12_pyramid_297 rfl rfl ?_
    refine J_getI dX12_pyramid_298 fl_X12_263 sh_69 rfl ?_
    exact J_iret dX12_pyramid_301 (fun h => h)
  · refine J_iconst (v := (-1)) dX12_pyramid_135 (by decide) ?_
    exact J_iret dX12_pyramid_136 (fun h => h)
def fx_X12_pyramid_69 (u : llMem)  : Option (llMem × Int32) := lt (llSI u 69 2 0) (fun u1 => lt (llSI u1 69 10 0) (fun u2 => bd (fx_X12_begins_69 u2 ) (fun u3 _ => (if (u3.1 69 21) = 0 then fx_X12_pyramid_69_j26 u3 0 else fx_X12_pyramid_69_j26 u3 1))))
set_option maxRecDepth 20000 in
theorem tj_X12_pyramid_69 {G : llG} {d : Nat} (u : llMem)  : llJ G RX12 cX12_pyramid 4 (some .int) (d + 11) (fun r => llRet G (llI r.2) r.1) 0 [(0, .ref (llAd G 69))] [] u (fx_X12_pyramid_69 u ) := by
  unfold fx_X12_pyramid_69
  refine J_aload_n (j := 0) dX12_pyramid_0 rfl rfl ?_
  refine J_iconst (v := 0) dX12_pyramid_1 (by decide) ?_
  refine J_putI dX12_pyramid_2 fl_X12_205 sh_69 rfl (fun u1 => ?_)
  refine J_aload_n (j := 0) dX12_pyramid_5 rfl rfl ?_
  refine J_iconst (v := 0) dX12_pyramid_6 (by decide) ?_
  refine J_putI dX12_pyramid_7 fl_X12_221 sh_69 rfl (fun u2 => ?_)
  refine J_aload_n (j := 0) dX12_pyramid_10 rfl rfl ?_
  refine J_callVv0 dX12_pyramid_11 (t_X12_begins_69 (llL G) (llFx G) (d + 8) u2 ) ym_X12_begins wd_1320 sh_69 rfl (Nat.le_of_ble_eq_true rfl) (fun u3 => ?_)
  refine J_aload_n (j := 0) dX12_pyramid_14 rfl rfl ?_
  refine J_getI dX12_pyramid_15 fl_X12_144 sh_69 rfl ?_
  refine J_if_eq (tgt := 25) dX12_pyramid_18 (by decide) ?_ ?_
  · refine J_iconst (v := 0) dX12_pyramid_25 (by decide) ?_
    refine J_sub [0] (lv' := [(0, .ref (llAd G 69))]) rfl ?_
    exact t_X12_pyramid_69_j26 u3 0
  · refine J_iconst (v := 1) dX12_pyramid_21 (by decide) ?_
    refine J_goto (tgt := 26) dX12_pyramid_22 (by decide) ?_
    refine J_sub [0] (lv' := [(0, .ref (llAd G 69))]) rfl ?_
    exact t_X12_pyramid_69_j26 u3 1
theorem t_X12_pyramid_69 (l : Launch) (F : llFix) (d : Nat) (u : llMem)  : llCt l F yX12_pyramid cX12_pyramid 4 (some .int) (d + 11) [.ref (F.2.2.1 69)] u llI (fx_X12_pyramid_69 u ) := llCt.of (by decide +kernel) (by exact Nat.le_of_ble_eq_true rfl) (fun G h1 h2 => by subst h1; subst h2; exact tj_X12_pyramid_69 u )
def fx_X5_find_3_l2 (u : llMem) (v1 : Int64) (s : Int32) : Option ((Int32) ⊕ ((Unit) ⊕ (Int32))) := (if (u.1 3 5) ≤ s then some (.inr (.inl ())) else gI s 30 ((if ¬ (lg_cmp (rL u 8 s) v1) = 0 then lt (s + 1) (fun v3_1 => some (.inl v3_1)) else some (.inr (.inr s)))))
set_option maxRecDepth 20000 in
theorem t_X5_find_3_l2 {G : llG} {d : Nat} (u : llMem) (v1 : Int64) (s : Int32) : llJ G RX5 cX5_find 4 (some .int) d (Sum.elim (fun s' => llJq G 4 2 [(0, .ref (llAd G 3)), (1, .long v1), (3, .int s')] [] u) (Sum.elim (fun e => llJq G 4 29 [] [] u) (fun v => llRet G (llI v) u))) 2 [(0, .ref (llAd G 3)), (1, .long v1), (3, .int s)] [] u (fx_X5_find_3_l2 u v1 s) := by
  unfold fx_X5_find_3_l2
  refine J_iload_n (j := 2) dX5_find_2 rfl rfl ?_
  refine J_aload_n (j := 0) dX5_find_3 rfl rfl ?_
  refine J_getI dX5_find_4 fl_X5_53 sh_3 rfl ?_
  refine J_icmp_ge (tgt := 29) dX5_find_7 (by decide) ?_ ?_
  · exact J_cut [] (lv' := []) rfl (fun h => h)
  · refine J_aload_n (j := 0) dX5_find_10 rfl rfl ?_
    refine J_getR (b := 8) dX5_find_11 fl_X5_24 sh_3 rfl ?_
    refine J_iload_n (j := 2) dX5_find_14 rfl rfl ?_
    refine J_lald dX5_find_15 sh_8 ?_
    refine J_lload_n (j := 1) dX5_find_16 rfl rfl ?_
    refine J_lcmp dX5_find_17 ?_
    refine J_if_ne (tgt := 23) dX5_find_18 (by decide) ?_ ?_
    · refine J_iinc (j := 2) (b := 1) (fun v3_1 => [(3, .int v3_1), (0, .ref (llAd G 3)), (1, .long v1)]) dX5_find_23 rfl (by decide) (by decide) (fun _ => rfl) (fun v3_1 => ?_)
      refine J_goto (tgt := 2) dX5_find_26 (by decide) ?_
      exact J_cut [1, 2, 0] (lv' := [(0, .ref (llAd G 3)), (1, .long v1), (3, .int v3_1)]) rfl (fun h => h)
    · refine J_iload_n (j := 2) dX5_find_21 rfl rfl ?_
      exact J_iret dX5_find_22 (fun h => h)
def fx_X5_find_3 (u : llMem) (a0 : Int64) : Option Int32 := (loop (fx_X5_find_3_l2 u a0) llFuel 0).bind (Sum.elim (fun e2 => some ((-1))) (fun v => some ((fun v => v) v)))
set_option maxRecDepth 20000 in
theorem tj_X5_find_3 {G : llG} {d : Nat} (u : llMem) (a0 : Int64) : llJ G RX5 cX5_find 4 (some .int) d (fun r => llRet G (llI r) u) 0 [(0, .ref (llAd G 3)), (1, .long a0)] [] u (fx_X5_find_3 u a0) := by
  unfold fx_X5_find_3
  refine J_iconst (v := 0) dX5_find_0 (by decide) ?_
  refine J_istore_n [(3, .int 0), (0, .ref (llAd G 3)), (1, .long a0)] dX5_find_1 rfl (by decide) rfl ?_
  refine J_loopR (wr := (fun v => v)) (fun s' => [(0, .ref (llAd G 3)), (1, .long a0), (3, .int s')]) (fun s' => u) 29 (fun e => []) (fun e => u) (fun v => llRet G (llI v) u) (fun z => t_X5_find_3_l2 u a0 z) [1, 2, 0] rfl rfl (fun v h => h) (fun e2 => ?_)
  refine J_iconst (v := (-1)) dX5_find_29 (by decide) ?_
  exact J_iret dX5_find_30 (fun h => h)
theorem t_X5_find_3 (l : Launch) (F : llFix) (d : Nat) (u : llMem) (a0 : Int64) : llCp l F yX5_find cX5_find 4 (some .int) d [.ref (F.2.2.1 3), .long a0] u llI (fx_X5_find_3 u a0) := llCp.of (by decide +kernel) (by exact Nat.le_of_ble_eq_true rfl) (fun G h1 h2 => by subst h1; subst h2; exact tj_X5_find_3 u a0)
def fx_X1_clubHere_42 (u : llMem)  : Option (llMem × Int32) := (fx_X9_isName_1 u ).bind (fun r1 => (if ¬ r1 = 0 then (fx_X5_find_3 u (u.2.1 1 6)).bind (fun r2 => (if ¬ r2 = ((-1)) then some (u, r2) else bd (fx_X9_fail_1 u 2) (fun u3 r4 => some (u3, r2)))) else bd (fx_X9_fail_1 u 1) (fun u5 r6 => some (u5, (-1)))))
set_option maxRecDepth 20000 in
theorem tj_X1_clubHere_42 {G : llG} {d : Nat} (u : llMem)  : llJ G RX1 cX1_clubHere 2 (some .int) (d + 1) (fun r => llRet G (llI r.2) r.1) 0 [(0, .ref (llAd G 42))] [] u (fx_X1_clubHere_42 u ) := by
  unfold fx_X1_clubHere_42
  refine J_aload_n (j := 0) dX1_clubHere_0 rfl rfl ?_
  refine J_getR (b := 1) dX1_clubHere_1 fl_X1_9 sh_42 rfl ?_
  refine J_callVip0 dX1_clubHere_4 (t_X9_isName_1 (llL G) (llFx G) d u ) ym_X9_isName wd_678 sh_1 rfl (Nat.le_of_ble_eq_true rfl) (fun r1 => ?_)
  refine J_if_ne (tgt := 21) dX1_clubHere_7 (by decide) ?_ ?_
  · refine J_aload_n (j := 0) dX1_clubHere_21 rfl rfl ?_
    refine J_getR (b := 3) dX1_clubHere_22 fl_X1_15 sh_42 rfl ?_
    refine J_aload_n (j := 0) dX1_clubHere_25 rfl rfl ?_
    refine J_getR (b := 1) dX1_clubHere_26 fl_X1_9 sh_42 rfl ?_
    refine J_getL dX1_clubHere_29 fl_X1_73 sh_1 rfl ?_
    refine J_callVip1 dX1_clubHere_32 (t_X5_find_3 (llL G) (llFx G) d u (u.2.1 1 6)) ym_X5_find wd_680 sh_3 rfl (Nat.le_of_ble_eq_true rfl) (fun r2 => ?_)
    refine J_istore_n [(1, .int r2), (0, .ref (llAd G 42))] dX1_clubHere_35 rfl (by decide) rfl ?_
    refine J_iload_n (j := 0) dX1_clubHere_36 rfl rfl ?_
    refine J_iconst (v := (-1)) dX1_clubHere_37 (by decide) ?_
    refine J_icmp_ne (tgt := 50) dX1_clubHere_38 (by decide) ?_ ?_
    · refine J_iload_n (j := 0) dX1_clubHere_50 rfl rfl ?_
      exact J_iret dX1_clubHere_51 (fun h => h)
    · refine J_aload_n (j := 1) dX1_clubHere_41 rfl rfl ?_
      refine J_getR (b := 1) dX1_clubHere_42 fl_X1_9 sh_42 rfl ?_
      refine J_iconst (v := 2) dX1_clubHere_45 (by decide) ?_
      refine J_callVi1 dX1_clubHere_46 (t_X9_fail_1 (llL G) (llFx G) d u 2) ym_X9_fail wd_679 sh_1 rfl (Nat.le_of_ble_eq_true rfl) (fun u3 r4 => ?_)
      refine J_pop dX1_clubHere_49 rfl ?_
      refine J_iload_n (j := 0) dX1_clubHere_50 rfl rfl ?_
      exact J_iret dX1_clubHere_51 (fun h => h)
  · refine J_aload_n (j := 0) dX1_clubHere_10 rfl rfl ?_
    refine J_getR (b := 1) dX1_clubHere_11 fl_X1_9 sh_42 rfl ?_
    refine J_iconst (v := 1) dX1_clubHere_14 (by decide) ?_
    refine J_callVi1 dX1_clubHere_15 (t_X9_fail_1 (llL G) (llFx G) d u 1) ym_X9_fail wd_679 sh_1 rfl (Nat.le_of_ble_eq_true rfl) (fun u5 r6 => ?_)
    refine J_pop dX1_clubHere_18 rfl ?_
    refine J_iconst (v := (-1)) dX1_clubHere_19 (by decide) ?_
    exact J_iret dX1_clubHere_20 (fun h => h)
theorem t_X1_clubHere_42 (l : Launch) (F : llFix) (d : Nat) (u : llMem)  : llCt l F yX1_clubHere cX1_clubHere 2 (some .int) (d + 1) [.ref (F.2.2.1 42)] u llI (fx_X1_clubHere_42 u ) := llCt.of (by decide +kernel) (by exact Nat.le_of_ble_eq_true rfl) (fun G h1 h2 => by subst h1; subst h2; exact tj_X1_clubHere_42 u )
def fx_X1_readMatch_42_j113 (u : llMem)  : Option ((llMem × Int32)) := bd (fx_X9_fail_1 u 4) (fun u12 r13 => gB r13 (some (u12, r13)))
set_option maxRecDepth 20000 in
theorem t_X1_readMatch_42_j113 {G : llG} {d : Nat} (u : llMem)  : llJ G RX1 cX1_readMatch 5 (some .boolean) (d + 3) (fun r => llRet G (llI r.2) r.1) 113 [(0, .ref (llAd G 42))] [] u (fx_X1_readMatch_42_j113 u ) := by
  unfold fx_X1_readMatch_42_j113
  refine J_aload_n (j := 0) dX1_readMatch_113 rfl rfl ?_
  refine J_getR (b := 1) dX1_readMatch_114 fl_X1_9 sh_42 rfl ?_
  refine J_iconst (v := 4) dX1_readMatch_117 (by decide) ?_
  refine J_callVi1 dX1_readMatch_118 (t_X9_fail_1 (llL G) (llFx G) (d + 2) u 4) ym_X9_fail wd_679 sh_1 rfl (Nat.le_of_ble_eq_true rfl) (fun u12 r13 => ?_)
  exact J_zret dX1_readMatch_121 (fun h => h)
def fx_X5_isClub_3 (u : llMem) (a0 : Int32) : Option Int32 := (if a0 < 0 then gB 0 (some 0) else (if (u.1 3 5) ≤ a0 then gB 0 (some 0) else gB 1 (some 1)))
set_option maxRecDepth 20000 in
theorem tj_X5_isClub_3 {G : llG} {d : Nat} (u : llMem) (a0 : Int32) : llJ G RX5 cX5_isClub 2 (some .boolean) d (fun r => llRet G (llI r) u) 0 [(0, .ref (llAd G 3)), (1, .int a0)] [] u (fx_X5_isClub_3 u a0) := by
  unfold fx_X5_isClub_3
  refine J_iload_n (j := 1) dX5_isClub_0 rfl rfl ?_
  refine J_if_lt (tgt := 16) dX5_isClub_1 (by decide) ?_ ?_
  · refine J_iconst (v := 0) dX5_isClub_16 (by decide) ?_
    exact J_zret dX5_isClub_17 (fun h => h)
  · refine J_iload_n (j := 1) dX5_isClub_4 rfl rfl ?_
    refine J_aload_n (j := 0) dX5_isClub_5 rfl rfl ?_
    refine J_getI dX5_isClub_6 fl_X5_53 sh_3 rfl ?_
    refine J_icmp_ge (tgt := 16) dX5_isClub_9 (by decide) ?_ ?_
    · refine J_iconst (v := 0) dX5_isClub_16 (by decide) ?_
      exact J_zret dX5_isClub_17 (fun h => h)
    · refine J_iconst (v := 1) dX5_isClub_12 (by decide) ?_
      refine J_goto (tgt := 17) dX5_isClub_13 (by decide) ?_
      exact J_zret dX5_isClub_17 (fun h => h)
theorem t_X5_isClub_3 (l : Launch) (F : llFix) (d : Nat) (u : llMem) (a0 : Int32) : llCp l F yX5_isClub cX5_isClub 2 (some .boolean) d [.ref (F.2.2.1 3), .int a0] u llI (fx_X5_isClub_3 u a0) := llCp.of (by decide +kernel) (by exact Nat.le_of_ble_eq_true rfl) (fun G h1 h2 => by subst h1; subst h2; exact tj_X5_isClub_3 u a0)
def fx_X5_hasLevel_3 (u : llMem) (a0 : Int32) : Option Int32 := (if a0 < 0 then gB 0 (some 0) else (if (u.1 3 0) ≤ a0 then gB 0 (some 0) else gB 1 (some 1)))
set_option maxRecDepth 20000 in
theorem tj_X5_hasLevel_3 {G : llG} {d : Nat} (u : llMem) (a0 : Int32) : llJ G RX5 cX5_hasLevel 2 (some .boolean) d (fun r => llRet G (llI r) u) 0 [(0, .ref (llAd G 3)), (1, .int a0)] [] u (fx_X5_hasLevel_3 u a0) := by
  unfold fx_X5_hasLevel_3
  refine J_iload_n (j := 1) dX5_hasLevel_0 rfl rfl ?_
  refine J_if_lt (tgt := 16) dX5_hasLevel_1 (by decide) ?_ ?_
  · refine J_iconst (v := 0) dX5_hasLevel_16 (by decide) ?_
    exact J_zret dX5_hasLevel_17 (fun h => h)
  · refine J_iload_n (j := 1) dX5_hasLevel_4 rfl rfl ?_
    refine J_aload_n (j := 0) dX5_hasLevel_5 rfl rfl ?_
    refine J_getI dX5_hasLevel_6 fl_X5_43 sh_3 rfl ?_
    refine J_icmp_ge (tgt := 16) dX5_hasLevel_9 (by decide) ?_ ?_
    · refine J_iconst (v := 0) dX5_hasLevel_16 (by decide) ?_
      exact J_zret dX5_hasLevel_17 (fun h => h)
    · refine J_iconst (v := 1) dX5_hasLevel_12 (by decide) ?_
      refine J_goto (tgt := 17) dX5_hasLevel_13 (by decide) ?_
      exact J_zret dX5_hasLevel_17 (fun h => h)
theorem t_X5_hasLevel_3 (l : Launch) (F : llFix) (d : Nat) (u : llMem) (a0 : Int32) : llCp l F yX5_hasLevel cX5_hasLevel 2 (some .boolean) d [.ref (F.2.2.1 3), .int a0] u llI (fx_X5_hasLevel_3 u a0) := llCp.of (by decide +kernel) (by exact Nat.le_of_ble_eq_true rfl) (fun G h1 h2 => by subst h1; subst h2; exact tj_X5_hasLevel_3 u a0)
def fx_X5_plays_3 (u : llMem) (a0 : Int32) : Option Int32 := (fx_X5_isClub_3 u a0).bind (fun r1 => (if r1 = 0 then gB 0 (some 0) else gI a0 30 ((fx_X5_hasLevel_3 u (rI u 12 a0)).bind (fun r2 => (if r2 = 0 then gB 0 (some 0) else gB 1 (some 1))))))
set_option maxRecDepth 20000 in
theorem tj_X5_plays_3 {G : llG} {d : Nat} (u : llMem) (a0 : Int32) : llJ G RX5 cX5_plays 2 (some .boolean) (d + 1) (fun r => llRet G (llI r) u) 0 [(0, .ref (llAd G 3)), (1, .int a0)] [] u (fx_X5_plays_3 u a0) := by
  unfold fx_X5_plays_3
  refine J_aload_n (j := 0) dX5_plays_0 rfl rfl ?_
  refine J_iload_n (j := 1) dX5_plays_1 rfl rfl ?_
  refine J_callVip1 dX5_plays_2 (t_X5_isClub_3 (llL G) (llFx G) d u a0) ym_X5_isClub wd_691 sh_3 rfl (Nat.le_of_ble_eq_true rfl) (fun r1 => ?_)
  refine J_if_eq (tgt := 25) dX5_plays_5 (by decide) ?_ ?_
  · refine J_iconst (v := 0) dX5_plays_25 (by decide) ?_
    exact J_zret dX5_plays_26 (fun h => h)
  · refine J_aload_n (j := 0) dX5_plays_8 rfl rfl ?_
    refine J_aload_n (j := 0) dX5_plays_9 rfl rfl ?_
    refine J_getR (b := 12) dX5_plays_10 fl_X5_37 sh_3 rfl ?_
    refine J_iload_n (j := 1) dX5_plays_13 rfl rfl ?_
    refine J_iald dX5_plays_14 sh_12 ?_
    refine J_callVip1 dX5_plays_15 (t_X5_hasLevel_3 (llL G) (llFx G) d u (rI u 12 a0)) ym_X5_hasLevel wd_695 sh_3 rfl (Nat.le_of_ble_eq_true rfl) (fun r2 => ?_)
    refine J_if_eq (tgt := 25) dX5_plays_18 (by decide) ?_ ?_
    · refine J_iconst (v := 0) dX5_plays_25 (by decide) ?_
      exact J_zret dX5_plays_26 (fun h => h)
    · refine J_iconst (v := 1) dX5_plays_21 (by decide) ?_
      refine J_goto (tgt := 26) dX5_plays_22 (by decide) ?_
      exact J_zret dX5_plays_26 (fun h => h)
theorem t_X5_plays_3 (l : Launch) (F : llFix) (d : Nat) (u : llMem) (a0 : Int32) : llCp l F yX5_plays cX5_plays 2 (some .boolean) (d + 1) [.ref (F.2.2.1 3), .int a0] u llI (fx_X5_plays_3 u a0) := llCp.of (by decide +kernel) (by exact Nat.le_of_ble_eq_true rfl) (fun G h1 h2 => by subst h1; subst h2; exact tj_X5_plays_3 u a0)
def fx_X5_standsIn_3 (u : llMem) (a0 : Int32) (a1 : Int32) (a2 : Int32) : Option Int32 := gI a0 30 ((if ¬ (rI u 12 a0) = a1 then gB 0 (some 0) else gI a0 30 ((if ¬ (rI u 13 a0) = a2 then gB 0 (some 0) else gB 1 (some 1)))))
set_option maxRecDepth 20000 in
theorem tj_X5_standsIn_3 {G : llG} {d : Nat} (u : llMem) (a0 : Int32) (a1 : Int32) (a2 : Int32) : llJ G RX5 cX5_standsIn 4 (some .boolean) d (fun r => llRet G (llI r) u) 0 [(0, .ref (llAd G 3)), (1, .int a0), (2, .int a1), (3, .int a2)] [] u (fx_X5_standsIn_3 u a0 a1 a2) := by
  unfold fx_X5_standsIn_3
  refine J_aload_n (j := 0) dX5_standsIn_0 rfl rfl ?_
  refine J_getR (b := 12) dX5_standsIn_1 fl_X5_37 sh_3 rfl ?_
  refine J_iload_n (j := 1) dX5_standsIn_4 rfl rfl ?_
  refine J_iald dX5_standsIn_5 sh_12 ?_
  refine J_iload_n (j := 2) dX5_standsIn_6 rfl rfl ?_
  refine J_icmp_ne (tgt := 24) dX5_standsIn_7 (by decide) ?_ ?_
  · refine J_iconst (v := 0) dX5_standsIn_24 (by decide) ?_
    exact J_zret dX5_standsIn_25 (fun h => h)
  · refine J_aload_n (j := 0) dX5_standsIn_10 rfl rfl ?_
    refine J_getR (b := 13) dX5_standsIn_11 fl_X5_40 sh_3 rfl ?_
    refine J_iload_n (j := 1) dX5_standsIn_14 rfl rfl ?_
    refine J_iald dX5_standsIn_15 sh_13 ?_
    refine J_iload_n (j := 3) dX5_standsIn_16 rfl rfl ?_
    refine J_icmp_ne (tgt := 24) dX5_standsIn_17 (by decide) ?_ ?_
    · refine J_iconst (v := 0) dX5_standsIn_24 (by decide) ?_
      exact J_zret dX5_standsIn_25 (fun h => h)
    · refine J_iconst (v := 1) dX5_standsIn_20 (by decide) ?_
      refine J_goto (tgt := 25) dX5_standsIn_21 (by decide) ?_
      exact J_zret dX5_standsIn_25 (fun h => h)
theorem t_X5_standsIn_3 (l : Launch) (F : llFix) (d : Nat) (u : llMem) (a0 : Int32) (a1 : Int32) (a2 : Int32) : llCp l F yX5_standsIn cX5_standsIn 4 (some .boolean) d [.ref (F.2.2.1 3), .int a0, .int a1, .int a2] u llI (fx_X5_standsIn_3 u a0 a1 a2) := llCp.of (by decide +kernel) (by exact Nat.le_of_ble_eq_true rfl) (fun G h1 h2 => by subst h1; subst h2; exact tj_X5_standsIn_3 u a0 a1 a2)
def fx_X5_together_3 (u : llMem) (a0 : Int32) (a1 : Int32) : Option Int32 := (fx_X5_plays_3 u a0).bind (fun r1 => (if r1 = 0 then gB 0 (some 0) else gI a0 30 (gI a0 30 ((fx_X5_standsIn_3 u a1 (rI u 12 a0) (rI u 13 a0)).bind (fun r2 => (if r2 = 0 then gB 0 (some 0) else gB 1 (some 1)))))))
set_option maxRecDepth 20000 in
theorem tj_X5_together_3 {G : llG} {d : Nat} (u : llMem) (a0 : Int32) (a1 : Int32) : llJ G RX5 cX5_together 3 (some .boolean) (d + 2) (fun r => llRet G (llI r) u) 0 [(0, .ref (llAd G 3)), (1, .int a0), (2, .int a1)] [] u (fx_X5_together_3 u a0 a1) := by
  unfold fx_X5_together_3
  refine J_aload_n (j := 0) dX5_together_0 rfl rfl ?_
  refine J_iload_n (j := 1) dX5_together_1 rfl rfl ?_
  refine J_callVip1 dX5_together_2 (t_X5_plays_3 (llL G) (llFx G) d u a0) ym_X5_plays wd_687 sh_3 rfl (Nat.le_of_ble_eq_true rfl) (fun r1 => ?_)
  refine J_if_eq (tgt := 32) dX5_together_5 (by decide) ?_ ?_
  · refine J_iconst (v := 0) dX5_together_32 (by decide) ?_
    exact J_zret dX5_together_33 (fun h => h)
  · refine J_aload_n (j := 0) dX5_together_8 rfl rfl ?_
    refine J_iload_n (j := 2) dX5_together_9 rfl rfl ?_
    refine J_aload_n (j := 0) dX5_together_10 rfl rfl ?_
    refine J_getR (b := 12) dX5_together_11 fl_X5_37 sh_3 rfl ?_
    refine J_iload_n (j := 1) dX5_together_14 rfl rfl ?_
    refine J_iald dX5_together_15 sh_12 ?_
    refine J_aload_n (j := 0) dX5_together_16 rfl rfl ?_
    refine J_getR (b := 13) dX5_together_17 fl_X5_40 sh_3 rfl ?_
    refine J_iload_n (j := 1) dX5_together_20 rfl rfl ?_
    refine J_iald dX5_together_21 sh_13 ?_
    refine J_callVip3 dX5_together_22 (t_X5_standsIn_3 (llL G) (llFx G) (d + 1) u a1 (rI u 12 a0) (rI u 13 a0)) ym_X5_standsIn wd_612 sh_3 rfl (Nat.le_of_ble_eq_true rfl) (fun r2 => ?_)
    refine J_if_eq (tgt := 32) dX5_together_25 (by decide) ?_ ?_
    · refine J_iconst (v := 0) dX5_together_32 (by decide) ?_
      exact J_zret dX5_together_33 (fun h => h)
    · refine J_iconst (v := 1) dX5_together_28 (by decide) ?_
      refine J_goto (tgt := 33) dX5_together_29 (by decide) ?_
      exact J_zret dX5_together_33 (fun h => h)
theorem t_X5_together_3 (l : Launch) (F : llFix) (d : Nat) (u : llMem) (a0 : Int32) (a1 : Int32) : llCp l F yX5_together cX5_together 3 (some .boolean) (d + 2) [.ref (F.2.2.1 3), .int a0, .int a1] u llI (fx_X5_together_3 u a0 a1) := llCp.of (by decide +kernel) (by exact Nat.le_of_ble_eq_true rfl) (fun G h1 h2 => by subst h1; subst h2; exact tj_X5_together_3 u a0 a1)
def fx_X7_tell_14 (u : llMem) (a0 : Int32) (a1 : Int32) (a2 : Int32) (a3 : Int32) : Option (llMem × Unit) := (if 150 ≤ (u.1 14 1) then some (u, ()) else gI (u.1 14 1) 150 (lt (llSI u 15 (Int32.toNatClampNeg (u.1 14 1)) a0) (fun u1 => gI (u1.1 14 1) 150 (lt (llSI u1 16 (Int32.toNatClampNeg (u1.1 14 1)) a1) (fun u2 => lt (llSI u2 14 1 ((u2.1 14 1) + 1)) (fun u3 => gI ((a0 * 30) + a1) 900 (lt (llSI u3 17 (Int32.toNatClampNeg ((a0 * 30) + a1)) ((a2 * 100) + a3)) (fun u4 => bd (fx_X7_tally_14 u4 a0 a2 a3 1) (fun u5 _ => bd (fx_X7_tally_14 u5 a1 a3 a2 1) (fun u6 _ => some (u6, ())))))))))))
set_option maxRecDepth 20000 in
theorem tj_X7_tell_14 {G : llG} {d : Nat} (u : llMem) (a0 : Int32) (a1 : Int32) (a2 : Int32) (a3 : Int32) : llJ G RX7 cX7_tell 5 none (d + 1) (fun r => llRet G (llVd r.2) r.1) 0 [(0, .ref (llAd G 14)), (1, .int a0), (2, .int a1), (3, .int a2), (4, .int a3)] [] u (fx_X7_tell_14 u a0 a1 a2 a3) := by
  unfold fx_X7_tell_14
  refine J_aload_n (j := 0) dX7_tell_0 rfl rfl ?_
  refine J_getI dX7_tell_1 fl_X7_55 sh_14 rfl ?_
  refine J_sipush (v := 150) dX7_tell_4 (by decide) ?_
  refine J_icmp_ge (tgt := 76) dX7_tell_7 (by decide) ?_ ?_
  · exact J_vret dX7_tell_76 (fun h => h)
  · refine J_aload_n (j := 0) dX7_tell_10 rfl rfl ?_
    refine J_getR (b := 15) dX7_tell_11 fl_X7_11 sh_14 rfl ?_
    refine J_aload_n (j := 0) dX7_tell_14 rfl rfl ?_
    refine J_getI dX7_tell_15 fl_X7_55 sh_14 rfl ?_
    refine J_iload_n (j := 1) dX7_tell_18 rfl rfl ?_
    refine J_iast dX7_tell_19 sh_15 (fun u1 => ?_)
    refine J_aload_n (j := 0) dX7_tell_20 rfl rfl ?_
    refine J_getR (b := 16) dX7_tell_21 fl_X7_15 sh_14 rfl ?_
    refine J_aload_n (j := 0) dX7_tell_24 rfl rfl ?_
    refine J_getI dX7_tell_25 fl_X7_55 sh_14 rfl ?_
    refine J_iload_n (j := 2) dX7_tell_28 rfl rfl ?_
    refine J_iast dX7_tell_29 sh_16 (fun u2 => ?_)
    refine J_aload_n (j := 0) dX7_tell_30 rfl rfl ?_
    refine J_dup dX7_tell_31 rfl ?_
    refine J_getI dX7_tell_32 fl_X7_55 sh_14 rfl ?_
    refine J_iconst (v := 1) dX7_tell_35 (by decide) ?_
    refine J_iadd dX7_tell_36 ?_
    refine J_putI dX7_tell_37 fl_X7_55 sh_14 rfl (fun u3 => ?_)
    refine J_aload_n (j := 0) dX7_tell_40 rfl rfl ?_
    refine J_getR (b := 17) dX7_tell_41 fl_X7_18 sh_14 rfl ?_
    refine J_iload_n (j := 1) dX7_tell_44 rfl rfl ?_
    refine J_bipush (v := 30) dX7_tell_45 (by decide) ?_
    refine J_imul dX7_tell_47 ?_
    refine J_iload_n (j := 2) dX7_tell_48 rfl rfl ?_
    refine J_iadd dX7_tell_49 ?_
    refine J_iload_n (j := 3) dX7_tell_50 rfl rfl ?_
    refine J_bipush (v := 100) dX7_tell_51 (by decide) ?_
    refine J_imul dX7_tell_53 ?_
    refine J_iload (j := 4) dX7_tell_54 rfl ?_
    refine J_iadd dX7_tell_56 ?_
    refine J_iast dX7_tell_57 sh_17 (fun u4 => ?_)
    refine J_aload_n (j := 0) dX7_tell_58 rfl rfl ?_
    refine J_iload_n (j := 1) dX7_tell_59 rfl rfl ?_
    refine J_iload_n (j := 3) dX7_tell_60 rfl rfl ?_
    refine J_iload (j := 4) dX7_tell_61 rfl ?_
    refine J_iconst (v := 1) dX7_tell_63 (by decide) ?_
    refine J_callVv4 dX7_tell_64 (t_X7_tally_14 (llL G) (llFx G) d u4 a0 a2 a3 1) ym_X7_tally wd_655 sh_14 rfl (Nat.le_of_ble_eq_true rfl) (fun u5 => ?_)
    refine J_aload_n (j := 0) dX7_tell_67 rfl rfl ?_
    refine J_iload_n (j := 2) dX7_tell_68 rfl rfl ?_
    refine J_iload (j := 4) dX7_tell_69 rfl ?_
    refine J_iload_n (j := 3) dX7_tell_71 rfl rfl ?_
    refine J_iconst (v := 1) dX7_tell_72 (by decide) ?_
    refine J_callVv4 dX7_tell_73 (t_X7_tally_14 (llL G) (llFx G) d u5 a1 a3 a2 1) ym_X7_tally wd_655 sh_14 rfl (Nat.le_of_ble_eq_true rfl) (fun u6 => ?_)
    exact J_vret dX7_tell_76 (fun h => h)
theorem t_X7_tell_14 (l : Launch) (F : llFix) (d : Nat) (u : llMem) (a0 : Int32) (a1 : Int32) (a2 : Int32) (a3 : Int32) : llCt l F yX7_tell cX7_tell 5 none (d + 1) [.ref (F.2.2.1 14), .int a0, .int a1, .int a2, .int a3] u llVd (fx_X7_tell_14 u a0 a1 a2 a3) := llCt.of (by decide +kernel) (by exact Nat.le_of_ble_eq_true rfl) (fun G h1 h2 => by subst h1; subst h2; exact tj_X7_tell_14 u a0 a1 a2 a3)
def fx_X1_readMatch_42 (u : llMem)  : Option (llMem × Int32) := bd (fx_X1_clubHere_42 u ) (fun u1 r2 => (if ¬ r2 = ((-1)) then bd (fx_X9_takeNumber_1 u1 0 99) (fun u3 r4 => (if r4 = ((-1)) then gB 0 (some (u3, 0)) else bd (fx_X9_takeSign_1 u3 45) (fun u5 r6 => (if ¬ r6 = 0 then bd (fx_X9_takeNumber_1 u5 0 99) (fun u7 r8 => (if ¬ r8 = ((-1)) then bd (fx_X9_next_1 u7 ) (fun u9 _ => bd (fx_X1_clubHere_42 u9 ) (fun u10 r11 => (if ¬ r11 = ((-1)) then (if r2 = r11 then fx_X1_readMatch_42_j113 u10  else (fx_X5_together_3 u10 r2 r11).bind (fun r14 => (if r14 = 0 then fx_X1_readMatch_42_j113 u10  else (fx_X7_isTold_14 u10 r2 r11).bind (fun r15 => (if r15 = 0 then bd (fx_X9_takeSign_1 u10 59) (fun u16 r17 => (if ¬ r17 = 0 then bd (fx_X7_tell_14 u16 r2 r11 r4 r8) (fun u18 _ => gB 1 (some (u18, 1))) else gB 0 (some (u16, 0)))) else fx_X1_readMatch_42_j113 u10 ))))) else gB 0 (some (u10, 0))))) else gB 0 (some (u7, 0)))) else gB 0 (some (u5, 0)))))) else gB 0 (some (u1, 0))))
set_option maxRecDepth 20000 in
theorem tj_X1_readMatch_42 {G : llG} {d : Nat} (u : llMem)  : llJ G RX1 cX1_readMatch 5 (some .boolean) (d + 3) (fun r => llRet G (llI r.2) r.1) 0 [(0, .ref (llAd G 42))] [] u (fx_X1_readMatch_42 u ) := by
  unfold fx_X1_readMatch_42
  refine J_aload_n (j := 0) dX1_readMatch_0 rfl rfl ?_
  refine J_callVi0 dX1_readMatch_1 (t_X1_clubHere_42 (llL G) (llFx G) (d + 1) u ) ym_X1_clubHere wd_674 sh_42 rfl (Nat.le_of_ble_eq_true rfl) (fun u1 r2 => ?_)
  refine J_istore_n [(1, .int r2), (0, .ref (llAd G 42))] dX1_readMatch_4 rfl (by decide) rfl ?_
  refine J_iload_n (j := 0) dX1_readMatch_5 rfl rfl ?_
  refine J_iconst (v := (-1)) dX1_readMatch_6 (by decide) ?_
  refine J_icmp_ne (tgt := 12) dX1_readMatch_7 (by decide) ?_ ?_
  · refine J_aload_n (j := 1) dX1_readMatch_12 rfl rfl ?_
    refine J_getR (b := 1) dX1_readMatch_13 fl_X1_9 sh_42 rfl ?_
    refine J_iconst (v := 0) dX1_readMatch_16 (by decide) ?_
    refine J_bipush (v := 99) dX1_readMatch_17 (by decide) ?_
    refine J_callVi2 dX1_readMatch_19 (t_X9_takeNumber_1 (llL G) (llFx G) d u1 0 99) ym_X9_takeNumber wd_681 sh_1 rfl (Nat.le_of_ble_eq_true rfl) (fun u3 r4 => ?_)
    refine J_istore_n [(2, .int r4), (1, .int r2), (0, .ref (llAd G 42))] dX1_readMatch_22 rfl (by decide) rfl ?_
    refine J_iload_n (j := 0) dX1_readMatch_23 rfl rfl ?_
    refine J_iconst (v := (-1)) dX1_readMatch_24 (by decide) ?_
    refine J_icmp_eq (tgt := 40) dX1_readMatch_25 (by decide) ?_ ?_
    · refine J_iconst (v := 0) dX1_readMatch_40 (by decide) ?_
      exact J_zret dX1_readMatch_41 (fun h => h)
    · refine J_aload_n (j := 2) dX1_readMatch_28 rfl rfl ?_
      refine J_getR (b := 1) dX1_readMatch_29 fl_X1_9 sh_42 rfl ?_
      refine J_bipush (v := 45) dX1_readMatch_32 (by decide) ?_
      refine J_callVi1 dX1_readMatch_34 (t_X9_takeSign_1 (llL G) (llFx G) d u3 45) ym_X9_takeSign wd_682 sh_1 rfl (Nat.le_of_ble_eq_true rfl) (fun u5 r6 => ?_)
      refine J_if_ne (tgt := 42) dX1_readMatch_37 (by decide) ?_ ?_
      · refine J_aload_n (j := 2) dX1_readMatch_42 rfl rfl ?_
        refine J_getR (b := 1) dX1_readMatch_43 fl_X1_9 sh_42 rfl ?_
        refine J_iconst (v := 0) dX1_readMatch_46 (by decide) ?_
        refine J_bipush (v := 99) dX1_readMatch_47 (by decide) ?_
        refine J_callVi2 dX1_readMatch_49 (t_X9_takeNumber_1 (llL G) (llFx G) d u5 0 99) ym_X9_takeNumber wd_681 sh_1 rfl (Nat.le_of_ble_eq_true rfl) (fun u7 r8 => ?_)
        refine J_istore_n [(3, .int r8), (2, .int r4), (1, .int r2), (0, .ref (llAd G 42))] dX1_readMatch_52 rfl (by decide) rfl ?_
        refine J_iload_n (j := 0) dX1_readMatch_53 rfl rfl ?_
        refine J_iconst (v := (-1)) dX1_readMatch_54 (by decide) ?_
        refine J_icmp_ne (tgt := 60) dX1_readMatch_55 (by decide) ?_ ?_
        · refine J_aload_n (j := 3) dX1_readMatch_60 rfl rfl ?_
          refine J_getR (b := 1) dX1_readMatch_61 fl_X1_9 sh_42 rfl ?_
          refine J_callVv0 dX1_readMatch_64 (t_X9_next_1 (llL G) (llFx G) (d + 1) u7 ) ym_X9_next wd_669 sh_1 rfl (Nat.le_of_ble_eq_true rfl) (fun u9 => ?_)
          refine J_aload_n (j := 3) dX1_readMatch_67 rfl rfl ?_
          refine J_callVi0 dX1_readMatch_68 (t_X1_clubHere_42 (llL G) (llFx G) (d + 1) u9 ) ym_X1_clubHere wd_674 sh_42 rfl (Nat.le_of_ble_eq_true rfl) (fun u10 r11 => ?_)
          refine J_istore [(4, .int r11), (3, .int r8), (2, .int r4), (1, .int r2), (0, .ref (llAd G 42))] dX1_readMatch_71 (by decide) rfl ?_
          refine J_iload (j := 0) dX1_readMatch_73 rfl ?_
          refine J_iconst (v := (-1)) dX1_readMatch_75 (by decide) ?_
          refine J_icmp_ne (tgt := 81) dX1_readMatch_76 (by decide) ?_ ?_
          · refine J_iload_n (j := 3) dX1_readMatch_81 rfl rfl ?_
            refine J_iload (j := 0) dX1_readMatch_82 rfl ?_
            refine J_icmp_eq (tgt := 113) dX1_readMatch_84 (by decide) ?_ ?_
            · refine J_sub [4] (lv' := [(0, .ref (llAd G 42))]) rfl ?_
              exact t_X1_readMatch_42_j113 u10 
            · refine J_aload_n (j := 4) dX1_readMatch_87 rfl rfl ?_
              refine J_getR (b := 3) dX1_readMatch_88 fl_X1_15 sh_42 rfl ?_
              refine J_iload_n (j := 3) dX1_readMatch_91 rfl rfl ?_
              refine J_iload (j := 0) dX1_readMatch_92 rfl ?_
              refine J_callVip2 dX1_readMatch_94 (t_X5_together_3 (llL G) (llFx G) d u10 r2 r11) ym_X5_together wd_683 sh_3 rfl (Nat.le_of_ble_eq_true rfl) (fun r14 => ?_)
              refine J_if_eq (tgt := 113) dX1_readMatch_97 (by decide) ?_ ?_
              · refine J_sub [4] (lv' := [(0, .ref (llAd G 42))]) rfl ?_
                exact t_X1_readMatch_42_j113 u10 
              · refine J_aload_n (j := 4) dX1_readMatch_100 rfl rfl ?_
                refine J_getR (b := 14) dX1_readMatch_101 fl_X1_19 sh_42 rfl ?_
                refine J_iload_n (j := 3) dX1_readMatch_104 rfl rfl ?_
                refine J_iload (j := 0) dX1_readMatch_105 rfl ?_
                refine J_callVip2 dX1_readMatch_107 (t_X7_isTold_14 (llL G) (llFx G) (d + 2) u10 r2 r11) ym_X7_isTold wd_696 sh_14 rfl (Nat.le_of_ble_eq_true rfl) (fun r15 => ?_)
                refine J_if_eq (tgt := 122) dX1_readMatch_110 (by decide) ?_ ?_
                · refine J_aload_n (j := 4) dX1_readMatch_122 rfl rfl ?_
                  refine J_getR (b := 1) dX1_readMatch_123 fl_X1_9 sh_42 rfl ?_
                  refine J_bipush (v := 59) dX1_readMatch_126 (by decide) ?_
                  refine J_callVi1 dX1_readMatch_128 (t_X9_takeSign_1 (llL G) (llFx G) d u10 59) ym_X9_takeSign wd_682 sh_1 rfl (Nat.le_of_ble_eq_true rfl) (fun u16 r17 => ?_)
                  refine J_if_ne (tgt := 136) dX1_readMatch_131 (by decide) ?_ ?_
                  · refine J_aload_n (j := 4) dX1_readMatch_136 rfl rfl ?_
                    refine J_getR (b := 14) dX1_readMatch_137 fl_X1_19 sh_42 rfl ?_
                    refine J_iload_n (j := 3) dX1_readMatch_140 rfl rfl ?_
                    refine J_iload (j := 0) dX1_readMatch_141 rfl ?_
                    refine J_iload_n (j := 2) dX1_readMatch_143 rfl rfl ?_
                    refine J_iload_n (j := 1) dX1_readMatch_144 rfl rfl ?_
                    refine J_callVv4 dX1_readMatch_145 (t_X7_tell_14 (llL G) (llFx G) (d + 1) u16 r2 r11 r4 r8) ym_X7_tell wd_697 sh_14 rfl (Nat.le_of_ble_eq_true rfl) (fun u18 => ?_)
                    refine J_iconst (v := 1) dX1_readMatch_148 (by decide) ?_
                    exact J_zret dX1_readMatch_149 (fun h => h)
                  · refine J_iconst (v := 0) dX1_readMatch_134 (by decide) ?_
                    exact J_zret dX1_readMatch_135 (fun h => h)
                · refine J_sub [4] (lv' := [(0, .ref (llAd G 42))]) rfl ?_
                  exact t_X1_readMatch_42_j113 u10 
          · refine J_iconst (v := 0) dX1_readMatch_79 (by decide) ?_
            exact J_zret dX1_readMatch_80 (fun h => h)
        · refine J_iconst (v := 0) dX1_readMatch_58 (by decide) ?_
          exact J_zret dX1_readMatch_59 (fun h => h)
      · refine J_iconst (v := 0) dX1_readMatch_40 (by decide) ?_
        exact J_zret dX1_readMatch_41 (fun h => h)
  · refine J_iconst (v := 0) dX1_readMatch_10 (by decide) ?_
    exact J_zret dX1_readMatch_11 (fun h => h)
theorem t_X1_readMatch_42 (l : Launch) (F : llFix) (d : Nat) (u : llMem)  : llCt l F yX1_readMatch cX1_readMatch 5 (some .boolean) (d + 3) [.ref (F.2.2.1 42)] u llI (fx_X1_readMatch_42 u ) := llCt.of (by decide +kernel) (by exact Nat.le_of_ble_eq_true rfl) (fun G h1 h2 => by subst h1; subst h2; exact tj_X1_readMatch_42 u )
def fx_X1_read_42_l9  (s : llMem × Int32) : Option ((llMem × Int32) ⊕ ((llMem) ⊕ (llMem × Int32))) := (if 700 < s.2 then some (.inr (.inl s.1)) else bd (fx_X9_next_1 s.1 ) (fun u2 _ => (if ¬ (u2.1 1 2) = 0 then bd (fx_X1_readMatch_42 u2 ) (fun u3 r4 => (if ¬ r4 = 0 then lt (s.2 + 1) (fun v1_5 => some (.inl (u3, v1_5))) else gB 0 (some (.inr (.inr (u3, 0)))))) else gB 1 (some (.inr (.inr (u2, 1)))))))
set_option maxRecDepth 20000 in
theorem t_X1_read_42_l9 {G : llG} {d : Nat}  (s : llMem × Int32) : llJ G RX1 cX1_read 2 (some .boolean) (d + 4) (Sum.elim (fun s' => llJq G 2 9 [(0, .ref (llAd G 42)), (1, .int s'.2)] [] s'.1) (Sum.elim (fun e => llJq G 2 50 [(0, .ref (llAd G 42))] [] e) (fun v => llRet G (llI v.2) v.1))) 9 [(0, .ref (llAd G 42)), (1, .int s.2)] [] s.1 (fx_X1_read_42_l9 s) := by
  unfold fx_X1_read_42_l9
  refine J_iload_n (j := 1) dX1_read_9 rfl rfl ?_
  refine J_sipush (v := 700) dX1_read_10 (by decide) ?_
  refine J_icmp_gt (tgt := 50) dX1_read_13 (by decide) ?_ ?_
  · exact J_cut [0] (lv' := [(0, .ref (llAd G 42))]) rfl (fun h => h)
  · refine J_aload_n (j := 0) dX1_read_16 rfl rfl ?_
    refine J_getR (b := 1) dX1_read_17 fl_X1_9 sh_42 rfl ?_
    refine J_callVv0 dX1_read_20 (t_X9_next_1 (llL G) (llFx G) (d + 2) s.1 ) ym_X9_next wd_669 sh_1 rfl (Nat.le_of_ble_eq_true rfl) (fun u2 => ?_)
    refine J_aload_n (j := 0) dX1_read_23 rfl rfl ?_
    refine J_getR (b := 1) dX1_read_24 fl_X1_9 sh_42 rfl ?_
    refine J_getI dX1_read_27 fl_X1_31 sh_1 rfl ?_
    refine J_if_ne (tgt := 35) dX1_read_30 (by decide) ?_ ?_
    · refine J_aload_n (j := 0) dX1_read_35 rfl rfl ?_
      refine J_callVi0 dX1_read_36 (t_X1_readMatch_42 (llL G) (llFx G) d u2 ) ym_X1_readMatch wd_670 sh_42 rfl (Nat.le_of_ble_eq_true rfl) (fun u3 r4 => ?_)
      refine J_if_ne (tgt := 44) dX1_read_39 (by decide) ?_ ?_
      · refine J_iinc (j := 1) (b := 1) (fun v1_5 => [(1, .int v1_5), (0, .ref (llAd G 42))]) dX1_read_44 rfl (by decide) (by decide) (fun _ => rfl) (fun v1_5 => ?_)
        refine J_goto (tgt := 9) dX1_read_47 (by decide) ?_
        exact J_cut [1, 0] (lv' := [(0, .ref (llAd G 42)), (1, .int v1_5)]) rfl (fun h => h)
      · refine J_iconst (v := 0) dX1_read_42 (by decide) ?_
        exact J_zret dX1_read_43 (fun h => h)
    · refine J_iconst (v := 1) dX1_read_33 (by decide) ?_
      exact J_zret dX1_read_34 (fun h => h)
def fx_X1_read_42 (u : llMem)  : Option (llMem × Int32) := bd (fx_X9_startText_1 u ) (fun u1 _ => (loop (fx_X1_read_42_l9) llFuel (u1, 0)).bind (Sum.elim (fun e6 => bd (fx_X9_fail_1 e6 1) (fun u7 r8 => gB r8 (some (u7, r8)))) (fun v => some ((fun v => v) v))))
set_option maxRecDepth 20000 in
theorem tj_X1_read_42 {G : llG} {d : Nat} (u : llMem)  : llJ G RX1 cX1_read 2 (some .boolean) (d + 4) (fun r => llRet G (llI r.2) r.1) 0 [(0, .ref (llAd G 42))] [] u (fx_X1_read_42 u ) := by
  unfold fx_X1_read_42
  refine J_aload_n (j := 0) dX1_read_0 rfl rfl ?_
  refine J_getR (b := 1) dX1_read_1 fl_X1_9 sh_42 rfl ?_
  refine J_callVv0 dX1_read_4 (t_X9_startText_1 (llL G) (llFx G) (d + 3) u ) ym_X9_startText wd_668 sh_1 rfl (Nat.le_of_ble_eq_true rfl) (fun u1 => ?_)
  refine J_iconst (v := 0) dX1_read_7 (by decide) ?_
  refine J_istore_n [(1, .int 0), (0, .ref (llAd G 42))] dX1_read_8 rfl (by decide) rfl ?_
  refine J_loopR (wr := (fun v => v)) (fun s' => [(0, .ref (llAd G 42)), (1, .int s'.2)]) (fun s' => s'.1) 50 (fun e => [(0, .ref (llAd G 42))]) (fun e => e) (fun v => llRet G (llI v.2) v.1) (fun z => t_X1_read_42_l9 z) [1, 0] rfl rfl (fun v h => h) (fun e6 => ?_)
  refine J_aload_n (j := 0) dX1_read_50 rfl rfl ?_
  refine J_getR (b := 1) dX1_read_51 fl_X1_9 sh_42 rfl ?_
  refine J_iconst (v := 1) dX1_read_54 (by decide) ?_
  refine J_callVi1 dX1_read_55 (t_X9_fail_1 (llL G) (llFx G) (d + 3) e6 1) ym_X9_fail wd_679 sh_1 rfl (Nat.le_of_ble_eq_true rfl) (fun u7 r8 => ?_)
  exact J_zret dX1_read_58 (fun h => h)
theorem t_X1_read_42 (l : Launch) (F : llFix) (d : Nat) (u : llMem)  : llCt l F yX1_read cX1_read 2 (some .boolean) (d + 4) [.ref (F.2.2.1 42)] u llI (fx_X1_read_42 u ) := llCt.of (by decide +kernel) (by exact Nat.le_of_ble_eq_true rfl) (fun G h1 h2 => by subst h1; subst h2; exact tj_X1_read_42 u )
def fx_X2_keep_26_j60 (u : llMem) (v1 : Int32) (v2 : Int32) (v3 : Int32) : Option ((llMem × Unit)) := gI (u.1 26 2) 8 (lt (llSI u 27 (Int32.toNatClampNeg (u.1 26 2)) v1) (fun u1 => gI (u1.1 26 2) 8 (lt (llSI u1 28 (Int32.toNatClampNeg (u1.1 26 2)) v2) (fun u2 => gI (u2.1 26 2) 8 (lt (llSI u2 29 (Int32.toNatClampNeg (u2.1 26 2)) v3) (fun u3 => lt (llSI u3 26 2 ((u3.1 26 2) + 1)) (fun u4 => some (u4, ()))))))))
set_option maxRecDepth 20000 in
theorem t_X2_keep_26_j60 {G : llG} {d : Nat} (u : llMem) (v1 : Int32) (v2 : Int32) (v3 : Int32) : llJ G RX2 cX2_keep 4 none d (fun r => llRet G (llVd r.2) r.1) 60 [(0, .ref (llAd G 26)), (1, .int v1), (2, .int v2), (3, .int v3)] [] u (fx_X2_keep_26_j60 u v1 v2 v3) := by
  unfold fx_X2_keep_26_j60
  refine J_aload_n (j := 0) dX2_keep_60 rfl rfl ?_
  refine J_getR (b := 27) dX2_keep_61 fl_X2_17 sh_26 rfl ?_
  refine J_aload_n (j := 0) dX2_keep_64 rfl rfl ?_
  refine J_getI dX2_keep_65 fl_X2_27 sh_26 rfl ?_
  refine J_iload_n (j := 1) dX2_keep_68 rfl rfl ?_
  refine J_iast dX2_keep_69 sh_27 (fun u1 => ?_)
  refine J_aload_n (j := 0) dX2_keep_70 rfl rfl ?_
  refine J_getR (b := 28) dX2_keep_71 fl_X2_21 sh_26 rfl ?_
  refine J_aload_n (j := 0) dX2_keep_74 rfl rfl ?_
  refine J_getI dX2_keep_75 fl_X2_27 sh_26 rfl ?_
  refine J_iload_n (j := 2) dX2_keep_78 rfl rfl ?_
  refine J_iast dX2_keep_79 sh_28 (fun u2 => ?_)
  refine J_aload_n (j := 0) dX2_keep_80 rfl rfl ?_
  refine J_getR (b := 29) dX2_keep_81 fl_X2_24 sh_26 rfl ?_
  refine J_aload_n (j := 0) dX2_keep_84 rfl rfl ?_
  refine J_getI dX2_keep_85 fl_X2_27 sh_26 rfl ?_
  refine J_iload_n (j := 3) dX2_keep_88 rfl rfl ?_
  refine J_iast dX2_keep_89 sh_29 (fun u3 => ?_)
  refine J_aload_n (j := 0) dX2_keep_90 rfl rfl ?_
  refine J_dup dX2_keep_91 rfl ?_
  refine J_getI dX2_keep_92 fl_X2_27 sh_26 rfl ?_
  refine J_iconst (v := 1) dX2_keep_95 (by decide) ?_
  refine J_iadd dX2_keep_96 ?_
  refine J_putI dX2_keep_97 fl_X2_27 sh_26 rfl (fun u4 => ?_)
  exact J_vret dX2_keep_100 (fun h => h)
def fx_X2_keep_26 (u : llMem) (a0 : Int32) (a1 : Int32) (a2 : Int32) : Option (llMem × Unit) := (if (u.1 26 2) < 8 then fx_X2_keep_26_j60 u a0 a1 a2 else cpI u 27 8 27 8 1 0 7 (fun u5 => cpI u5 28 8 28 8 1 0 7 (fun u6 => cpI u6 29 8 29 8 1 0 7 (fun u7 => lt (llSI u7 26 2 7) (fun u8 => fx_X2_keep_26_j60 u8 a0 a1 a2)))))
set_option maxRecDepth 20000 in
theorem tj_X2_keep_26 {G : llG} {d : Nat} (u : llMem) (a0 : Int32) (a1 : Int32) (a2 : Int32) : llJ G RX2 cX2_keep 4 none d (fun r => llRet G (llVd r.2) r.1) 0 [(0, .ref (llAd G 26)), (1, .int a0), (2, .int a1), (3, .int a2)] [] u (fx_X2_keep_26 u a0 a1 a2) := by
  unfold fx_X2_keep_26
  refine J_aload_n (j := 0) dX2_keep_0 rfl rfl ?_
  refine J_getI dX2_keep_1 fl_X2_27 sh_26 rfl ?_
  refine J_bipush (v := 8) dX2_keep_4 (by decide) ?_
  refine J_icmp_lt (tgt := 60) dX2_keep_6 (by decide) ?_ ?_
  · refine J_sub [0, 1, 2, 3] (lv' := [(0, .ref (llAd G 26)), (1, .int a0), (2, .int a1), (3, .int a2)]) rfl ?_
    exact t_X2_keep_26_j60 u a0 a1 a2
  · refine J_aload_n (j := 0) dX2_keep_9 rfl rfl ?_
    refine J_getR (b := 27) dX2_keep_10 fl_X2_17 sh_26 rfl ?_
    refine J_iconst (v := 1) dX2_keep_13 (by decide) ?_
    refine J_aload_n (j := 0) dX2_keep_14 rfl rfl ?_
    refine J_getR (b := 27) dX2_keep_15 fl_X2_17 sh_26 rfl ?_
    refine J_iconst (v := 0) dX2_keep_18 (by decide) ?_
    refine J_bipush (v := 7) dX2_keep_19 (by decide) ?_
    refine J_cpI dX2_keep_21 wd_706 wd_622 wd_621 wd_15 sh_27 sh_27 (Nat.le_of_ble_eq_true rfl) (fun u5 => ?_)
    refine J_aload_n (j := 0) dX2_keep_24 rfl rfl ?_
    refine J_getR (b := 28) dX2_keep_25 fl_X2_21 sh_26 rfl ?_
    refine J_iconst (v := 1) dX2_keep_28 (by decide) ?_
    refine J_aload_n (j := 0) dX2_keep_29 rfl rfl ?_
    refine J_getR (b := 28) dX2_keep_30 fl_X2_21 sh_26 rfl ?_
    refine J_iconst (v := 0) dX2_keep_33 (by decide) ?_
    refine J_bipush (v := 7) dX2_keep_34 (by decide) ?_
    refine J_cpI dX2_keep_36 wd_706 wd_622 wd_621 wd_15 sh_28 sh_28 (Nat.le_of_ble_eq_true rfl) (fun u6 => ?_)
    refine J_aload_n (j := 0) dX2_keep_39 rfl rfl ?_
    refine J_getR (b := 29) dX2_keep_40 fl_X2_24 sh_26 rfl ?_
    refine J_iconst (v := 1) dX2_keep_43 (by decide) ?_
    refine J_aload_n (j := 0) dX2_keep_44 rfl rfl ?_
    refine J_getR (b := 29) dX2_keep_45 fl_X2_24 sh_26 rfl ?_
    refine J_iconst (v := 0) dX2_keep_48 (by decide) ?_
    refine J_bipush (v := 7) dX2_keep_49 (by decide) ?_
    refine J_cpI dX2_keep_51 wd_706 wd_622 wd_621 wd_15 sh_29 sh_29 (Nat.le_of_ble_eq_true rfl) (fun u7 => ?_)
    refine J_aload_n (j := 0) dX2_keep_54 rfl rfl ?_
    refine J_bipush (v := 7) dX2_keep_55 (by decide) ?_
    refine J_putI dX2_keep_57 fl_X2_27 sh_26 rfl (fun u8 => ?_)
    refine J_sub [0, 1, 2, 3] (lv' := [(0, .ref (llAd G 26)), (1, .int a0), (2, .int a1), (3, .int a2)]) rfl ?_
    exact t_X2_keep_26_j60 u8 a0 a1 a2
theorem t_X2_keep_26 (l : Launch) (F : llFix) (d : Nat) (u : llMem) (a0 : Int32) (a1 : Int32) (a2 : Int32) : llCt l F yX2_keep cX2_keep 4 none d [.ref (F.2.2.1 26), .int a0, .int a1, .int a2] u llVd (fx_X2_keep_26 u a0 a1 a2) := llCt.of (by decide +kernel) (by exact Nat.le_of_ble_eq_true rfl) (fun G h1 h2 => by subst h1; subst h2; exact tj_X2_keep_26 u a0 a1 a2)
def fx_X11_day_0 (u : llMem)  : Option (llMem × Int32) := lt (u.1 14 1) (fun v1_1 => bd (fx_X1_read_42 u ) (fun u2 r3 => lt (llSI u2 1 1 0) (fun u4 => (if ¬ r3 = 0 then lt ((u4.1 14 1) - v1_1) (fun v3_5 => (if v3_5 ≤ 0 then some (u4, v3_5) else bd (fx_X2_keep_26 u4 0 ((-1)) v1_1) (fun u6 _ => some (u6, v3_5)))) else bd (fx_X7_keepFirst_14 u4 v1_1) (fun u7 _ => some (u7, (-1)))))))
set_option maxRecDepth 20000 in
theorem tj_X11_day_0 {G : llG} {d : Nat} (u : llMem)  : llJ G RX11 cX11_day 4 (some .int) (d + 5) (fun r => llRet G (llI r.2) r.1) 0 [(0, .ref (llAd G 0))] [] u (fx_X11_day_0 u ) := by
  unfold fx_X11_day_0
  refine J_aload_n (j := 0) dX11_day_0 rfl rfl ?_
  refine J_getR (b := 14) dX11_day_1 fl_X11_26 sh_0 rfl ?_
  refine J_getI dX11_day_4 fl_X11_127 sh_14 rfl ?_
  refine J_istore_nL (fun v1_1 => [(1, .int v1_1), (0, .ref (llAd G 0))]) dX11_day_7 rfl (by decide) (fun _ => rfl) (fun v1_1 => ?_)
  refine J_aload_n (j := 1) dX11_day_8 rfl rfl ?_
  refine J_getR (b := 42) dX11_day_9 fl_X11_53 sh_0 rfl ?_
  refine J_callVi0 dX11_day_12 (t_X1_read_42 (llL G) (llFx G) d u ) ym_X1_read wd_664 sh_42 rfl (Nat.le_of_ble_eq_true rfl) (fun u2 r3 => ?_)
  refine J_istore_n [(2, .int r3), (1, .int v1_1), (0, .ref (llAd G 0))] dX11_day_15 rfl (by decide) rfl ?_
  refine J_aload_n (j := 2) dX11_day_16 rfl rfl ?_
  refine J_getR (b := 1) dX11_day_17 fl_X11_10 sh_0 rfl ?_
  refine J_iconst (v := 0) dX11_day_20 (by decide) ?_
  refine J_putI dX11_day_21 fl_X11_91 sh_1 rfl (fun u4 => ?_)
  refine J_iload_n (j := 0) dX11_day_24 rfl rfl ?_
  refine J_if_ne (tgt := 38) dX11_day_25 (by decide) ?_ ?_
  · refine J_aload_n (j := 2) dX11_day_38 rfl rfl ?_
    refine J_getR (b := 14) dX11_day_39 fl_X11_26 sh_0 rfl ?_
    refine J_getI dX11_day_42 fl_X11_127 sh_14 rfl ?_
    refine J_iload_n (j := 1) dX11_day_45 rfl rfl ?_
    refine J_isub dX11_day_46 ?_
    refine J_istore_nL (fun v3_5 => [(3, .int v3_5), (2, .int r3), (1, .int v1_1), (0, .ref (llAd G 0))]) dX11_day_47 rfl (by decide) (fun _ => rfl) (fun v3_5 => ?_)
    refine J_iload_n (j := 0) dX11_day_48 rfl rfl ?_
    refine J_if_le (tgt := 62) dX11_day_49 (by decide) ?_ ?_
    · refine J_iload_n (j := 0) dX11_day_62 rfl rfl ?_
      exact J_iret dX11_day_63 (fun h => h)
    · refine J_aload_n (j := 3) dX11_day_52 rfl rfl ?_
      refine J_getR (b := 26) dX11_day_53 fl_X11_35 sh_0 rfl ?_
      refine J_iconst (v := 0) dX11_day_56 (by decide) ?_
      refine J_iconst (v := (-1)) dX11_day_57 (by decide) ?_
      refine J_iload_n (j := 2) dX11_day_58 rfl rfl ?_
      refine J_callVv3 dX11_day_59 (t_X2_keep_26 (llL G) (llFx G) (d + 4) u4 0 ((-1)) v1_1) ym_X2_keep wd_702 sh_26 rfl (Nat.le_of_ble_eq_true rfl) (fun u6 => ?_)
      refine J_iload_n (j := 0) dX11_day_62 rfl rfl ?_
      exact J_iret dX11_day_63 (fun h => h)
  · refine J_aload_n (j := 2) dX11_day_28 rfl rfl ?_
    refine J_getR (b := 14) dX11_day_29 fl_X11_26 sh_0 rfl ?_
    refine J_iload_n (j := 1) dX11_day_32 rfl rfl ?_
    refine J_callVv1 dX11_day_33 (t_X7_keepFirst_14 (llL G) (llFx G) (d + 2) u4 v1_1) ym_X7_keepFirst wd_701 sh_14 rfl (Nat.le_of_ble_eq_true rfl) (fun u7 => ?_)
    refine J_iconst (v := (-1)) dX11_day_36 (by decide) ?_
    exact J_iret dX11_day_37 (fun h => h)
theorem t_X11_day_0 (l : Launch) (F : llFix) (d : Nat) (u : llMem)  : llCt l F yX11_day cX11_day 4 (some .int) (d + 5) [.ref (F.2.2.1 0)] u llI (fx_X11_day_0 u ) := llCt.of (by decide +kernel) (by exact Nat.le_of_ble_eq_true rfl) (fun G h1 h2 => by subst h1; subst h2; exact tj_X11_day_0 u )
def fx_X12_readMatch_69_j218_b170 (u : llMem) (v1 : Int32) (v2 : Int32) (v3 : Int32) (v4 : Int32) (v6 : Int32) (t0 : Int32) : Option ((Int32 × Int32) ⊕ (Int32)) := lt (v6 + 1) (fun v6_14 => some (.inl (t0, v6_14)))
set_option maxRecDepth 20000 in
theorem t_X12_readMatch_69_j218_b170 {G : llG} {d : Nat} (u : llMem) (v1 : Int32) (v2 : Int32) (v3 : Int32) (v4 : Int32) (v6 : Int32) (t0 : Int32) : llJ G RX12 cX12_readMatch 7 (some .boolean) (d + 9) (Sum.elim (fun s' => llJq G 7 170 [(0, .ref (llAd G 69)), (1, .int v1), (2, .int v2), (3, .int v3), (4, .int v4), (5, .int s'.1), (6, .int s'.2)] [] u) (fun e => llJq G 7 226 [(0, .ref (llAd G 69)), (1, .int v1), (2, .int v2), (3, .int v3), (4, .int v4), (5, .int e)] [] u)) 218 [(0, .ref (llAd G 69)), (1, .int v1), (2, .int v2), (3, .int v3), (4, .int v4), (6, .int v6)] [.int t0] u (fx_X12_readMatch_69_j218_b170 u v1 v2 v3 v4 v6 t0) := by
  unfold fx_X12_readMatch_69_j218_b170
  refine J_istore [(5, .int t0), (0, .ref (llAd G 69)), (1, .int v1), (2, .int v2), (3, .int v3), (4, .int v4), (6, .int v6)] dX12_readMatch_218 (by decide) rfl ?_
  refine J_iinc (j := 6) (b := 1) (fun v6_14 => [(6, .int v6_14), (5, .int t0), (0, .ref (llAd G 69)), (1, .int v1), (2, .int v2), (3, .int v3), (4, .int v4)]) dX12_readMatch_220 rfl (by decide) (by decide) (fun _ => rfl) (fun v6_14 => ?_)
  refine J_goto (tgt := 170) dX12_readMatch_223 (by decide) ?_
  exact J_cut [2, 3, 4, 5, 6, 1, 0] (lv' := [(0, .ref (llAd G 69)), (1, .int v1), (2, .int v2), (3, .int v3), (4, .int v4), (5, .int t0), (6, .int v6_14)]) rfl (fun h => h)
def fx_X12_readMatch_69_j217_b170 (u : llMem) (v1 : Int32) (v2 : Int32) (v3 : Int32) (v4 : Int32) (v6 : Int32) : Option ((Int32 × Int32) ⊕ (Int32)) := fx_X12_readMatch_69_j218_b170 u v1 v2 v3 v4 v6 0
set_option maxRecDepth 20000 in
theorem t_X12_readMatch_69_j217_b170 {G : llG} {d : Nat} (u : llMem) (v1 : Int32) (v2 : Int32) (v3 : Int32) (v4 : Int32) (v6 : Int32) : llJ G RX12 cX12_readMatch 7 (some .boolean) (d + 9) (Sum.elim (fun s' => llJq G 7 170 [(0, .ref (llAd G 69)), (1, .int v1), (2, .int v2), (3, .int v3), (4, .int v4), (5, .int s'.1), (6, .int s'.2)] [] u) (fun e => llJq G 7 226 [(0, .ref (llAd G 69)), (1, .int v1), (2, .int v2), (3, .int v3), (4, .int v4), (5, .int e)] [] u)) 217 [(0, .ref (llAd G 69)), (1, .int v1), (2, .int v2), (3, .int v3), (4, .int v4), (6, .int v6)] [] u (fx_X12_readMatch_69_j217_b170 u v1 v2 v3 v4 v6) := by
  unfold fx_X12_readMatch_69_j217_b170
  refine J_iconst (v := 0) dX12_readMatch_217 (by decide) ?_
  refine J_sub [0, 1, 2, 3, 4, 5] (lv' := [(0, .ref (llAd G 69)), (1, .int v1), (2, .int v2), (3, .int v3), (4, .int v4), (6, .int v6)]) rfl ?_
  exact t_X12_readMatch_69_j218_b170 u v1 v2 v3 v4 v6 0
def fx_X12_readMatch_69_j213_b170 (u : llMem) (v1 : Int32) (v2 : Int32) (v3 : Int32) (v4 : Int32) (v6 : Int32) : Option ((Int32 × Int32) ⊕ (Int32)) := fx_X12_readMatch_69_j218_b170 u v1 v2 v3 v4 v6 1
set_option maxRecDepth 20000 in
theorem t_X12_readMatch_69_j213_b170 {G : llG} {d : Nat} (u : llMem) (v1 : Int32) (v2 : Int32) (v3 : Int32) (v4 : Int32) (v6 : Int32) : llJ G RX12 cX12_readMatch 7 (some .boolean) (d + 9) (Sum.elim (fun s' => llJq G 7 170 [(0, .ref (llAd G 69)), (1, .int v1), (2, .int v2), (3, .int v3), (4, .int v4), (5, .int s'.1), (6, .int s'.2)] [] u) (fun e => llJq G 7 226 [(0, .ref (llAd G 69)), (1, .int v1), (2, .int v2), (3, .int v3), (4, .int v4), (5, .int e)] [] u)) 213 [(0, .ref (llAd G 69)), (1, .int v1), (2, .int v2), (3, .int v3), (4, .int v4), (6, .int v6)] [] u (fx_X12_readMatch_69_j213_b170 u v1 v2 v3 v4 v6) := by
  unfold fx_X12_readMatch_69_j213_b170
  refine J_iconst (v := 1) dX12_readMatch_213 (by decide) ?_
  refine J_goto (tgt := 218) dX12_readMatch_214 (by decide) ?_
  refine J_sub [0, 1, 2, 3, 4, 5] (lv' := [(0, .ref (llAd G 69)), (1, .int v1), (2, .int v2), (3, .int v3), (4, .int v4), (6, .int v6)]) rfl ?_
  exact t_X12_readMatch_69_j218_b170 u v1 v2 v3 v4 v6 1
def fx_X12_readMatch_69_l170 (u : llMem) (v1 : Int32) (v2 : Int32) (v3 : Int32) (v4 : Int32) (s : Int32 × Int32) : Option ((Int32 × Int32) ⊕ (Int32)) := (if (u.1 69 29) ≤ s.2 then some (.inr s.1) else (if s.1 = 0 then fx_X12_readMatch_69_j217_b170 u v1 v2 v3 v4 s.2 else gI (3 * s.2) 360 ((if ¬ (rI u 80 (3 * s.2)) = v1 then fx_X12_readMatch_69_j213_b170 u v1 v2 v3 v4 s.2 else gI ((3 * s.2) + 1) 360 ((if (rI u 80 ((3 * s.2) + 1)) = v4 then fx_X12_readMatch_69_j217_b170 u v1 v2 v3 v4 s.2 else fx_X12_readMatch_69_j213_b170 u v1 v2 v3 v4 s.2))))))
set_option maxRecDepth 20000 in
theorem t_X12_readMatch_69_l170 {G : llG} {d : Nat} (u : llMem) (v1 : Int32) (v2 : Int32) (v3 : Int32) (v4 : Int32) (s : Int32 × Int32) : llJ G RX12 cX12_readMatch 7 (some .boolean) (d + 9) (Sum.elim (fun s' => llJq G 7 170 [(0, .ref (llAd G 69)), (1, .int v1), (2, .int v2), (3, .int v3), (4, .int v4), (5, .int s'.1), (6, .int s'.2)] [] u) (fun e => llJq G 7 226 [(0, .ref (llAd G 69)), (1, .int v1), (2, .int v2), (3, .int v3), (4, .int v4), (5, .int e)] [] u)) 170 [(0, .ref (llAd G 69)), (1, .int v1), (2, .int v2), (3, .int v3), (4, .int v4), (5, .int s.1), (6, .int s.2)] [] u (fx_X12_readMatch_69_l170 u v1 v2 v3 v4 s) := by
  unfold fx_X12_readMatch_69_l170
  refine J_iload (j := 6) dX12_readMatch_170 rfl ?_
  refine J_aload_n (j := 0) dX12_readMatch_172 rfl rfl ?_
  refine J_getI dX12_readMatch_173 fl_X12_275 sh_69 rfl ?_
  refine J_icmp_ge (tgt := 226) dX12_readMatch_176 (by decide) ?_ ?_
  · exact J_cut [0, 1, 2, 3, 4, 5] (lv' := [(0, .ref (llAd G 69)), (1, .int v1), (2, .int v2), (3, .int v3), (4, .int v4), (5, .int s.1)]) rfl (fun h => h)
  · refine J_iload (j := 5) dX12_readMatch_179 rfl ?_
    refine J_if_eq (tgt := 217) dX12_readMatch_181 (by decide) ?_ ?_
    · refine J_sub [0, 1, 2, 3, 4, 6] (lv' := [(0, .ref (llAd G 69)), (1, .int v1), (2, .int v2), (3, .int v3), (4, .int v4), (6, .int s.2)]) rfl ?_
      exact t_X12_readMatch_69_j217_b170 u v1 v2 v3 v4 s.2
    · refine J_aload_n (j := 0) dX12_readMatch_184 rfl rfl ?_
      refine J_getR (b := 80) dX12_readMatch_185 fl_X12_45 sh_69 rfl ?_
      refine J_iconst (v := 3) dX12_readMatch_188 (by decide) ?_
      refine J_iload (j := 6) dX12_readMatch_189 rfl ?_
      refine J_imul dX12_readMatch_191 ?_
      refine J_iald dX12_readMatch_192 sh_80 ?_
      refine J_iload_n (j := 1) dX12_readMatch_193 rfl rfl ?_
      refine J_icmp_ne (tgt := 213) dX12_readMatch_194 (by decide) ?_ ?_
      · refine J_sub [0, 1, 2, 3, 4, 6] (lv' := [(0, .ref (llAd G 69)), (1, .int v1), (2, .int v2), (3, .int v3), (4, .int v4), (6, .int s.2)]) rfl ?_
        exact t_X12_readMatch_69_j213_b170 u v1 v2 v3 v4 s.2
      · refine J_aload_n (j := 0) dX12_readMatch_197 rfl rfl ?_
        refine J_getR (b := 80) dX12_readMatch_198 fl_X12_45 sh_69 rfl ?_
        refine J_iconst (v := 3) dX12_readMatch_201 (by decide) ?_
        refine J_iload (j := 6) dX12_readMatch_202 rfl ?_
        refine J_imul dX12_readMatch_204 ?_
        refine J_iconst (v := 1) dX12_readMatch_205 (by decide) ?_
        refine J_iadd dX12_readMatch_206 ?_
        refine J_iald dX12_readMatch_207 sh_80 ?_
        refine J_iload (j := 4) dX12_readMatch_208 rfl ?_
        refine J_icmp_eq (tgt := 217) dX12_readMatch_210 (by decide) ?_ ?_
        · refine J_sub [0, 1, 2, 3, 4, 6] (lv' := [(0, .ref (llAd G 69)), (1, .int v1), (2, .int v2), (3, .int v3), (4, .int v4), (6, .int s.2)]) rfl ?_
          exact t_X12_readMatch_69_j217_b170 u v1 v2 v3 v4 s.2
        · refine J_sub [0, 1, 2, 3, 4, 6] (lv' := [(0, .ref (llAd G 69)), (1, .int v1), (2, .int v2), (3, .int v3), (4, .int v4), (6, .int s.2)]) rfl ?_
          exact t_X12_readMatch_69_j213_b170 u v1 v2 v3 v4 s.2
def fx_X12_readMatch_69_j165 (u : llMem) (v1 : Int32) (v2 : Int32) (v3 : Int32) (v4 : Int32) (t0 : Int32) : Option ((llMem × Int32)) := (loop (fx_X12_readMatch_69_l170 u v1 v2 v3 v4) llFuel (t0, 0)).bind (fun e15 => (if ¬ e15 = 0 then bd (fx_X12_next_69 u ) (fun u16 _ => gI (3 * (u16.1 69 29)) 360 (lt (llSI u16 80 (Int32.toNatClampNeg (3 * (u16.1 69 29))) v1) (fun u17 => gI ((3 * (u17.1 69 29)) + 1) 360 (lt (llSI u17 80 (Int32.toNatClampNeg ((3 * (u17.1 69 29)) + 1)) v4) (fun u18 => gI ((3 * (u18.1 69 29)) + 2) 360 (lt (llSI u18 80 (Int32.toNatClampNeg ((3 * (u18.1 69 29)) + 2)) ((100 * v2) + v3)) (fun u19 => bd (fx_X12_takesSign_69 u19 59) (fun u20 r21 => (if ¬ r21 = 0 then lt (llSI u20 69 29 ((u20.1 69 29) + 1)) (fun u22 => gB 1 (some (u22, 1))) else gB 0 (some (u20, 0))))))))))) else bd (fx_X12_fails_69 u 4) (fun u23 r24 => gB r24 (some (u23, r24)))))
set_option maxRecDepth 20000 in
theorem t_X12_readMatch_69_j165 {G : llG} {d : Nat} (u : llMem) (v1 : Int32) (v2 : Int32) (v3 : Int32) (v4 : Int32) (t0 : Int32) : llJ G RX12 cX12_readMatch 7 (some .boolean) (d + 9) (fun r => llRet G (llI r.2) r.1) 165 [(0, .ref (llAd G 69)), (1, .int v1), (2, .int v2), (3, .int v3), (4, .int v4)] [.int t0] u (fx_X12_readMatch_69_j165 u v1 v2 v3 v4 t0) := by
  unfold fx_X12_readMatch_69_j165
  refine J_istore [(5, .int t0), (0, .ref (llAd G 69)), (1, .int v1), (2, .int v2), (3, .int v3), (4, .int v4)] dX12_readMatch_165 (by decide) rfl ?_
  refine J_iconst (v := 0) dX12_readMatch_167 (by decide) ?_
  refine J_istore [(6, .int 0), (5, .int t0), (0, .ref (llAd G 69)), (1, .int v1), (2, .int v2), (3, .int v3), (4, .int v4)] dX12_readMatch_168 (by decide) rfl ?_
  refine J_loopE (fun s' => [(0, .ref (llAd G 69)), (1, .int v1), (2, .int v2), (3, .int v3), (4, .int v4), (5, .int s'.1), (6, .int s'.2)]) (fun s' => u) 226 (fun e => [(0, .ref (llAd G 69)), (1, .int v1), (2, .int v2), (3, .int v3), (4, .int v4), (5, .int e)]) (fun e => u) (fun z => t_X12_readMatch_69_l170 u v1 v2 v3 v4 z) [2, 3, 4, 5, 6, 1, 0] rfl rfl (fun e15 => ?_)
  refine J_iload (j := 5) dX12_readMatch_226 rfl ?_
  refine J_if_ne (tgt := 237) dX12_readMatch_228 (by decide) ?_ ?_
  · refine J_aload_n (j := 0) dX12_readMatch_237 rfl rfl ?_
    refine J_callVv0 dX12_readMatch_238 (t_X12_next_69 (llL G) (llFx G) (d + 7) u ) ym_X12_next wd_1324 sh_69 rfl (Nat.le_of_ble_eq_true rfl) (fun u16 => ?_)
    refine J_aload_n (j := 0) dX12_readMatch_241 rfl rfl ?_
    refine J_getR (b := 80) dX12_readMatch_242 fl_X12_45 sh_69 rfl ?_
    refine J_iconst (v := 3) dX12_readMatch_245 (by decide) ?_
    refine J_aload_n (j := 0) dX12_readMatch_246 rfl rfl ?_
    refine J_getI dX12_readMatch_247 fl_X12_275 sh_69 rfl ?_
    refine J_imul dX12_readMatch_250 ?_
    refine J_iload_n (j := 1) dX12_readMatch_251 rfl rfl ?_
    refine J_iast dX12_readMatch_252 sh_80 (fun u17 => ?_)
    refine J_aload_n (j := 0) dX12_readMatch_253 rfl rfl ?_
    refine J_getR (b := 80) dX12_readMatch_254 fl_X12_45 sh_69 rfl ?_
    refine J_iconst (v := 3) dX12_readMatch_257 (by decide) ?_
    refine J_aload_n (j := 0) dX12_readMatch_258 rfl rfl ?_
    refine J_getI dX12_readMatch_259 fl_X12_275 sh_69 rfl ?_
    refine J_imul dX12_readMatch_262 ?_
    refine J_iconst (v := 1) dX12_readMatch_263 (by decide) ?_
    refine J_iadd dX12_readMatch_264 ?_
    refine J_iload (j := 4) dX12_readMatch_265 rfl ?_
    refine J_iast dX12_readMatch_267 sh_80 (fun u18 => ?_)
    refine J_aload_n (j := 0) dX12_readMatch_268 rfl rfl ?_
    refine J_getR (b := 80) dX12_readMatch_269 fl_X12_45 sh_69 rfl ?_
    refine J_iconst (v := 3) dX12_readMatch_272 (by decide) ?_
    refine J_aload_n (j := 0) dX12_readMatch_273 rfl rfl ?_
    refine J_getI dX12_readMatch_274 fl_X12_275 sh_69 rfl ?_
    refine J_imul dX12_readMatch_277 ?_
    refine J_iconst (v := 2) dX12_readMatch_278 (by decide) ?_
    refine J_iadd dX12_readMatch_279 ?_
    refine J_bipush (v := 100) dX12_readMatch_280 (by decide) ?_
    refine J_iload_n (j := 2) dX12_readMatch_282 rfl rfl ?_
    refine J_imul dX12_readMatch_283 ?_
    refine J_iload_n (j := 3) dX12_readMatch_284 rfl rfl ?_
    refine J_iadd dX12_readMatch_285 ?_
    refine J_iast dX12_readMatch_286 sh_80 (fun u19 => ?_)
    refine J_aload_n (j := 0) dX12_readMatch_287 rfl rfl ?_
    refine J_bipush (v := 59) dX12_readMatch_288 (by decide) ?_
    refine J_callVi1 dX12_readMatch_290 (t_X12_takesSign_69 (llL G) (llFx G) (d + 6) u19 59) ym_X12_takesSign wd_1442 sh_69 rfl (Nat.le_of_ble_eq_true rfl) (fun u20 r21 => ?_)
    refine J_if_ne (tgt := 298) dX12_readMatch_293 (by decide) ?_ ?_
    · refine J_aload_n (j := 0) dX12_readMatch_298 rfl rfl ?_
      refine J_dup dX12_readMatch_299 rfl ?_
      refine J_getI dX12_readMatch_300 fl_X12_275 sh_69 rfl ?_
      refine J_iconst (v := 1) dX12_readMatch_303 (by decide) ?_
      refine J_iadd dX12_readMatch_304 ?_
      refine J_putI dX12_readMatch_305 fl_X12_275 sh_69 rfl (fun u22 => ?_)
      refine J_iconst (v := 1) dX12_readMatch_308 (by decide) ?_
      exact J_zret dX12_readMatch_309 (fun h => h)
    · refine J_iconst (v := 0) dX12_readMatch_296 (by decide) ?_
      exact J_zret dX12_readMatch_297 (fun h => h)
  · refine J_aload_n (j := 0) dX12_readMatch_231 rfl rfl ?_
    refine J_iconst (v := 4) dX12_readMatch_232 (by decide) ?_
    refine J_callVi1 dX12_readMatch_233 (t_X12_fails_69 (llL G) (llFx G) (d + 8) u 4) ym_X12_fails wd_1400 sh_69 rfl (Nat.le_of_ble_eq_true rfl) (fun u23 r24 => ?_)
    exact J_zret dX12_readMatch_236 (fun h => h)
def fx_X12_readMatch_69_j164 (u : llMem) (v1 : Int32) (v2 : Int32) (v3 : Int32) (v4 : Int32) : Option ((llMem × Int32)) := fx_X12_readMatch_69_j165 u v1 v2 v3 v4 0
set_option maxRecDepth 20000 in
theorem t_X12_readMatch_69_j164 {G : llG} {d : Nat} (u : llMem) (v1 : Int32) (v2 : Int32) (v3 : Int32) (v4 : Int32) : llJ G RX12 cX12_readMatch 7 (some .boolean) (d + 9) (fun r => llRet G (llI r.2) r.1) 164 [(0, .ref (llAd G 69)), (1, .int v1), (2, .int v2), (3, .int v3), (4, .int v4)] [] u (fx_X12_readMatch_69_j164 u v1 v2 v3 v4) := by
  unfold fx_X12_readMatch_69_j164
  refine J_iconst (v := 0) dX12_readMatch_164 (by decide) ?_
  refine J_sub [0, 1, 2, 3, 4] (lv' := [(0, .ref (llAd G 69)), (1, .int v1), (2, .int v2), (3, .int v3), (4, .int v4)]) rfl ?_
  exact t_X12_readMatch_69_j165 u v1 v2 v3 v4 0
def fx_X12_isClub_69 (u : llMem) (a0 : Int32) : Option Int32 := (fx_X12_isIn u (Int32.toInt64 a0) 0 (Int32.toInt64 ((u.1 69 9) - 1))).bind (fun r1 => gB r1 (some r1))
set_option maxRecDepth 20000 in
theorem tj_X12_isClub_69 {G : llG} {d : Nat} (u : llMem) (a0 : Int32) : llJ G RX12 cX12_isClub 2 (some .boolean) (d + 1) (fun r => llRet G (llI r) u) 0 [(0, .ref (llAd G 69)), (1, .int a0)] [] u (fx_X12_isClub_69 u a0) := by
  unfold fx_X12_isClub_69
  refine J_iload_n (j := 1) dX12_isClub_0 rfl rfl ?_
  refine J_i2l dX12_isClub_1 ?_
  refine J_lconst (v := 0) dX12_isClub_2 (by decide) ?_
  refine J_aload_n (j := 0) dX12_isClub_3 rfl rfl ?_
  refine J_getI dX12_isClub_4 fl_X12_263 sh_69 rfl ?_
  refine J_iconst (v := 1) dX12_isClub_7 (by decide) ?_
  refine J_isub dX12_isClub_8 ?_
  refine J_i2l dX12_isClub_9 ?_
  refine J_callSip3 dX12_isClub_10 (t_X12_isIn (llL G) (llFx G) d u (Int32.toInt64 a0) 0 (Int32.toInt64 ((u.1 69 9) - 1))) ym_X12_isIn wd_1313 (Nat.le_of_ble_eq_true rfl) (fun r1 => ?_)
  exact J_zret dX12_isClub_13 (fun h => h)
theorem t_X12_isClub_69 (l : Launch) (F : llFix) (d : Nat) (u : llMem) (a0 : Int32) : llCp l F yX12_isClub cX12_isClub 2 (some .boolean) (d + 1) [.ref (F.2.2.1 69), .int a0] u llI (fx_X12_isClub_69 u a0) := llCp.of (by decide +kernel) (by exact Nat.le_of_ble_eq_true rfl) (fun G h1 h2 => by subst h1; subst h2; exact tj_X12_isClub_69 u a0)
def fx_X12_plays_69 (u : llMem) (a0 : Int32) : Option Int32 := (fx_X12_isClub_69 u a0).bind (fun r1 => (if r1 = 0 then gB 0 (some 0) else gI a0 60 ((if (rI u 74 a0) < 0 then gB 0 (some 0) else gB 1 (some 1)))))
set_option maxRecDepth 20000 in
theorem tj_X12_plays_69 {G : llG} {d : Nat} (u : llMem) (a0 : Int32) : llJ G RX12 cX12_plays 2 (some .boolean) (d + 2) (fun r => llRet G (llI r) u) 0 [(0, .ref (llAd G 69)), (1, .int a0)] [] u (fx_X12_plays_69 u a0) := by
  unfold fx_X12_plays_69
  refine J_aload_n (j := 0) dX12_plays_0 rfl rfl ?_
  refine J_iload_n (j := 1) dX12_plays_1 rfl rfl ?_
  refine J_callVip1 dX12_plays_2 (t_X12_isClub_69 (llL G) (llFx G) d u a0) ym_X12_isClub wd_1471 sh_69 rfl (Nat.le_of_ble_eq_true rfl) (fun r1 => ?_)
  refine J_if_eq (tgt := 21) dX12_plays_5 (by decide) ?_ ?_
  · refine J_iconst (v := 0) dX12_plays_21 (by decide) ?_
    exact J_zret dX12_plays_22 (fun h => h)
  · refine J_aload_n (j := 0) dX12_plays_8 rfl rfl ?_
    refine J_getR (b := 74) dX12_plays_9 fl_X12_23 sh_69 rfl ?_
    refine J_iload_n (j := 1) dX12_plays_12 rfl rfl ?_
    refine J_iald dX12_plays_13 sh_74 ?_
    refine J_if_lt (tgt := 21) dX12_plays_14 (by decide) ?_ ?_
    · refine J_iconst (v := 0) dX12_plays_21 (by decide) ?_
      exact J_zret dX12_plays_22 (fun h => h)
    · refine J_iconst (v := 1) dX12_plays_17 (by decide) ?_
      refine J_goto (tgt := 22) dX12_plays_18 (by decide) ?_
      exact J_zret dX12_plays_22 (fun h => h)
theorem t_X12_plays_69 (l : Launch) (F : llFix) (d : Nat) (u : llMem) (a0 : Int32) : llCp l F yX12_plays cX12_plays 2 (some .boolean) (d + 2) [.ref (F.2.2.1 69), .int a0] u llI (fx_X12_plays_69 u a0) := llCp.of (by decide +kernel) (by exact Nat.le_of_ble_eq_true rfl) (fun G h1 h2 => by subst h1; subst h2; exact tj_X12_plays_69 u a0)
def fx_X12_areTogether_69 (u : llMem) (a0 : Int32) (a1 : Int32) : Option Int32 := (fx_X12_plays_69 u a0).bind (fun r1 => (if r1 = 0 then gB 0 (some 0) else (fx_X12_plays_69 u a1).bind (fun r2 => (if r2 = 0 then gB 0 (some 0) else gI a0 60 (gI a1 60 ((if ¬ (rI u 74 a0) = (rI u 74 a1) then gB 0 (some 0) else gI a0 60 (gI a1 60 ((if ¬ (rI u 75 a0) = (rI u 75 a1) then gB 0 (some 0) else gB 1 (some 1)))))))))))
set_option maxRecDepth 20000 in
theorem tj_X12_areTogether_69 {G : llG} {d : Nat} (u : llMem) (a0 : Int32) (a1 : Int32) : llJ G RX12 cX12_areTogether 3 (some .boolean) (d + 3) (fun r => llRet G (llI r) u) 0 [(0, .ref (llAd G 69)), (1, .int a0), (2, .int a1)] [] u (fx_X12_areTogether_69 u a0 a1) := by
  unfold fx_X12_areTogether_69
  refine J_aload_n (j := 0) dX12_areTogether_0 rfl rfl ?_
  refine J_iload_n (j := 1) dX12_areTogether_1 rfl rfl ?_
  refine J_callVip1 dX12_areTogether_2 (t_X12_plays_69 (llL G) (llFx G) d u a0) ym_X12_plays wd_1467 sh_69 rfl (Nat.le_of_ble_eq_true rfl) (fun r1 => ?_)
  refine J_if_eq (tgt := 50) dX12_areTogether_5 (by decide) ?_ ?_
  · refine J_iconst (v := 0) dX12_areTogether_50 (by decide) ?_
    exact J_zret dX12_areTogether_51 (fun h => h)
  · refine J_aload_n (j := 0) dX12_areTogether_8 rfl rfl ?_
    refine J_iload_n (j := 2) dX12_areTogether_9 rfl rfl ?_
    refine J_callVip1 dX12_areTogether_10 (t_X12_plays_69 (llL G) (llFx G) d u a1) ym_X12_plays wd_1467 sh_69 rfl (Nat.le_of_ble_eq_true rfl) (fun r2 => ?_)
    refine J_if_eq (tgt := 50) dX12_areTogether_13 (by decide) ?_ ?_
    · refine J_iconst (v := 0) dX12_areTogether_50 (by decide) ?_
      exact J_zret dX12_areTogether_51 (fun h => h)
    · refine J_aload_n (j := 0) dX12_areTogether_16 rfl rfl ?_
      refine J_getR (b := 74) dX12_areTogether_17 fl_X12_23 sh_69 rfl ?_
      refine J_iload_n (j := 1) dX12_areTogether_20 rfl rfl ?_
      refine J_iald dX12_areTogether_21 sh_74 ?_
      refine J_aload_n (j := 0) dX12_areTogether_22 rfl rfl ?_
      refine J_getR (b := 74) dX12_areTogether_23 fl_X12_23 sh_69 rfl ?_
      refine J_iload_n (j := 2) dX12_areTogether_26 rfl rfl ?_
      refine J_iald dX12_areTogether_27 sh_74 ?_
      refine J_icmp_ne (tgt := 50) dX12_areTogether_28 (by decide) ?_ ?_
      · refine J_iconst (v := 0) dX12_areTogether_50 (by decide) ?_
        exact J_zret dX12_areTogether_51 (fun h => h)
      · refine J_aload_n (j := 0) dX12_areTogether_31 rfl rfl ?_
        refine J_getR (b := 75) dX12_areTogether_32 fl_X12_26 sh_69 rfl ?_
        refine J_iload_n (j := 1) dX12_areTogether_35 rfl rfl ?_
        refine J_iald dX12_areTogether_36 sh_75 ?_
        refine J_aload_n (j := 0) dX12_areTogether_37 rfl rfl ?_
        refine J_getR (b := 75) dX12_areTogether_38 fl_X12_26 sh_69 rfl ?_
        refine J_iload_n (j := 2) dX12_areTogether_41 rfl rfl ?_
        refine J_iald dX12_areTogether_42 sh_75 ?_
        refine J_icmp_ne (tgt := 50) dX12_areTogether_43 (by decide) ?_ ?_
        · refine J_iconst (v := 0) dX12_areTogether_50 (by decide) ?_
          exact J_zret dX12_areTogether_51 (fun h => h)
        · refine J_iconst (v := 1) dX12_areTogether_46 (by decide) ?_
          refine J_goto (tgt := 51) dX12_areTogether_47 (by decide) ?_
          exact J_zret dX12_areTogether_51 (fun h => h)
theorem t_X12_areTogether_69 (l : Launch) (F : llFix) (d : Nat) (u : llMem) (a0 : Int32) (a1 : Int32) : llCp l F yX12_areTogether cX12_areTogether 3 (some .boolean) (d + 3) [.ref (F.2.2.1 69), .int a0, .int a1] u llI (fx_X12_areTogether_69 u a0 a1) := llCp.of (by decide +kernel) (by exact Nat.le_of_ble_eq_true rfl) (fun G h1 h2 => by subst h1; subst h2; exact tj_X12_areTogether_69 u a0 a1)
def fx_X12_readMatch_69 (u : llMem)  : Option (llMem × Int32) := (fx_X12_isName_69 u ).bind (fun r1 => (if ¬ r1 = 0 then (fx_X12_placeOf_69 u (u.2.1 69 24) 0 (u.1 69 9)).bind (fun r2 => (if ¬ r2 = ((-1)) then bd (fx_X12_next_69 u ) (fun u3 _ => bd (fx_X12_readNumber_69 u3 0 99) (fun u4 r5 => (if ¬ r5 = 0 then lt (u4.1 69 27) (fun v2_6 => bd (fx_X12_takesSign_69 u4 45) (fun u7 r8 => (if r8 = 0 then gB 0 (some (u7, 0)) else bd (fx_X12_readNumber_69 u7 0 99) (fun u9 r10 => (if ¬ r10 = 0 then lt (u9.1 69 27) (fun v3_11 => (fx_X12_isName_69 u9 ).bind (fun r12 => (if ¬ r12 = 0 then (fx_X12_placeOf_69 u9 (u9.2.1 69 24) 0 (u9.1 69 9)).bind (fun r13 => (if ¬ r13 = ((-1)) then (if r2 = r13 then fx_X12_readMatch_69_j164 u9 r2 v2_6 v3_11 r13 else (fx_X12_areTogether_69 u9 r2 r13).bind (fun r25 => (if r25 = 0 then fx_X12_readMatch_69_j164 u9 r2 v2_6 v3_11 r13 else gI ((120 + (30 * r2)) + r13) 1020 ((if ¬ (rI u9 77 ((120 + (30 * r2)) + r13)) = ((-1)) then fx_X12_readMatch_69_j164 u9 r2 v2_6 v3_11 r13 else fx_X12_readMatch_69_j165 u9 r2 v2_6 v3_11 r13 1))))) else bd (fx_X12_fails_69 u9 2) (fun u26 r27 => gB r27 (some (u26, r27))))) else bd (fx_X12_fails_69 u9 1) (fun u28 r29 => gB r29 (some (u28, r29)))))) else gB 0 (some (u9, 0))))))) else gB 0 (some (u4, 0))))) else bd (fx_X12_fails_69 u 2) (fun u30 r31 => gB r31 (some (u30, r31))))) else bd (fx_X12_fails_69 u 1) (fun u32 r33 => gB r33 (some (u32, r33)))))
set_option maxRecDepth 20000 in
theorem tj_X12_readMatch_69 {G : llG} {d : Nat} (u : llMem)  : llJ G RX12 cX12_readMatch 7 (some .boolean) (d + 9) (fun r => llRet G (llI r.2) r.1) 0 [(0, .ref (llAd G 69))] [] u (fx_X12_readMatch_69 u ) := by
  unfold fx_X12_readMatch_69
  refine J_aload_n (j := 0) dX12_readMatch_0 rfl rfl ?_
  refine J_callVip0 dX12_readMatch_1 (t_X12_isName_69 (llL G) (llFx G) d u ) ym_X12_isName wd_1425 sh_69 rfl (Nat.le_of_ble_eq_true rfl) (fun r1 => ?_)
  refine J_if_ne (tgt := 13) dX12_readMatch_4 (by decide) ?_ ?_
  · refine J_aload_n (j := 0) dX12_readMatch_13 rfl rfl ?_
    refine J_aload_n (j := 0) dX12_readMatch_14 rfl rfl ?_
    refine J_getL dX12_readMatch_15 fl_X12_134 sh_69 rfl ?_
    refine J_iconst (v := 0) dX12_readMatch_18 (by decide) ?_
    refine J_aload_n (j := 0) dX12_readMatch_19 rfl rfl ?_
    refine J_getI dX12_readMatch_20 fl_X12_263 sh_69 rfl ?_
    refine J_callVip3 dX12_readMatch_23 (t_X12_placeOf_69 (llL G) (llFx G) (d + 8) u (u.2.1 69 24) 0 (u.1 69 9)) ym_X12_placeOf wd_1431 sh_69 rfl (Nat.le_of_ble_eq_true rfl) (fun r2 => ?_)
    refine J_istore_n [(1, .int r2), (0, .ref (llAd G 69))] dX12_readMatch_26 rfl (by decide) rfl ?_
    refine J_iload_n (j := 0) dX12_readMatch_27 rfl rfl ?_
    refine J_iconst (v := (-1)) dX12_readMatch_28 (by decide) ?_
    refine J_icmp_ne (tgt := 38) dX12_readMatch_29 (by decide) ?_ ?_
    · refine J_aload_n (j := 1) dX12_readMatch_38 rfl rfl ?_
      refine J_callVv0 dX12_readMatch_39 (t_X12_next_69 (llL G) (llFx G) (d + 7) u ) ym_X12_next wd_1324 sh_69 rfl (Nat.le_of_ble_eq_true rfl) (fun u3 => ?_)
      refine J_aload_n (j := 1) dX12_readMatch_42 rfl rfl ?_
      refine J_iconst (v := 0) dX12_readMatch_43 (by decide) ?_
      refine J_bipush (v := 99) dX12_readMatch_44 (by decide) ?_
      refine J_callVi2 dX12_readMatch_46 (t_X12_readNumber_69 (llL G) (llFx G) (d + 6) u3 0 99) ym_X12_readNumber wd_1408 sh_69 rfl (Nat.le_of_ble_eq_true rfl) (fun u4 r5 => ?_)
      refine J_if_ne (tgt := 54) dX12_readMatch_49 (by decide) ?_ ?_
      · refine J_aload_n (j := 1) dX12_readMatch_54 rfl rfl ?_
        refine J_getI dX12_readMatch_55 fl_X12_198 sh_69 rfl ?_
        refine J_istore_nL (fun v2_6 => [(2, .int v2_6), (1, .int r2), (0, .ref (llAd G 69))]) dX12_readMatch_58 rfl (by decide) (fun _ => rfl) (fun v2_6 => ?_)
        refine J_aload_n (j := 2) dX12_readMatch_59 rfl rfl ?_
        refine J_bipush (v := 45) dX12_readMatch_60 (by decide) ?_
        refine J_callVi1 dX12_readMatch_62 (t_X12_takesSign_69 (llL G) (llFx G) (d + 6) u4 45) ym_X12_takesSign wd_1442 sh_69 rfl (Nat.le_of_ble_eq_true rfl) (fun u7 r8 => ?_)
        refine J_if_eq (tgt := 78) dX12_readMatch_65 (by decide) ?_ ?_
        · refine J_iconst (v := 0) dX12_readMatch_78 (by decide) ?_
          exact J_zret dX12_readMatch_79 (fun h => h)
        · refine J_aload_n (j := 2) dX12_readMatch_68 rfl rfl ?_
          refine J_iconst (v := 0) dX12_readMatch_69 (by decide) ?_
          refine J_bipush (v := 99) dX12_readMatch_70 (by decide) ?_
          refine J_callVi2 dX12_readMatch_72 (t_X12_readNumber_69 (llL G) (llFx G) (d + 6) u7 0 99) ym_X12_readNumber wd_1408 sh_69 rfl (Nat.le_of_ble_eq_true rfl) (fun u9 r10 => ?_)
          refine J_if_ne (tgt := 80) dX12_readMatch_75 (by decide) ?_ ?_
          · refine J_aload_n (j := 2) dX12_readMatch_80 rfl rfl ?_
            refine J_getI dX12_readMatch_81 fl_X12_198 sh_69 rfl ?_
            refine J_istore_nL (fun v3_11 => [(3, .int v3_11), (2, .int v2_6), (1, .int r2), (0, .ref (llAd G 69))]) dX12_readMatch_84 rfl (by decide) (fun _ => rfl) (fun v3_11 => ?_)
            refine J_aload_n (j := 3) dX12_readMatch_85 rfl rfl ?_
            refine J_callVip0 dX12_readMatch_86 (t_X12_isName_69 (llL G) (llFx G) d u9 ) ym_X12_isName wd_1425 sh_69 rfl (Nat.le_of_ble_eq_true rfl) (fun r12 => ?_)
            refine J_if_ne (tgt := 98) dX12_readMatch_89 (by decide) ?_ ?_
            · refine J_aload_n (j := 3) dX12_readMatch_98 rfl rfl ?_
              refine J_aload_n (j := 3) dX12_readMatch_99 rfl rfl ?_
              refine J_getL dX12_readMatch_100 fl_X12_134 sh_69 rfl ?_
              refine J_iconst (v := 0) dX12_readMatch_103 (by decide) ?_
              refine J_aload_n (j := 3) dX12_readMatch_104 rfl rfl ?_
              refine J_getI dX12_readMatch_105 fl_X12_263 sh_69 rfl ?_
              refine J_callVip3 dX12_readMatch_108 (t_X12_placeOf_69 (llL G) (llFx G) (d + 8) u9 (u9.2.1 69 24) 0 (u9.1 69 9)) ym_X12_placeOf wd_1431 sh_69 rfl (Nat.le_of_ble_eq_true rfl) (fun r13 => ?_)
              refine J_istore [(4, .int r13), (3, .int v3_11), (2, .int v2_6), (1, .int r2), (0, .ref (llAd G 69))] dX12_readMatch_111 (by decide) rfl ?_
              refine J_iload (j := 0) dX12_readMatch_113 rfl ?_
              refine J_iconst (v := (-1)) dX12_readMatch_115 (by decide) ?_
              refine J_icmp_ne (tgt := 125) dX12_readMatch_116 (by decide) ?_ ?_
              · refine J_iload_n (j := 3) dX12_readMatch_125 rfl rfl ?_
                refine J_iload (j := 0) dX12_readMatch_126 rfl ?_
                refine J_icmp_eq (tgt := 164) dX12_readMatch_128 (by decide) ?_ ?_
                · refine J_sub [4, 3, 2, 1, 0] (lv' := [(0, .ref (llAd G 69)), (1, .int r2), (2, .int v2_6), (3, .int v3_11), (4, .int r13)]) rfl ?_
                  exact t_X12_readMatch_69_j164 u9 r2 v2_6 v3_11 r13
                · refine J_aload_n (j := 4) dX12_readMatch_131 rfl rfl ?_
                  refine J_iload_n (j := 3) dX12_readMatch_132 rfl rfl ?_
                  refine J_iload (j := 0) dX12_readMatch_133 rfl ?_
                  refine J_callVip2 dX12_readMatch_135 (t_X12_areTogether_69 (llL G) (llFx G) (d + 5) u9 r2 r13) ym_X12_areTogether wd_1463 sh_69 rfl (Nat.le_of_ble_eq_true rfl) (fun r25 => ?_)
                  refine J_if_eq (tgt := 164) dX12_readMatch_138 (by decide) ?_ ?_
                  · refine J_sub [4, 3, 2, 1, 0] (lv' := [(0, .ref (llAd G 69)), (1, .int r2), (2, .int v2_6), (3, .int v3_11), (4, .int r13)]) rfl ?_
                    exact t_X12_readMatch_69_j164 u9 r2 v2_6 v3_11 r13
                  · refine J_aload_n (j := 4) dX12_readMatch_141 rfl rfl ?_
                    refine J_getR (b := 77) dX12_readMatch_142 fl_X12_32 sh_69 rfl ?_
                    refine J_bipush (v := 120) dX12_readMatch_145 (by decide) ?_
                    refine J_bipush (v := 30) dX12_readMatch_147 (by decide) ?_
                    refine J_iload_n (j := 3) dX12_readMatch_149 rfl rfl ?_
                    refine J_imul dX12_readMatch_150 ?_
                    refine J_iadd dX12_readMatch_151 ?_
                    refine J_iload (j := 0) dX12_readMatch_152 rfl ?_
                    refine J_iadd dX12_readMatch_154 ?_
                    refine J_iald dX12_readMatch_155 sh_77 ?_
                    refine J_iconst (v := (-1)) dX12_readMatch_156 (by decide) ?_
                    refine J_icmp_ne (tgt := 164) dX12_readMatch_157 (by decide) ?_ ?_
                    · refine J_sub [4, 3, 2, 1, 0] (lv' := [(0, .ref (llAd G 69)), (1, .int r2), (2, .int v2_6), (3, .int v3_11), (4, .int r13)]) rfl ?_
                      exact t_X12_readMatch_69_j164 u9 r2 v2_6 v3_11 r13
                    · refine J_iconst (v := 1) dX12_readMatch_160 (by decide) ?_
                      refine J_goto (tgt := 165) dX12_readMatch_161 (by decide) ?_
                      refine J_sub [4, 3, 2, 1, 0] (lv' := [(0, .ref (llAd G 69)), (1, .int r2), (2, .int v2_6), (3, .int v3_11), (4, .int r13)]) rfl ?_
                      exact t_X12_readMatch_69_j165 u9 r2 v2_6 v3_11 r13 1
              · refine J_aload_n (j := 4) dX12_readMatch_119 rfl rfl ?_
                refine J_iconst (v := 2) dX12_readMatch_120 (by decide) ?_
                refine J_callVi1 dX12_readMatch_121 (t_X12_fails_69 (llL G) (llFx G) (d + 8) u9 2) ym_X12_fails wd_1400 sh_69 rfl (Nat.le_of_ble_eq_true rfl) (fun u26 r27 => ?_)
                exact J_zret dX12_readMatch_124 (fun h => h)
            · refine J_aload_n (j := 3) dX12_readMatch_92 rfl rfl ?_
              refine J_iconst (v := 1) dX12_readMatch_93 (by decide) ?_
              refine J_callVi1 dX12_readMatch_94 (t_X12_fails_69 (llL G) (llFx G) (d + 8) u9 1) ym_X12_fails wd_1400 sh_69 rfl (Nat.le_of_ble_eq_true rfl) (fun u28 r29 => ?_)
              exact J_zret dX12_readMatch_97 (fun h => h)
          · refine J_iconst (v := 0) dX12_readMatch_78 (by decide) ?_
            exact J_zret dX12_readMatch_79 (fun h => h)
      · refine J_iconst (v := 0) dX12_readMatch_52 (by decide) ?_
        exact J_zret dX12_readMatch_53 (fun h => h)
    · refine J_aload_n (j := 1) dX12_readMatch_32 rfl rfl ?_
      refine J_iconst (v := 2) dX12_readMatch_33 (by decide) ?_
      refine J_callVi1 dX12_readMatch_34 (t_X12_fails_69 (llL G) (llFx G) (d + 8) u 2) ym_X12_fails wd_1400 sh_69 rfl (Nat.le_of_ble_eq_true rfl) (fun u30 r31 => ?_)
      exact J_zret dX12_readMatch_37 (fun h => h)
  · refine J_aload_n (j := 0) dX12_readMatch_7 rfl rfl ?_
    refine J_iconst (v := 1) dX12_readMatch_8 (by decide) ?_
    refine J_callVi1 dX12_readMatch_9 (t_X12_fails_69 (llL G) (llFx G) (d + 8) u 1) ym_X12_fails wd_1400 sh_69 rfl (Nat.le_of_ble_eq_true rfl) (fun u32 r33 => ?_)
    exact J_zret dX12_readMatch_12 (fun h => h)
theorem t_X12_readMatch_69 (l : Launch) (F : llFix) (d : Nat) (u : llMem)  : llCt l F yX12_readMatch cX12_readMatch 7 (some .boolean) (d + 9) [.ref (F.2.2.1 69)] u llI (fx_X12_readMatch_69 u ) := llCt.of (by decide +kernel) (by exact Nat.le_of_ble_eq_true rfl) (fun G h1 h2 => by subst h1; subst h2; exact tj_X12_readMatch_69 u )
def fx_X12_day_69_j45_b22 (u : llMem) (t0 : Int32) : Option ((llMem × Int32) ⊕ (llMem)) := some (.inl (u, t0))
set_option maxRecDepth 20000 in
theorem t_X12_day_69_j45_b22 {G : llG} {d : Nat} (u : llMem) (t0 : Int32) : llJ G RX12 cX12_day 3 (some .int) (d + 10) (Sum.elim (fun s' => llJq G 3 22 [(0, .ref (llAd G 69)), (1, .int s'.2)] [] s'.1) (fun e => llJq G 3 49 [(0, .ref (llAd G 69))] [] e)) 45 [(0, .ref (llAd G 69))] [.int t0] u (fx_X12_day_69_j45_b22 u t0) := by
  unfold fx_X12_day_69_j45_b22
  refine J_istore_n [(1, .int t0), (0, .ref (llAd G 69))] dX12_day_45 rfl (by decide) rfl ?_
  refine J_goto (tgt := 22) dX12_day_46 (by decide) ?_
  exact J_cut [1, 0] (lv' := [(0, .ref (llAd G 69)), (1, .int t0)]) rfl (fun h => h)
def fx_X12_day_69_j44_b22 (u : llMem)  : Option ((llMem × Int32) ⊕ (llMem)) := fx_X12_day_69_j45_b22 u 0
set_option maxRecDepth 20000 in
theorem t_X12_day_69_j44_b22 {G : llG} {d : Nat} (u : llMem)  : llJ G RX12 cX12_day 3 (some .int) (d + 10) (Sum.elim (fun s' => llJq G 3 22 [(0, .ref (llAd G 69)), (1, .int s'.2)] [] s'.1) (fun e => llJq G 3 49 [(0, .ref (llAd G 69))] [] e)) 44 [(0, .ref (llAd G 69))] [] u (fx_X12_day_69_j44_b22 u ) := by
  unfold fx_X12_day_69_j44_b22
  refine J_iconst (v := 0) dX12_day_44 (by decide) ?_
  refine J_sub [0] (lv' := [(0, .ref (llAd G 69))]) rfl ?_
  exact t_X12_day_69_j45_b22 u 0
def fx_X12_day_69_l22  (s : llMem × Int32) : Option ((llMem × Int32) ⊕ (llMem)) := (if s.2 = 0 then some (.inr s.1) else bd (fx_X12_readMatch_69 s.1 ) (fun u3 r4 => (if r4 = 0 then fx_X12_day_69_j44_b22 u3  else (if (u3.1 69 21) = 0 then fx_X12_day_69_j44_b22 u3  else fx_X12_day_69_j45_b22 u3 1))))
set_option maxRecDepth 20000 in
theorem t_X12_day_69_l22 {G : llG} {d : Nat}  (s : llMem × Int32) : llJ G RX12 cX12_day 3 (some .int) (d + 10) (Sum.elim (fun s' => llJq G 3 22 [(0, .ref (llAd G 69)), (1, .int s'.2)] [] s'.1) (fun e => llJq G 3 49 [(0, .ref (llAd G 69))] [] e)) 22 [(0, .ref (llAd G 69)), (1, .int s.2)] [] s.1 (fx_X12_day_69_l22 s) := by
  unfold fx_X12_day_69_l22
  refine J_iload_n (j := 1) dX12_day_22 rfl rfl ?_
  refine J_if_eq (tgt := 49) dX12_day_23 (by decide) ?_ ?_
  · exact J_cut [0] (lv' := [(0, .ref (llAd G 69))]) rfl (fun h => h)
  · refine J_aload_n (j := 0) dX12_day_26 rfl rfl ?_
    refine J_callVi0 dX12_day_27 (t_X12_readMatch_69 (llL G) (llFx G) d s.1 ) ym_X12_readMatch wd_1459 sh_69 rfl (Nat.le_of_ble_eq_true rfl) (fun u3 r4 => ?_)
    refine J_if_eq (tgt := 44) dX12_day_30 (by decide) ?_ ?_
    · refine J_sub [0] (lv' := [(0, .ref (llAd G 69))]) rfl ?_
      exact t_X12_day_69_j44_b22 u3 
    · refine J_aload_n (j := 0) dX12_day_33 rfl rfl ?_
      refine J_getI dX12_day_34 fl_X12_144 sh_69 rfl ?_
      refine J_if_eq (tgt := 44) dX12_day_37 (by decide) ?_ ?_
      · refine J_sub [0] (lv' := [(0, .ref (llAd G 69))]) rfl ?_
        exact t_X12_day_69_j44_b22 u3 
      · refine J_iconst (v := 1) dX12_day_40 (by decide) ?_
        refine J_goto (tgt := 45) dX12_day_41 (by decide) ?_
        refine J_sub [0] (lv' := [(0, .ref (llAd G 69))]) rfl ?_
        exact t_X12_day_69_j45_b22 u3 1
def fx_X12_day_69_l71  (s : llMem × Int32) : Option ((llMem × Int32) ⊕ (llMem)) := (if (s.1.1 69 29) ≤ s.2 then some (.inr s.1) else gI (3 * s.2) 360 (gI ((3 * s.2) + 1) 360 (gI ((3 * s.2) + 2) 360 (gI ((120 + (30 * (rI s.1 80 (3 * s.2)))) + (rI s.1 80 ((3 * s.2) + 1))) 1020 (lt (llSI s.1 77 (Int32.toNatClampNeg ((120 + (30 * (rI s.1 80 (3 * s.2)))) + (rI s.1 80 ((3 * s.2) + 1)))) (rI s.1 80 ((3 * s.2) + 2))) (fun u8 => lt (s.2 + 1) (fun v2_9 => some (.inl (u8, v2_9)))))))))
set_option maxRecDepth 20000 in
theorem t_X12_day_69_l71 {G : llG} {d : Nat}  (s : llMem × Int32) : llJ G RX12 cX12_day 3 (some .int) (d + 10) (Sum.elim (fun s' => llJq G 3 71 [(0, .ref (llAd G 69)), (2, .int s'.2)] [] s'.1) (fun e => llJq G 3 125 [(0, .ref (llAd G 69))] [] e)) 71 [(0, .ref (llAd G 69)), (2, .int s.2)] [] s.1 (fx_X12_day_69_l71 s) := by
  unfold fx_X12_day_69_l71
  refine J_iload_n (j := 1) dX12_day_71 rfl rfl ?_
  refine J_aload_n (j := 0) dX12_day_72 rfl rfl ?_
  refine J_getI dX12_day_73 fl_X12_275 sh_69 rfl ?_
  refine J_icmp_ge (tgt := 125) dX12_day_76 (by decide) ?_ ?_
  · exact J_cut [0] (lv' := [(0, .ref (llAd G 69))]) rfl (fun h => h)
  · refine J_aload_n (j := 0) dX12_day_79 rfl rfl ?_
    refine J_getR (b := 77) dX12_day_80 fl_X12_32 sh_69 rfl ?_
    refine J_bipush (v := 120) dX12_day_83 (by decide) ?_
    refine J_bipush (v := 30) dX12_day_85 (by decide) ?_
    refine J_aload_n (j := 0) dX12_day_87 rfl rfl ?_
    refine J_getR (b := 80) dX12_day_88 fl_X12_45 sh_69 rfl ?_
    refine J_iconst (v := 3) dX12_day_91 (by decide) ?_
    refine J_iload_n (j := 1) dX12_day_92 rfl rfl ?_
    refine J_imul dX12_day_93 ?_
    refine J_iald dX12_day_94 sh_80 ?_
    refine J_imul dX12_day_95 ?_
    refine J_iadd dX12_day_96 ?_
    refine J_aload_n (j := 0) dX12_day_97 rfl rfl ?_
    refine J_getR (b := 80) dX12_day_98 fl_X12_45 sh_69 rfl ?_
    refine J_iconst (v := 3) dX12_day_101 (by decide) ?_
    refine J_iload_n (j := 1) dX12_day_102 rfl rfl ?_
    refine J_imul dX12_day_103 ?_
    refine J_iconst (v := 1) dX12_day_104 (by decide) ?_
    refine J_iadd dX12_day_105 ?_
    refine J_iald dX12_day_106 sh_80 ?_
    refine J_iadd dX12_day_107 ?_
    refine J_aload_n (j := 0) dX12_day_108 rfl rfl ?_
    refine J_getR (b := 80) dX12_day_109 fl_X12_45 sh_69 rfl ?_
    refine J_iconst (v := 3) dX12_day_112 (by decide) ?_
    refine J_iload_n (j := 1) dX12_day_113 rfl rfl ?_
    refine J_imul dX12_day_114 ?_
    refine J_iconst (v := 2) dX12_day_115 (by decide) ?_
    refine J_iadd dX12_day_116 ?_
    refine J_iald dX12_day_117 sh_80 ?_
    refine J_iast dX12_day_118 sh_77 (fun u8 => ?_)
    refine J_iinc (j := 1) (b := 1) (fun v2_9 => [(2, .int v2_9), (0, .ref (llAd G 69))]) dX12_day_119 rfl (by decide) (by decide) (fun _ => rfl) (fun v2_9 => ?_)
    refine J_goto (tgt := 71) dX12_day_122 (by decide) ?_
    exact J_cut [1, 0] (lv' := [(0, .ref (llAd G 69)), (2, .int v2_9)]) rfl (fun h => h)
def fx_X12_day_69_j69 (u : llMem)  : Option ((llMem × Int32)) := (loop (fx_X12_day_69_l71) llFuel (u, 0)).bind (fun e10 => some (e10, e10.1 69 29))
set_option maxRecDepth 20000 in
theorem t_X12_day_69_j69 {G : llG} {d : Nat} (u : llMem)  : llJ G RX12 cX12_day 3 (some .int) (d + 10) (fun r => llRet G (llI r.2) r.1) 69 [(0, .ref (llAd G 69))] [] u (fx_X12_day_69_j69 u ) := by
  unfold fx_X12_day_69_j69
  refine J_iconst (v := 0) dX12_day_69 (by decide) ?_
  refine J_istore_n [(2, .int 0), (0, .ref (llAd G 69))] dX12_day_70 rfl (by decide) rfl ?_
  refine J_loopE (fun s' => [(0, .ref (llAd G 69)), (2, .int s'.2)]) (fun s' => s'.1) 125 (fun e => [(0, .ref (llAd G 69))]) (fun e => e) (fun z => t_X12_day_69_l71 z) [1, 0] rfl rfl (fun e10 => ?_)
  refine J_aload_n (j := 0) dX12_day_125 rfl rfl ?_
  refine J_getI dX12_day_126 fl_X12_275 sh_69 rfl ?_
  exact J_iret dX12_day_129 (fun h => h)
def fx_X12_keeps_69_l52  (s : llMem × Int32) : Option ((llMem × Int32) ⊕ (llMem)) := (if 1020 ≤ s.2 then some (.inr s.1) else gI s.2 1020 (gI ((1020 * (s.1.1 69 14)) + s.2) 8160 (lt (llSI s.1 78 (Int32.toNatClampNeg ((1020 * (s.1.1 69 14)) + s.2)) (rI s.1 77 s.2)) (fun u1 => lt (s.2 + 1) (fun v1_2 => some (.inl (u1, v1_2)))))))
set_option maxRecDepth 20000 in
theorem t_X12_keeps_69_l52 {G : llG} {d : Nat}  (s : llMem × Int32) : llJ G RX12 cX12_keeps 2 none d (Sum.elim (fun s' => llJq G 2 52 [(0, .ref (llAd G 69)), (1, .int s'.2)] [] s'.1) (fun e => llJq G 2 86 [(0, .ref (llAd G 69))] [] e)) 52 [(0, .ref (llAd G 69)), (1, .int s.2)] [] s.1 (fx_X12_keeps_69_l52 s) := by
  unfold fx_X12_keeps_69_l52
  refine J_iload_n (j := 1) dX12_keeps_52 rfl rfl ?_
  refine J_sipush (v := 1020) dX12_keeps_53 (by decide) ?_
  refine J_icmp_ge (tgt := 86) dX12_keeps_56 (by decide) ?_ ?_
  · exact J_cut [0] (lv' := [(0, .ref (llAd G 69))]) rfl (fun h => h)
  · refine J_aload_n (j := 0) dX12_keeps_59 rfl rfl ?_
    refine J_getR (b := 78) dX12_keeps_60 fl_X12_35 sh_69 rfl ?_
    refine J_sipush (v := 1020) dX12_keeps_63 (by decide) ?_
    refine J_aload_n (j := 0) dX12_keeps_66 rfl rfl ?_
    refine J_getI dX12_keeps_67 fl_X12_110 sh_69 rfl ?_
    refine J_imul dX12_keeps_70 ?_
    refine J_iload_n (j := 1) dX12_keeps_71 rfl rfl ?_
    refine J_iadd dX12_keeps_72 ?_
    refine J_aload_n (j := 0) dX12_keeps_73 rfl rfl ?_
    refine J_getR (b := 77) dX12_keeps_74 fl_X12_32 sh_69 rfl ?_
    refine J_iload_n (j := 1) dX12_keeps_77 rfl rfl ?_
    refine J_iald dX12_keeps_78 sh_77 ?_
    refine J_iast dX12_keeps_79 sh_78 (fun u1 => ?_)
    refine J_iinc (j := 1) (b := 1) (fun v1_2 => [(1, .int v1_2), (0, .ref (llAd G 69))]) dX12_keeps_80 rfl (by decide) (by decide) (fun _ => rfl) (fun v1_2 => ?_)
    refine J_goto (tgt := 52) dX12_keeps_83 (by decide) ?_
    exact J_cut [1, 0] (lv' := [(0, .ref (llAd G 69)), (1, .int v1_2)]) rfl (fun h => h)
def fx_X12_keeps_69_j50 (u : llMem)  : Option ((llMem × Unit)) := (loop (fx_X12_keeps_69_l52) llFuel (u, 0)).bind (fun e3 => lt (llSI e3 69 14 ((e3.1 69 14) + 1)) (fun u4 => some (u4, ())))
set_option maxRecDepth 20000 in
theorem t_X12_keeps_69_j50 {G : llG} {d : Nat} (u : llMem)  : llJ G RX12 cX12_keeps 2 none d (fun r => llRet G (llVd r.2) r.1) 50 [(0, .ref (llAd G 69))] [] u (fx_X12_keeps_69_j50 u ) := by
  unfold fx_X12_keeps_69_j50
  refine J_iconst (v := 0) dX12_keeps_50 (by decide) ?_
  refine J_istore_n [(1, .int 0), (0, .ref (llAd G 69))] dX12_keeps_51 rfl (by decide) rfl ?_
  refine J_loopE (fun s' => [(0, .ref (llAd G 69)), (1, .int s'.2)]) (fun s' => s'.1) 86 (fun e => [(0, .ref (llAd G 69))]) (fun e => e) (fun z => t_X12_keeps_69_l52 z) [1, 0] rfl rfl (fun e3 => ?_)
  refine J_aload_n (j := 0) dX12_keeps_86 rfl rfl ?_
  refine J_dup dX12_keeps_87 rfl ?_
  refine J_getI dX12_keeps_88 fl_X12_110 sh_69 rfl ?_
  refine J_iconst (v := 1) dX12_keeps_91 (by decide) ?_
  refine J_iadd dX12_keeps_92 ?_
  refine J_putI dX12_keeps_93 fl_X12_110 sh_69 rfl (fun u4 => ?_)
  exact J_vret dX12_keeps_96 (fun h => h)
def fx_X12_keeps_69_l11  (s : llMem × Int32) : Option ((llMem × Int32) ⊕ (llMem)) := (if 7140 ≤ s.2 then some (.inr s.1) else gI (s.2 + 1020) 8160 (gI s.2 8160 (lt (llSI s.1 78 (Int32.toNatClampNeg s.2) (rI s.1 78 (s.2 + 1020))) (fun u5 => lt (s.2 + 1) (fun v1_6 => some (.inl (u5, v1_6)))))))
set_option maxRecDepth 20000 in
theorem t_X12_keeps_69_l11 {G : llG} {d : Nat}  (s : llMem × Int32) : llJ G RX12 cX12_keeps 2 none d (Sum.elim (fun s' => llJq G 2 11 [(0, .ref (llAd G 69)), (1, .int s'.2)] [] s'.1) (fun e => llJq G 2 40 [(0, .ref (llAd G 69))] [] e)) 11 [(0, .ref (llAd G 69)), (1, .int s.2)] [] s.1 (fx_X12_keeps_69_l11 s) := by
  unfold fx_X12_keeps_69_l11
  refine J_iload_n (j := 1) dX12_keeps_11 rfl rfl ?_
  refine J_sipush (v := 7140) dX12_keeps_12 (by decide) ?_
  refine J_icmp_ge (tgt := 40) dX12_keeps_15 (by decide) ?_ ?_
  · exact J_cut [0] (lv' := [(0, .ref (llAd G 69))]) rfl (fun h => h)
  · refine J_aload_n (j := 0) dX12_keeps_18 rfl rfl ?_
    refine J_getR (b := 78) dX12_keeps_19 fl_X12_35 sh_69 rfl ?_
    refine J_iload_n (j := 1) dX12_keeps_22 rfl rfl ?_
    refine J_aload_n (j := 0) dX12_keeps_23 rfl rfl ?_
    refine J_getR (b := 78) dX12_keeps_24 fl_X12_35 sh_69 rfl ?_
    refine J_iload_n (j := 1) dX12_keeps_27 rfl rfl ?_
    refine J_sipush (v := 1020) dX12_keeps_28 (by decide) ?_
    refine J_iadd dX12_keeps_31 ?_
    refine J_iald dX12_keeps_32 sh_78 ?_
    refine J_iast dX12_keeps_33 sh_78 (fun u5 => ?_)
    refine J_iinc (j := 1) (b := 1) (fun v1_6 => [(1, .int v1_6), (0, .ref (llAd G 69))]) dX12_keeps_34 rfl (by decide) (by decide) (fun _ => rfl) (fun v1_6 => ?_)
    refine J_goto (tgt := 11) dX12_keeps_37 (by decide) ?_
    exact J_cut [1, 0] (lv' := [(0, .ref (llAd G 69)), (1, .int v1_6)]) rfl (fun h => h)
def fx_X12_keeps_69 (u : llMem)  : Option (llMem × Unit) := (if ¬ (u.1 69 14) = 8 then fx_X12_keeps_69_j50 u  else (loop (fx_X12_keeps_69_l11) llFuel (u, 0)).bind (fun e7 => lt (llSI e7 69 14 ((e7.1 69 14) - 1)) (fun u8 => fx_X12_keeps_69_j50 u8 )))
set_option maxRecDepth 20000 in
theorem tj_X12_keeps_69 {G : llG} {d : Nat} (u : llMem)  : llJ G RX12 cX12_keeps 2 none d (fun r => llRet G (llVd r.2) r.1) 0 [(0, .ref (llAd G 69))] [] u (fx_X12_keeps_69 u ) := by
  unfold fx_X12_keeps_69
  refine J_aload_n (j := 0) dX12_keeps_0 rfl rfl ?_
  refine J_getI dX12_keeps_1 fl_X12_110 sh_69 rfl ?_
  refine J_bipush (v := 8) dX12_keeps_4 (by decide) ?_
  refine J_icmp_ne (tgt := 50) dX12_keeps_6 (by decide) ?_ ?_
  · refine J_sub [0] (lv' := [(0, .ref (llAd G 69))]) rfl ?_
    exact t_X12_keeps_69_j50 u 
  · refine J_iconst (v := 0) dX12_keeps_9 (by decide) ?_
    refine J_istore_n [(1, .int 0), (0, .ref (llAd G 69))] dX12_keeps_10 rfl (by decide) rfl ?_
    refine J_loopE (fun s' => [(0, .ref (llAd G 69)), (1, .int s'.2)]) (fun s' => s'.1) 40 (fun e => [(0, .ref (llAd G 69))]) (fun e => e) (fun z => t_X12_keeps_69_l11 z) [1, 0] rfl rfl (fun e7 => ?_)
    refine J_aload_n (j := 0) dX12_keeps_40 rfl rfl ?_
    refine J_dup dX12_keeps_41 rfl ?_
    refine J_getI dX12_keeps_42 fl_X12_110 sh_69 rfl ?_
    refine J_iconst (v := 1) dX12_keeps_45 (by decide) ?_
    refine J_isub dX12_keeps_46 ?_
    refine J_putI dX12_keeps_47 fl_X12_110 sh_69 rfl (fun u8 => ?_)
    refine J_sub [0] (lv' := [(0, .ref (llAd G 69))]) rfl ?_
    exact t_X12_keeps_69_j50 u8 
theorem t_X12_keeps_69 (l : Launch) (F : llFix) (d : Nat) (u : llMem)  : llCt l F yX12_keeps cX12_keeps 2 none d [.ref (F.2.2.1 69)] u llVd (fx_X12_keeps_69 u ) := llCt.of (by decide +kernel) (by exact Nat.le_of_ble_eq_true rfl) (fun G h1 h2 => by subst h1; subst h2; exact tj_X12_keeps_69 u )
def fx_X12_day_69_j21 (u : llMem) (t0 : Int32) : Option ((llMem × Int32)) := (loop (fx_X12_day_69_l22) llFuel (u, t0)).bind (fun e5 => bd (fx_X12_isRead_69 e5 ) (fun u6 r7 => (if ¬ r7 = 0 then (if (u6.1 69 29) ≤ 0 then fx_X12_day_69_j69 u6  else bd (fx_X12_keeps_69 u6 ) (fun u11 _ => fx_X12_day_69_j69 u11 )) else some (u6, (-1)))))
set_option maxRecDepth 20000 in
theorem t_X12_day_69_j21 {G : llG} {d : Nat} (u : llMem) (t0 : Int32) : llJ G RX12 cX12_day 3 (some .int) (d + 10) (fun r => llRet G (llI r.2) r.1) 21 [(0, .ref (llAd G 69))] [.int t0] u (fx_X12_day_69_j21 u t0) := by
  unfold fx_X12_day_69_j21
  refine J_istore_n [(1, .int t0), (0, .ref (llAd G 69))] dX12_day_21 rfl (by decide) rfl ?_
  refine J_loopE (fun s' => [(0, .ref (llAd G 69)), (1, .int s'.2)]) (fun s' => s'.1) 49 (fun e => [(0, .ref (llAd G 69))]) (fun e => e) (fun z => t_X12_day_69_l22 z) [1, 0] rfl rfl (fun e5 => ?_)
  refine J_aload_n (j := 0) dX12_day_49 rfl rfl ?_
  refine J_callVi0 dX12_day_50 (t_X12_isRead_69 (llL G) (llFx G) (d + 9) e5 ) ym_X12_isRead wd_1446 sh_69 rfl (Nat.le_of_ble_eq_true rfl) (fun u6 r7 => ?_)
  refine J_if_ne (tgt := 58) dX12_day_53 (by decide) ?_ ?_
  · refine J_aload_n (j := 0) dX12_day_58 rfl rfl ?_
    refine J_getI dX12_day_59 fl_X12_275 sh_69 rfl ?_
    refine J_if_le (tgt := 69) dX12_day_62 (by decide) ?_ ?_
    · refine J_sub [0] (lv' := [(0, .ref (llAd G 69))]) rfl ?_
      exact t_X12_day_69_j69 u6 
    · refine J_aload_n (j := 0) dX12_day_65 rfl rfl ?_
      refine J_callVv0 dX12_day_66 (t_X12_keeps_69 (llL G) (llFx G) (d + 9) u6 ) ym_X12_keeps wd_1475 sh_69 rfl (Nat.le_of_ble_eq_true rfl) (fun u11 => ?_)
      refine J_sub [0] (lv' := [(0, .ref (llAd G 69))]) rfl ?_
      exact t_X12_day_69_j69 u11 
  · refine J_iconst (v := (-1)) dX12_day_56 (by decide) ?_
    exact J_iret dX12_day_57 (fun h => h)
def fx_X12_day_69 (u : llMem)  : Option (llMem × Int32) := lt (llSI u 69 29 0) (fun u1 => bd (fx_X12_begins_69 u1 ) (fun u2 _ => (if (u2.1 69 21) = 0 then fx_X12_day_69_j21 u2 0 else fx_X12_day_69_j21 u2 1)))
set_option maxRecDepth 20000 in
theorem tj_X12_day_69 {G : llG} {d : Nat} (u : llMem)  : llJ G RX12 cX12_day 3 (some .int) (d + 10) (fun r => llRet G (llI r.2) r.1) 0 [(0, .ref (llAd G 69))] [] u (fx_X12_day_69 u ) := by
  unfold fx_X12_day_69
  refine J_aload_n (j := 0) dX12_day_0 rfl rfl ?_
  refine J_iconst (v := 0) dX12_day_1 (by decide) ?_
  refine J_putI dX12_day_2 fl_X12_275 sh_69 rfl (fun u1 => ?_)
  refine J_aload_n (j := 0) dX12_day_5 rfl rfl ?_
  refine J_callVv0 dX12_day_6 (t_X12_begins_69 (llL G) (llFx G) (d + 7) u1 ) ym_X12_begins wd_1320 sh_69 rfl (Nat.le_of_ble_eq_true rfl) (fun u2 => ?_)
  refine J_aload_n (j := 0) dX12_day_9 rfl rfl ?_
  refine J_getI dX12_day_10 fl_X12_144 sh_69 rfl ?_
  refine J_if_eq (tgt := 20) dX12_day_13 (by decide) ?_ ?_
  · refine J_iconst (v := 0) dX12_day_20 (by decide) ?_
    refine J_sub [0] (lv' := [(0, .ref (llAd G 69))]) rfl ?_
    exact t_X12_day_69_j21 u2 0
  · refine J_iconst (v := 1) dX12_day_16 (by decide) ?_
    refine J_goto (tgt := 21) dX12_day_17 (by decide) ?_
    refine J_sub [0] (lv' := [(0, .ref (llAd G 69))]) rfl ?_
    exact t_X12_day_69_j21 u2 1
theorem t_X12_day_69 (l : Launch) (F : llFix) (d : Nat) (u : llMem)  : llCt l F yX12_day cX12_day 3 (some .int) (d + 10) [.ref (F.2.2.1 69)] u llI (fx_X12_day_69 u ) := llCt.of (by decide +kernel) (by exact Nat.le_of_ble_eq_true rfl) (fun G h1 h2 => by subst h1; subst h2; exact tj_X12_day_69 u )
def fx_X11_fault_0 (u : llMem) (a0 : Int32) : Option Int32 := (if a0 = 0 then some (u.1 1 7) else if a0 = 1 then some (u.1 1 8) else some ((-1)))
set_option maxRecDepth 20000 in
theorem tj_X11_fault_0 {G : llG} {d : Nat} (u : llMem) (a0 : Int32) : llJ G RX11 cX11_fault 2 (some .int) d (fun r => llRet G (llI r) u) 0 [(0, .ref (llAd G 0)), (1, .int a0)] [] u (fx_X11_fault_0 u a0) := by
  unfold fx_X11_fault_0
  refine J_iload_n (j := 1) dX11_fault_0 rfl rfl ?_
  refine J_case (fun hq0 => ?_) (fun hn0 => ?_)
  · refine J_lookup (off := 27) (tgt := 28) dX11_fault_1 (by decide) (by rw [hq0]; decide) (by decide) ?_
    refine J_aload_n (j := 0) dX11_fault_28 rfl rfl ?_
    refine J_getR (b := 1) dX11_fault_29 fl_X11_10 sh_0 rfl ?_
    refine J_getI dX11_fault_32 fl_X11_136 sh_1 rfl ?_
    exact J_iret dX11_fault_35 (fun h => h)
  refine J_case (fun hq1 => ?_) (fun hn1 => ?_)
  · refine J_lookup (off := 35) (tgt := 36) dX11_fault_1 (by decide) (by rw [hq1]; decide) (by decide) ?_
    refine J_aload_n (j := 0) dX11_fault_36 rfl rfl ?_
    refine J_getR (b := 1) dX11_fault_37 fl_X11_10 sh_0 rfl ?_
    refine J_getI dX11_fault_40 fl_X11_139 sh_1 rfl ?_
    exact J_iret dX11_fault_43 (fun h => h)
  refine J_lookup (off := 43) (tgt := 44) dX11_fault_1 (by decide) (llLook2 hn0 hn1) (by decide) ?_
  refine J_iconst (v := (-1)) dX11_fault_44 (by decide) ?_
  exact J_iret dX11_fault_45 (fun h => h)
theorem t_X11_fault_0 (l : Launch) (F : llFix) (d : Nat) (u : llMem) (a0 : Int32) : llCp l F yX11_fault cX11_fault 2 (some .int) d [.ref (F.2.2.1 0), .int a0] u llI (fx_X11_fault_0 u a0) := llCp.of (by decide +kernel) (by exact Nat.le_of_ble_eq_true rfl) (fun G h1 h2 => by subst h1; subst h2; exact tj_X11_fault_0 u a0)
def fx_X12_fault_69 (u : llMem) (a0 : Int32) : Option Int32 := (if ¬ a0 = 0 then (if ¬ a0 = 1 then some ((-1)) else some (u.1 69 18)) else some (u.1 69 17))
set_option maxRecDepth 20000 in
theorem tj_X12_fault_69 {G : llG} {d : Nat} (u : llMem) (a0 : Int32) : llJ G RX12 cX12_fault 2 (some .int) d (fun r => llRet G (llI r) u) 0 [(0, .ref (llAd G 69)), (1, .int a0)] [] u (fx_X12_fault_69 u a0) := by
  unfold fx_X12_fault_69
  refine J_iload_n (j := 1) dX12_fault_0 rfl rfl ?_
  refine J_if_ne (tgt := 11) dX12_fault_1 (by decide) ?_ ?_
  · refine J_iload_n (j := 1) dX12_fault_11 rfl rfl ?_
    refine J_iconst (v := 1) dX12_fault_12 (by decide) ?_
    refine J_icmp_ne (tgt := 23) dX12_fault_13 (by decide) ?_ ?_
    · refine J_iconst (v := (-1)) dX12_fault_23 (by decide) ?_
      exact J_iret dX12_fault_24 (fun h => h)
    · refine J_aload_n (j := 0) dX12_fault_16 rfl rfl ?_
      refine J_getI dX12_fault_17 fl_X12_41 sh_69 rfl ?_
      refine J_goto (tgt := 24) dX12_fault_20 (by decide) ?_
      exact J_iret dX12_fault_24 (fun h => h)
  · refine J_aload_n (j := 0) dX12_fault_4 rfl rfl ?_
    refine J_getI dX12_fault_5 fl_X12_248 sh_69 rfl ?_
    refine J_goto (tgt := 24) dX12_fault_8 (by decide) ?_
    exact J_iret dX12_fault_24 (fun h => h)
theorem t_X12_fault_69 (l : Launch) (F : llFix) (d : Nat) (u : llMem) (a0 : Int32) : llCp l F yX12_fault cX12_fault 2 (some .int) d [.ref (F.2.2.1 69), .int a0] u llI (fx_X12_fault_69 u a0) := llCp.of (by decide +kernel) (by exact Nat.le_of_ble_eq_true rfl) (fun G h1 h2 => by subst h1; subst h2; exact tj_X12_fault_69 u a0)
def fx_X9_rewind_1 (u : llMem)  : Option (llMem × Unit) := lt (llSI u 1 9 0) (fun u1 => some (u1, ()))
set_option maxRecDepth 20000 in
theorem tj_X9_rewind_1 {G : llG} {d : Nat} (u : llMem)  : llJ G RX9 cX9_rewind 1 none d (fun r => llRet G (llVd r.2) r.1) 0 [(0, .ref (llAd G 1))] [] u (fx_X9_rewind_1 u ) := by
  unfold fx_X9_rewind_1
  refine J_aload_n (j := 0) dX9_rewind_0 rfl rfl ?_
  refine J_iconst (v := 0) dX9_rewind_1 (by decide) ?_
  refine J_putI dX9_rewind_2 fl_X9_22 sh_1 rfl (fun u1 => ?_)
  exact J_vret dX9_rewind_5 (fun h => h)
theorem t_X9_rewind_1 (l : Launch) (F : llFix) (d : Nat) (u : llMem)  : llCt l F yX9_rewind cX9_rewind 1 none d [.ref (F.2.2.1 1)] u llVd (fx_X9_rewind_1 u ) := llCt.of (by decide +kernel) (by exact Nat.le_of_ble_eq_true rfl) (fun G h1 h2 => by subst h1; subst h2; exact tj_X9_rewind_1 u )
def fx_X11_named_0_j65 (u : llMem) (v2 : Int64) (t0 : Int32) : Option ((llMem × Int32)) := lt (llSI u 1 1 0) (fun u5 => (if t0 = 0 then some (u5, (-1)) else (fx_X5_find_3 u5 v2).bind (fun r6 => some (u5, r6))))
set_option maxRecDepth 20000 in
theorem t_X11_named_0_j65 {G : llG} {d : Nat} (u : llMem) (v2 : Int64) (t0 : Int32) : llJ G RX11 cX11_named 5 (some .int) (d + 2) (fun r => llRet G (llI r.2) r.1) 65 [(0, .ref (llAd G 0)), (2, .long v2)] [.int t0] u (fx_X11_named_0_j65 u v2 t0) := by
  unfold fx_X11_named_0_j65
  refine J_istore [(4, .int t0), (0, .ref (llAd G 0)), (2, .long v2)] dX11_named_65 (by decide) rfl ?_
  refine J_aload_n (j := 1) dX11_named_67 rfl rfl ?_
  refine J_getR (b := 1) dX11_named_68 fl_X11_10 sh_0 rfl ?_
  refine J_iconst (v := 0) dX11_named_71 (by decide) ?_
  refine J_putI dX11_named_72 fl_X11_91 sh_1 rfl (fun u5 => ?_)
  refine J_iload (j := 0) dX11_named_75 rfl ?_
  refine J_if_eq (tgt := 91) dX11_named_77 (by decide) ?_ ?_
  · refine J_iconst (v := (-1)) dX11_named_91 (by decide) ?_
    exact J_iret dX11_named_92 (fun h => h)
  · refine J_aload_n (j := 1) dX11_named_80 rfl rfl ?_
    refine J_getR (b := 3) dX11_named_81 fl_X11_19 sh_0 rfl ?_
    refine J_lload_n (j := 2) dX11_named_84 rfl rfl ?_
    refine J_callVip1 dX11_named_85 (t_X5_find_3 (llL G) (llFx G) (d + 1) u5 v2) ym_X5_find wd_720 sh_3 rfl (Nat.le_of_ble_eq_true rfl) (fun r6 => ?_)
    refine J_goto (tgt := 92) dX11_named_88 (by decide) ?_
    exact J_iret dX11_named_92 (fun h => h)
def fx_X11_named_0_j64 (u : llMem) (v2 : Int64) : Option ((llMem × Int32)) := fx_X11_named_0_j65 u v2 0
set_option maxRecDepth 20000 in
theorem t_X11_named_0_j64 {G : llG} {d : Nat} (u : llMem) (v2 : Int64) : llJ G RX11 cX11_named 5 (some .int) (d + 2) (fun r => llRet G (llI r.2) r.1) 64 [(0, .ref (llAd G 0)), (2, .long v2)] [] u (fx_X11_named_0_j64 u v2) := by
  unfold fx_X11_named_0_j64
  refine J_iconst (v := 0) dX11_named_64 (by decide) ?_
  refine J_sub [0, 1] (lv' := [(0, .ref (llAd G 0)), (2, .long v2)]) rfl ?_
  exact t_X11_named_0_j65 u v2 0
def fx_X11_named_0_j30 (u : llMem) (t0 : Int32) : Option ((llMem × Int32)) := lt (u.2.1 1 6) (fun v2_3 => bd (fx_X9_next_1 u ) (fun u4 _ => (if t0 = 0 then fx_X11_named_0_j64 u4 v2_3 else (if ¬ (u4.1 1 2) = 0 then fx_X11_named_0_j64 u4 v2_3 else fx_X11_named_0_j65 u4 v2_3 1))))
set_option maxRecDepth 20000 in
theorem t_X11_named_0_j30 {G : llG} {d : Nat} (u : llMem) (t0 : Int32) : llJ G RX11 cX11_named 5 (some .int) (d + 2) (fun r => llRet G (llI r.2) r.1) 30 [(0, .ref (llAd G 0))] [.int t0] u (fx_X11_named_0_j30 u t0) := by
  unfold fx_X11_named_0_j30
  refine J_istore_n [(1, .int t0), (0, .ref (llAd G 0))] dX11_named_30 rfl (by decide) rfl ?_
  refine J_aload_n (j := 1) dX11_named_31 rfl rfl ?_
  refine J_getR (b := 1) dX11_named_32 fl_X11_10 sh_0 rfl ?_
  refine J_getL dX11_named_35 fl_X11_151 sh_1 rfl ?_
  refine J_lstore_nL (fun v2_3 => [(2, .long v2_3), (1, .int t0), (0, .ref (llAd G 0))]) dX11_named_38 rfl (by decide) (fun _ => rfl) (fun v2_3 => ?_)
  refine J_aload_n (j := 2) dX11_named_39 rfl rfl ?_
  refine J_getR (b := 1) dX11_named_40 fl_X11_10 sh_0 rfl ?_
  refine J_callVv0 dX11_named_43 (t_X9_next_1 (llL G) (llFx G) d u ) ym_X9_next wd_719 sh_1 rfl (Nat.le_of_ble_eq_true rfl) (fun u4 => ?_)
  refine J_iload_n (j := 1) dX11_named_46 rfl rfl ?_
  refine J_if_eq (tgt := 64) dX11_named_47 (by decide) ?_ ?_
  · refine J_sub [2, 0] (lv' := [(0, .ref (llAd G 0)), (2, .long v2_3)]) rfl ?_
    exact t_X11_named_0_j64 u4 v2_3
  · refine J_aload_n (j := 2) dX11_named_50 rfl rfl ?_
    refine J_getR (b := 1) dX11_named_51 fl_X11_10 sh_0 rfl ?_
    refine J_getI dX11_named_54 fl_X11_148 sh_1 rfl ?_
    refine J_if_ne (tgt := 64) dX11_named_57 (by decide) ?_ ?_
    · refine J_sub [2, 0] (lv' := [(0, .ref (llAd G 0)), (2, .long v2_3)]) rfl ?_
      exact t_X11_named_0_j64 u4 v2_3
    · refine J_iconst (v := 1) dX11_named_60 (by decide) ?_
      refine J_goto (tgt := 65) dX11_named_61 (by decide) ?_
      refine J_sub [2, 0] (lv' := [(0, .ref (llAd G 0)), (2, .long v2_3)]) rfl ?_
      exact t_X11_named_0_j65 u4 v2_3 1
def fx_X11_named_0 (u : llMem)  : Option (llMem × Int32) := bd (fx_X9_rewind_1 u ) (fun u1 _ => bd (fx_X9_next_1 u1 ) (fun u2 _ => (if ¬ (u2.1 1 2) = 1 then fx_X11_named_0_j30 u2 0 else fx_X11_named_0_j30 u2 1)))
set_option maxRecDepth 20000 in
theorem tj_X11_named_0 {G : llG} {d : Nat} (u : llMem)  : llJ G RX11 cX11_named 5 (some .int) (d + 2) (fun r => llRet G (llI r.2) r.1) 0 [(0, .ref (llAd G 0))] [] u (fx_X11_named_0 u ) := by
  unfold fx_X11_named_0
  refine J_aload_n (j := 0) dX11_named_0 rfl rfl ?_
  refine J_getR (b := 1) dX11_named_1 fl_X11_10 sh_0 rfl ?_
  refine J_callVv0 dX11_named_4 (t_X9_rewind_1 (llL G) (llFx G) (d + 1) u ) ym_X9_rewind wd_715 sh_1 rfl (Nat.le_of_ble_eq_true rfl) (fun u1 => ?_)
  refine J_aload_n (j := 0) dX11_named_7 rfl rfl ?_
  refine J_getR (b := 1) dX11_named_8 fl_X11_10 sh_0 rfl ?_
  refine J_callVv0 dX11_named_11 (t_X9_next_1 (llL G) (llFx G) d u1 ) ym_X9_next wd_719 sh_1 rfl (Nat.le_of_ble_eq_true rfl) (fun u2 => ?_)
  refine J_aload_n (j := 0) dX11_named_14 rfl rfl ?_
  refine J_getR (b := 1) dX11_named_15 fl_X11_10 sh_0 rfl ?_
  refine J_getI dX11_named_18 fl_X11_148 sh_1 rfl ?_
  refine J_iconst (v := 1) dX11_named_21 (by decide) ?_
  refine J_icmp_ne (tgt := 29) dX11_named_22 (by decide) ?_ ?_
  · refine J_iconst (v := 0) dX11_named_29 (by decide) ?_
    refine J_sub [0] (lv' := [(0, .ref (llAd G 0))]) rfl ?_
    exact t_X11_named_0_j30 u2 0
  · refine J_iconst (v := 1) dX11_named_25 (by decide) ?_
    refine J_goto (tgt := 30) dX11_named_26 (by decide) ?_
    refine J_sub [0] (lv' := [(0, .ref (llAd G 0))]) rfl ?_
    exact t_X11_named_0_j30 u2 1
theorem t_X11_named_0 (l : Launch) (F : llFix) (d : Nat) (u : llMem)  : llCt l F yX11_named cX11_named 5 (some .int) (d + 2) [.ref (F.2.2.1 0)] u llI (fx_X11_named_0 u ) := llCt.of (by decide +kernel) (by exact Nat.le_of_ble_eq_true rfl) (fun G h1 h2 => by subst h1; subst h2; exact tj_X11_named_0 u )
def fx_X12_named_69_j45 (u : llMem) (v1 : Int32) (t0 : Int32) : Option ((llMem × Int32)) := lt (llSI u 69 16 0) (fun u4 => (if t0 = 0 then some (u4, (-1)) else some (u4, v1)))
set_option maxRecDepth 20000 in
theorem t_X12_named_69_j45 {G : llG} {d : Nat} (u : llMem) (v1 : Int32) (t0 : Int32) : llJ G RX12 cX12_named 3 (some .int) (d + 9) (fun r => llRet G (llI r.2) r.1) 45 [(0, .ref (llAd G 69)), (1, .int v1)] [.int t0] u (fx_X12_named_69_j45 u v1 t0) := by
  unfold fx_X12_named_69_j45
  refine J_istore_n [(2, .int t0), (0, .ref (llAd G 69)), (1, .int v1)] dX12_named_45 rfl (by decide) rfl ?_
  refine J_aload_n (j := 1) dX12_named_46 rfl rfl ?_
  refine J_iconst (v := 0) dX12_named_47 (by decide) ?_
  refine J_putI dX12_named_48 fl_X12_113 sh_69 rfl (fun u4 => ?_)
  refine J_iload_n (j := 0) dX12_named_51 rfl rfl ?_
  refine J_if_eq (tgt := 59) dX12_named_52 (by decide) ?_ ?_
  · refine J_iconst (v := (-1)) dX12_named_59 (by decide) ?_
    exact J_iret dX12_named_60 (fun h => h)
  · refine J_iload_n (j := 2) dX12_named_55 rfl rfl ?_
    refine J_goto (tgt := 60) dX12_named_56 (by decide) ?_
    exact J_iret dX12_named_60 (fun h => h)
def fx_X12_named_69_j28 (u : llMem) (t0 : Int32) : Option ((llMem × Int32)) := bd (fx_X12_next_69 u ) (fun u3 _ => (if ¬ (u3.1 69 21) = 0 then fx_X12_named_69_j45 u3 t0 0 else fx_X12_named_69_j45 u3 t0 1))
set_option maxRecDepth 20000 in
theorem t_X12_named_69_j28 {G : llG} {d : Nat} (u : llMem) (t0 : Int32) : llJ G RX12 cX12_named 3 (some .int) (d + 9) (fun r => llRet G (llI r.2) r.1) 28 [(0, .ref (llAd G 69))] [.int t0] u (fx_X12_named_69_j28 u t0) := by
  unfold fx_X12_named_69_j28
  refine J_istore_n [(1, .int t0), (0, .ref (llAd G 69))] dX12_named_28 rfl (by decide) rfl ?_
  refine J_aload_n (j := 1) dX12_named_29 rfl rfl ?_
  refine J_callVv0 dX12_named_30 (t_X12_next_69 (llL G) (llFx G) (d + 7) u ) ym_X12_next wd_1324 sh_69 rfl (Nat.le_of_ble_eq_true rfl) (fun u3 => ?_)
  refine J_aload_n (j := 1) dX12_named_33 rfl rfl ?_
  refine J_getI dX12_named_34 fl_X12_144 sh_69 rfl ?_
  refine J_if_ne (tgt := 44) dX12_named_37 (by decide) ?_ ?_
  · refine J_iconst (v := 0) dX12_named_44 (by decide) ?_
    refine J_sub [1, 0] (lv' := [(0, .ref (llAd G 69)), (1, .int t0)]) rfl ?_
    exact t_X12_named_69_j45 u3 t0 0
  · refine J_iconst (v := 1) dX12_named_40 (by decide) ?_
    refine J_goto (tgt := 45) dX12_named_41 (by decide) ?_
    refine J_sub [1, 0] (lv' := [(0, .ref (llAd G 69)), (1, .int t0)]) rfl ?_
    exact t_X12_named_69_j45 u3 t0 1
def fx_X12_named_69 (u : llMem)  : Option (llMem × Int32) := bd (fx_X12_begins_69 u ) (fun u1 _ => (fx_X12_isName_69 u1 ).bind (fun r2 => (if r2 = 0 then fx_X12_named_69_j28 u1 ((-1)) else (fx_X12_placeOf_69 u1 (u1.2.1 69 24) 0 (u1.1 69 9)).bind (fun r5 => fx_X12_named_69_j28 u1 r5))))
set_option maxRecDepth 20000 in
theorem tj_X12_named_69 {G : llG} {d : Nat} (u : llMem)  : llJ G RX12 cX12_named 3 (some .int) (d + 9) (fun r => llRet G (llI r.2) r.1) 0 [(0, .ref (llAd G 69))] [] u (fx_X12_named_69 u ) := by
  unfold fx_X12_named_69
  refine J_aload_n (j := 0) dX12_named_0 rfl rfl ?_
  refine J_callVv0 dX12_named_1 (t_X12_begins_69 (llL G) (llFx G) (d + 6) u ) ym_X12_begins wd_1320 sh_69 rfl (Nat.le_of_ble_eq_true rfl) (fun u1 => ?_)
  refine J_aload_n (j := 0) dX12_named_4 rfl rfl ?_
  refine J_callVip0 dX12_named_5 (t_X12_isName_69 (llL G) (llFx G) d u1 ) ym_X12_isName wd_1425 sh_69 rfl (Nat.le_of_ble_eq_true rfl) (fun r2 => ?_)
  refine J_if_eq (tgt := 27) dX12_named_8 (by decide) ?_ ?_
  · refine J_iconst (v := (-1)) dX12_named_27 (by decide) ?_
    refine J_sub [0] (lv' := [(0, .ref (llAd G 69))]) rfl ?_
    exact t_X12_named_69_j28 u1 ((-1))
  · refine J_aload_n (j := 0) dX12_named_11 rfl rfl ?_
    refine J_aload_n (j := 0) dX12_named_12 rfl rfl ?_
    refine J_getL dX12_named_13 fl_X12_134 sh_69 rfl ?_
    refine J_iconst (v := 0) dX12_named_16 (by decide) ?_
    refine J_aload_n (j := 0) dX12_named_17 rfl rfl ?_
    refine J_getI dX12_named_18 fl_X12_263 sh_69 rfl ?_
    refine J_callVip3 dX12_named_21 (t_X12_placeOf_69 (llL G) (llFx G) (d + 8) u1 (u1.2.1 69 24) 0 (u1.1 69 9)) ym_X12_placeOf wd_1431 sh_69 rfl (Nat.le_of_ble_eq_true rfl) (fun r5 => ?_)
    refine J_goto (tgt := 28) dX12_named_24 (by decide) ?_
    refine J_sub [0] (lv' := [(0, .ref (llAd G 69))]) rfl ?_
    exact t_X12_named_69_j28 u1 r5
theorem t_X12_named_69 (l : Launch) (F : llFix) (d : Nat) (u : llMem)  : llCt l F yX12_named cX12_named 3 (some .int) (d + 9) [.ref (F.2.2.1 69)] u llI (fx_X12_named_69 u ) := llCt.of (by decide +kernel) (by exact Nat.le_of_ble_eq_true rfl) (fun G h1 h2 => by subst h1; subst h2; exact tj_X12_named_69 u )
def fx_X11_resign_0 (u : llMem) (a0 : Int32) : Option (llMem × Int32) := (fx_X5_plays_3 u a0).bind (fun r1 => (if r1 = 0 then gB 0 (some (u, 0)) else gI a0 30 ((if (rI u 18 a0) = 0 then gI a0 30 (lt (llSI u 18 (Int32.toNatClampNeg a0) 1) (fun u2 => bd (fx_X2_keep_26 u2 1 a0 0) (fun u3 _ => gB 1 (some (u3, 1))))) else gB 0 (some (u, 0))))))
set_option maxRecDepth 20000 in
theorem tj_X11_resign_0 {G : llG} {d : Nat} (u : llMem) (a0 : Int32) : llJ G RX11 cX11_resign 2 (some .boolean) (d + 2) (fun r => llRet G (llI r.2) r.1) 0 [(0, .ref (llAd G 0)), (1, .int a0)] [] u (fx_X11_resign_0 u a0) := by
  unfold fx_X11_resign_0
  refine J_aload_n (j := 0) dX11_resign_0 rfl rfl ?_
  refine J_getR (b := 3) dX11_resign_1 fl_X11_19 sh_0 rfl ?_
  refine J_iload_n (j := 1) dX11_resign_4 rfl rfl ?_
  refine J_callVip1 dX11_resign_5 (t_X5_plays_3 (llL G) (llFx G) d u a0) ym_X5_plays wd_725 sh_3 rfl (Nat.le_of_ble_eq_true rfl) (fun r1 => ?_)
  refine J_if_eq (tgt := 23) dX11_resign_8 (by decide) ?_ ?_
  · refine J_iconst (v := 0) dX11_resign_23 (by decide) ?_
    exact J_zret dX11_resign_24 (fun h => h)
  · refine J_aload_n (j := 0) dX11_resign_11 rfl rfl ?_
    refine J_getR (b := 14) dX11_resign_12 fl_X11_26 sh_0 rfl ?_
    refine J_getR (b := 18) dX11_resign_15 fl_X11_163 sh_14 rfl ?_
    refine J_iload_n (j := 1) dX11_resign_18 rfl rfl ?_
    refine J_iald dX11_resign_19 sh_18 ?_
    refine J_if_eq (tgt := 25) dX11_resign_20 (by decide) ?_ ?_
    · refine J_aload_n (j := 0) dX11_resign_25 rfl rfl ?_
      refine J_getR (b := 14) dX11_resign_26 fl_X11_26 sh_0 rfl ?_
      refine J_getR (b := 18) dX11_resign_29 fl_X11_163 sh_14 rfl ?_
      refine J_iload_n (j := 1) dX11_resign_32 rfl rfl ?_
      refine J_iconst (v := 1) dX11_resign_33 (by decide) ?_
      refine J_iast dX11_resign_34 sh_18 (fun u2 => ?_)
      refine J_aload_n (j := 0) dX11_resign_35 rfl rfl ?_
      refine J_getR (b := 26) dX11_resign_36 fl_X11_35 sh_0 rfl ?_
      refine J_iconst (v := 1) dX11_resign_39 (by decide) ?_
      refine J_iload_n (j := 1) dX11_resign_40 rfl rfl ?_
      refine J_iconst (v := 0) dX11_resign_41 (by decide) ?_
      refine J_callVv3 dX11_resign_42 (t_X2_keep_26 (llL G) (llFx G) (d + 1) u2 1 a0 0) ym_X2_keep wd_702 sh_26 rfl (Nat.le_of_ble_eq_true rfl) (fun u3 => ?_)
      refine J_iconst (v := 1) dX11_resign_45 (by decide) ?_
      exact J_zret dX11_resign_46 (fun h => h)
    · refine J_iconst (v := 0) dX11_resign_23 (by decide) ?_
      exact J_zret dX11_resign_24 (fun h => h)
theorem t_X11_resign_0 (l : Launch) (F : llFix) (d : Nat) (u : llMem) (a0 : Int32) : llCt l F yX11_resign cX11_resign 2 (some .boolean) (d + 2) [.ref (F.2.2.1 0), .int a0] u llI (fx_X11_resign_0 u a0) := llCt.of (by decide +kernel) (by exact Nat.le_of_ble_eq_true rfl) (fun G h1 h2 => by subst h1; subst h2; exact tj_X11_resign_0 u a0)
def fx_X12_resign_69 (u : llMem) (a0 : Int32) : Option (llMem × Int32) := (fx_X12_plays_69 u a0).bind (fun r1 => (if r1 = 0 then gB 0 (some (u, 0)) else gI (30 + a0) 1020 ((if ¬ (rI u 77 (30 + a0)) = 1 then bd (fx_X12_keeps_69 u ) (fun u2 _ => gI (30 + a0) 1020 (lt (llSI u2 77 (Int32.toNatClampNeg (30 + a0)) 1) (fun u3 => gB 1 (some (u3, 1))))) else gB 0 (some (u, 0))))))
set_option maxRecDepth 20000 in
theorem tj_X12_resign_69 {G : llG} {d : Nat} (u : llMem) (a0 : Int32) : llJ G RX12 cX12_resign 2 (some .boolean) (d + 3) (fun r => llRet G (llI r.2) r.1) 0 [(0, .ref (llAd G 69)), (1, .int a0)] [] u (fx_X12_resign_69 u a0) := by
  unfold fx_X12_resign_69
  refine J_aload_n (j := 0) dX12_resign_0 rfl rfl ?_
  refine J_iload_n (j := 1) dX12_resign_1 rfl rfl ?_
  refine J_callVip1 dX12_resign_2 (t_X12_plays_69 (llL G) (llFx G) d u a0) ym_X12_plays wd_1467 sh_69 rfl (Nat.le_of_ble_eq_true rfl) (fun r1 => ?_)
  refine J_if_eq (tgt := 21) dX12_resign_5 (by decide) ?_ ?_
  · refine J_iconst (v := 0) dX12_resign_21 (by decide) ?_
    exact J_zret dX12_resign_22 (fun h => h)
  · refine J_aload_n (j := 0) dX12_resign_8 rfl rfl ?_
    refine J_getR (b := 77) dX12_resign_9 fl_X12_32 sh_69 rfl ?_
    refine J_bipush (v := 30) dX12_resign_12 (by decide) ?_
    refine J_iload_n (j := 1) dX12_resign_14 rfl rfl ?_
    refine J_iadd dX12_resign_15 ?_
    refine J_iald dX12_resign_16 sh_77 ?_
    refine J_iconst (v := 1) dX12_resign_17 (by decide) ?_
    refine J_icmp_ne (tgt := 23) dX12_resign_18 (by decide) ?_ ?_
    · refine J_aload_n (j := 0) dX12_resign_23 rfl rfl ?_
      refine J_callVv0 dX12_resign_24 (t_X12_keeps_69 (llL G) (llFx G) (d + 2) u ) ym_X12_keeps wd_1475 sh_69 rfl (Nat.le_of_ble_eq_true rfl) (fun u2 => ?_)
      refine J_aload_n (j := 0) dX12_resign_27 rfl rfl ?_
      refine J_getR (b := 77) dX12_resign_28 fl_X12_32 sh_69 rfl ?_
      refine J_bipush (v := 30) dX12_resign_31 (by decide) ?_
      refine J_iload_n (j := 1) dX12_resign_33 rfl rfl ?_
      refine J_iadd dX12_resign_34 ?_
      refine J_iconst (v := 1) dX12_resign_35 (by decide) ?_
      refine J_iast dX12_resign_36 sh_77 (fun u3 => ?_)
      refine J_iconst (v := 1) dX12_resign_37 (by decide) ?_
      exact J_zret dX12_resign_38 (fun h => h)
    · refine J_iconst (v := 0) dX12_resign_21 (by decide) ?_
      exact J_zret dX12_resign_22 (fun h => h)
theorem t_X12_resign_69 (l : Launch) (F : llFix) (d : Nat) (u : llMem) (a0 : Int32) : llCt l F yX12_resign cX12_resign 2 (some .boolean) (d + 3) [.ref (F.2.2.1 69), .int a0] u llI (fx_X12_resign_69 u a0) := llCt.of (by decide +kernel) (by exact Nat.le_of_ble_eq_true rfl) (fun G h1 h2 => by subst h1; subst h2; exact tj_X12_resign_69 u a0)
def fx_X11_refuse_0 (u : llMem) (a0 : Int32) : Option (llMem × Int32) := (fx_X5_plays_3 u a0).bind (fun r1 => (if r1 = 0 then gB 0 (some (u, 0)) else gI a0 30 ((if (rI u 19 a0) = 0 then gI a0 30 (lt (llSI u 19 (Int32.toNatClampNeg a0) 1) (fun u2 => bd (fx_X2_keep_26 u2 2 a0 0) (fun u3 _ => gB 1 (some (u3, 1))))) else gB 0 (some (u, 0))))))
set_option maxRecDepth 20000 in
theorem tj_X11_refuse_0 {G : llG} {d : Nat} (u : llMem) (a0 : Int32) : llJ G RX11 cX11_refuse 2 (some .boolean) (d + 2) (fun r => llRet G (llI r.2) r.1) 0 [(0, .ref (llAd G 0)), (1, .int a0)] [] u (fx_X11_refuse_0 u a0) := by
  unfold fx_X11_refuse_0
  refine J_aload_n (j := 0) dX11_refuse_0 rfl rfl ?_
  refine J_getR (b := 3) dX11_refuse_1 fl_X11_19 sh_0 rfl ?_
  refine J_iload_n (j := 1) dX11_refuse_4 rfl rfl ?_
  refine J_callVip1 dX11_refuse_5 (t_X5_plays_3 (llL G) (llFx G) d u a0) ym_X5_plays wd_725 sh_3 rfl (Nat.le_of_ble_eq_true rfl) (fun r1 => ?_)
  refine J_if_eq (tgt := 23) dX11_refuse_8 (by decide) ?_ ?_
  · refine J_iconst (v := 0) dX11_refuse_23 (by decide) ?_
    exact J_zret dX11_refuse_24 (fun h => h)
  · refine J_aload_n (j := 0) dX11_refuse_11 rfl rfl ?_
    refine J_getR (b := 14) dX11_refuse_12 fl_X11_26 sh_0 rfl ?_
    refine J_getR (b := 19) dX11_refuse_15 fl_X11_167 sh_14 rfl ?_
    refine J_iload_n (j := 1) dX11_refuse_18 rfl rfl ?_
    refine J_iald dX11_refuse_19 sh_19 ?_
    refine J_if_eq (tgt := 25) dX11_refuse_20 (by decide) ?_ ?_
    · refine J_aload_n (j := 0) dX11_refuse_25 rfl rfl ?_
      refine J_getR (b := 14) dX11_refuse_26 fl_X11_26 sh_0 rfl ?_
      refine J_getR (b := 19) dX11_refuse_29 fl_X11_167 sh_14 rfl ?_
      refine J_iload_n (j := 1) dX11_refuse_32 rfl rfl ?_
      refine J_iconst (v := 1) dX11_refuse_33 (by decide) ?_
      refine J_iast dX11_refuse_34 sh_19 (fun u2 => ?_)
      refine J_aload_n (j := 0) dX11_refuse_35 rfl rfl ?_
      refine J_getR (b := 26) dX11_refuse_36 fl_X11_35 sh_0 rfl ?_
      refine J_iconst (v := 2) dX11_refuse_39 (by decide) ?_
      refine J_iload_n (j := 1) dX11_refuse_40 rfl rfl ?_
      refine J_iconst (v := 0) dX11_refuse_41 (by decide) ?_
      refine J_callVv3 dX11_refuse_42 (t_X2_keep_26 (llL G) (llFx G) (d + 1) u2 2 a0 0) ym_X2_keep wd_702 sh_26 rfl (Nat.le_of_ble_eq_true rfl) (fun u3 => ?_)
      refine J_iconst (v := 1) dX11_refuse_45 (by decide) ?_
      exact J_zret dX11_refuse_46 (fun h => h)
    · refine J_iconst (v := 0) dX11_refuse_23 (by decide) ?_
      exact J_zret dX11_refuse_24 (fun h => h)
theorem t_X11_refuse_0 (l : Launch) (F : llFix) (d : Nat) (u : llMem) (a0 : Int32) : llCt l F yX11_refuse cX11_refuse 2 (some .boolean) (d + 2) [.ref (F.2.2.1 0), .int a0] u llI (fx_X11_refuse_0 u a0) := llCt.of (by decide +kernel) (by exact Nat.le_of_ble_eq_true rfl) (fun G h1 h2 => by subst h1; subst h2; exact tj_X11_refuse_0 u a0)
def fx_X12_refuse_69 (u : llMem) (a0 : Int32) : Option (llMem × Int32) := (fx_X12_plays_69 u a0).bind (fun r1 => (if r1 = 0 then gB 0 (some (u, 0)) else gI (60 + a0) 1020 ((if ¬ (rI u 77 (60 + a0)) = 1 then bd (fx_X12_keeps_69 u ) (fun u2 _ => gI (60 + a0) 1020 (lt (llSI u2 77 (Int32.toNatClampNeg (60 + a0)) 1) (fun u3 => gB 1 (some (u3, 1))))) else gB 0 (some (u, 0))))))
set_option maxRecDepth 20000 in
theorem tj_X12_refuse_69 {G : llG} {d : Nat} (u : llMem) (a0 : Int32) : llJ G RX12 cX12_refuse 2 (some .boolean) (d + 3) (fun r => llRet G (llI r.2) r.1) 0 [(0, .ref (llAd G 69)), (1, .int a0)] [] u (fx_X12_refuse_69 u a0) := by
  unfold fx_X12_refuse_69
  refine J_aload_n (j := 0) dX12_refuse_0 rfl rfl ?_
  refine J_iload_n (j := 1) dX12_refuse_1 rfl rfl ?_
  refine J_callVip1 dX12_refuse_2 (t_X12_plays_69 (llL G) (llFx G) d u a0) ym_X12_plays wd_1467 sh_69 rfl (Nat.le_of_ble_eq_true rfl) (fun r1 => ?_)
  refine J_if_eq (tgt := 21) dX12_refuse_5 (by decide) ?_ ?_
  · refine J_iconst (v := 0) dX12_refuse_21 (by decide) ?_
    exact J_zret dX12_refuse_22 (fun h => h)
  · refine J_aload_n (j := 0) dX12_refuse_8 rfl rfl ?_
    refine J_getR (b := 77) dX12_refuse_9 fl_X12_32 sh_69 rfl ?_
    refine J_bipush (v := 60) dX12_refuse_12 (by decide) ?_
    refine J_iload_n (j := 1) dX12_refuse_14 rfl rfl ?_
    refine J_iadd dX12_refuse_15 ?_
    refine J_iald dX12_refuse_16 sh_77 ?_
    refine J_iconst (v := 1) dX12_refuse_17 (by decide) ?_
    refine J_icmp_ne (tgt := 23) dX12_refuse_18 (by decide) ?_ ?_
    · refine J_aload_n (j := 0) dX12_refuse_23 rfl rfl ?_
      refine J_callVv0 dX12_refuse_24 (t_X12_keeps_69 (llL G) (llFx G) (d + 2) u ) ym_X12_keeps wd_1475 sh_69 rfl (Nat.le_of_ble_eq_true rfl) (fun u2 => ?_)
      refine J_aload_n (j := 0) dX12_refuse_27 rfl rfl ?_
      refine J_getR (b := 77) dX12_refuse_28 fl_X12_32 sh_69 rfl ?_
      refine J_bipush (v := 60) dX12_refuse_31 (by decide) ?_
      refine J_iload_n (j := 1) dX12_refuse_33 rfl rfl ?_
      refine J_iadd dX12_refuse_34 ?_
      refine J_iconst (v := 1) dX12_refuse_35 (by decide) ?_
      refine J_iast dX12_refuse_36 sh_77 (fun u3 => ?_)
      refine J_iconst (v := 1) dX12_refuse_37 (by decide) ?_
      exact J_zret dX12_refuse_38 (fun h => h)
    · refine J_iconst (v := 0) dX12_refuse_21 (by decide) ?_
      exact J_zret dX12_refuse_22 (fun h => h)
theorem t_X12_refuse_69 (l : Launch) (F : llFix) (d : Nat) (u : llMem) (a0 : Int32) : llCt l F yX12_refuse cX12_refuse 2 (some .boolean) (d + 3) [.ref (F.2.2.1 69), .int a0] u llI (fx_X12_refuse_69 u a0) := llCt.of (by decide +kernel) (by exact Nat.le_of_ble_eq_true rfl) (fun G h1 h2 => by subst h1; subst h2; exact tj_X12_refuse_69 u a0)
def fx_X11_deduct_0 (u : llMem) (a0 : Int32) (a1 : Int32) : Option (llMem × Int32) := (fx_X5_plays_3 u a0).bind (fun r1 => (if r1 = 0 then gB 0 (some (u, 0)) else (if a1 < 1 then gB 0 (some (u, 0)) else (if 99 < a1 then gB 0 (some (u, 0)) else gI a0 30 ((if ((rI u 20 a0) + a1) ≤ 999 then gI a0 30 (gI a0 30 (lt (llSI u 20 (Int32.toNatClampNeg a0) ((rI u 20 a0) + a1)) (fun u2 => bd (fx_X2_keep_26 u2 3 a0 a1) (fun u3 _ => gB 1 (some (u3, 1)))))) else gB 0 (some (u, 0))))))))
set_option maxRecDepth 20000 in
theorem tj_X11_deduct_0 {G : llG} {d : Nat} (u : llMem) (a0 : Int32) (a1 : Int32) : llJ G RX11 cX11_deduct 3 (some .boolean) (d + 2) (fun r => llRet G (llI r.2) r.1) 0 [(0, .ref (llAd G 0)), (1, .int a0), (2, .int a1)] [] u (fx_X11_deduct_0 u a0 a1) := by
  unfold fx_X11_deduct_0
  refine J_aload_n (j := 0) dX11_deduct_0 rfl rfl ?_
  refine J_getR (b := 3) dX11_deduct_1 fl_X11_19 sh_0 rfl ?_
  refine J_iload_n (j := 1) dX11_deduct_4 rfl rfl ?_
  refine J_callVip1 dX11_deduct_5 (t_X5_plays_3 (llL G) (llFx G) d u a0) ym_X5_plays wd_725 sh_3 rfl (Nat.le_of_ble_eq_true rfl) (fun r1 => ?_)
  refine J_if_eq (tgt := 39) dX11_deduct_8 (by decide) ?_ ?_
  · refine J_iconst (v := 0) dX11_deduct_39 (by decide) ?_
    exact J_zret dX11_deduct_40 (fun h => h)
  · refine J_iload_n (j := 2) dX11_deduct_11 rfl rfl ?_
    refine J_iconst (v := 1) dX11_deduct_12 (by decide) ?_
    refine J_icmp_lt (tgt := 39) dX11_deduct_13 (by decide) ?_ ?_
    · refine J_iconst (v := 0) dX11_deduct_39 (by decide) ?_
      exact J_zret dX11_deduct_40 (fun h => h)
    · refine J_iload_n (j := 2) dX11_deduct_16 rfl rfl ?_
      refine J_bipush (v := 99) dX11_deduct_17 (by decide) ?_
      refine J_icmp_gt (tgt := 39) dX11_deduct_19 (by decide) ?_ ?_
      · refine J_iconst (v := 0) dX11_deduct_39 (by decide) ?_
        exact J_zret dX11_deduct_40 (fun h => h)
      · refine J_aload_n (j := 0) dX11_deduct_22 rfl rfl ?_
        refine J_getR (b := 14) dX11_deduct_23 fl_X11_26 sh_0 rfl ?_
        refine J_getR (b := 20) dX11_deduct_26 fl_X11_170 sh_14 rfl ?_
        refine J_iload_n (j := 1) dX11_deduct_29 rfl rfl ?_
        refine J_iald dX11_deduct_30 sh_20 ?_
        refine J_iload_n (j := 2) dX11_deduct_31 rfl rfl ?_
        refine J_iadd dX11_deduct_32 ?_
        refine J_sipush (v := 999) dX11_deduct_33 (by decide) ?_
        refine J_icmp_le (tgt := 41) dX11_deduct_36 (by decide) ?_ ?_
        · refine J_aload_n (j := 0) dX11_deduct_41 rfl rfl ?_
          refine J_getR (b := 14) dX11_deduct_42 fl_X11_26 sh_0 rfl ?_
          refine J_getR (b := 20) dX11_deduct_45 fl_X11_170 sh_14 rfl ?_
          refine J_iload_n (j := 1) dX11_deduct_48 rfl rfl ?_
          refine J_dup2 dX11_deduct_49 rfl rfl ?_
          refine J_iald dX11_deduct_50 sh_20 ?_
          refine J_iload_n (j := 2) dX11_deduct_51 rfl rfl ?_
          refine J_iadd dX11_deduct_52 ?_
          refine J_iast dX11_deduct_53 sh_20 (fun u2 => ?_)
          refine J_aload_n (j := 0) dX11_deduct_54 rfl rfl ?_
          refine J_getR (b := 26) dX11_deduct_55 fl_X11_35 sh_0 rfl ?_
          refine J_iconst (v := 3) dX11_deduct_58 (by decide) ?_
          refine J_iload_n (j := 1) dX11_deduct_59 rfl rfl ?_
          refine J_iload_n (j := 2) dX11_deduct_60 rfl rfl ?_
          refine J_callVv3 dX11_deduct_61 (t_X2_keep_26 (llL G) (llFx G) (d + 1) u2 3 a0 a1) ym_X2_keep wd_702 sh_26 rfl (Nat.le_of_ble_eq_true rfl) (fun u3 => ?_)
          refine J_iconst (v := 1) dX11_deduct_64 (by decide) ?_
          exact J_zret dX11_deduct_65 (fun h => h)
        · refine J_iconst (v := 0) dX11_deduct_39 (by decide) ?_
          exact J_zret dX11_deduct_40 (fun h => h)
theorem t_X11_deduct_0 (l : Launch) (F : llFix) (d : Nat) (u : llMem) (a0 : Int32) (a1 : Int32) : llCt l F yX11_deduct cX11_deduct 3 (some .boolean) (d + 2) [.ref (F.2.2.1 0), .int a0, .int a1] u llI (fx_X11_deduct_0 u a0 a1) := llCt.of (by decide +kernel) (by exact Nat.le_of_ble_eq_true rfl) (fun G h1 h2 => by subst h1; subst h2; exact tj_X11_deduct_0 u a0 a1)
