def fx_J6_bitCount_0f7a4 (u : llMem) (a0 : Int32) : Option Int32 := lt (a0 - (((Int32.toUInt32 a0 >>> (Int32.toUInt32 1 &&& Int32.toUInt32 31)).toInt32) &&& 1431655765)) (fun v0_1 => lt ((v0_1 &&& 858993459) + (((Int32.toUInt32 v0_1 >>> (Int32.toUInt32 2 &&& Int32.toUInt32 31)).toInt32) &&& 858993459)) (fun v0_2 => lt ((v0_2 + ((Int32.toUInt32 v0_2 >>> (Int32.toUInt32 4 &&& Int32.toUInt32 31)).toInt32)) &&& 252645135) (fun v0_3 => lt (v0_3 + ((Int32.toUInt32 v0_3 >>> (Int32.toUInt32 8 &&& Int32.toUInt32 31)).toInt32)) (fun v0_4 => lt (v0_4 + ((Int32.toUInt32 v0_4 >>> (Int32.toUInt32 16 &&& Int32.toUInt32 31)).toInt32)) (fun v0_5 => some (v0_5 &&& 63))))))
set_option maxRecDepth 20000 in
theorem tj_J6_bitCount_0f7a4 {G : llG} {d : Nat} (u : llMem) (a0 : Int32) : llJ G RJ6 cJ6_bitCount_0f7a4 1 (some .int) d (fun r => llRet G (llI r) u) 0 [(0, .int a0)] [] u (fx_J6_bitCount_0f7a4 u a0) := by
  unfold fx_J6_bitCount_0f7a4
  refine J_iload_n (j := 0) dJ6_bitCount_0f7a4_0 rfl rfl ?_
  refine J_iload_n (j := 0) dJ6_bitCount_0f7a4_1 rfl rfl ?_
  refine J_iconst (v := 1) dJ6_bitCount_0f7a4_2 (by decide) ?_
  refine J_iushr dJ6_bitCount_0f7a4_3 ?_
  refine J_ldcw (v := 1431655765) dJ6_bitCount_0f7a4_4 wd_877 ?_
  refine J_iand dJ6_bitCount_0f7a4_7 ?_
  refine J_isub dJ6_bitCount_0f7a4_8 ?_
  refine J_istore_nL (fun v0_1 => [(0, .int v0_1)]) dJ6_bitCount_0f7a4_9 rfl (by decide) (fun _ => rfl) (fun v0_1 => ?_)
  refine J_iload_n (j := 0) dJ6_bitCount_0f7a4_10 rfl rfl ?_
  refine J_ldcw (v := 858993459) dJ6_bitCount_0f7a4_11 wd_878 ?_
  refine J_iand dJ6_bitCount_0f7a4_14 ?_
  refine J_iload_n (j := 0) dJ6_bitCount_0f7a4_15 rfl rfl ?_
  refine J_iconst (v := 2) dJ6_bitCount_0f7a4_16 (by decide) ?_
  refine J_iushr dJ6_bitCount_0f7a4_17 ?_
  refine J_ldcw (v := 858993459) dJ6_bitCount_0f7a4_18 wd_878 ?_
  refine J_iand dJ6_bitCount_0f7a4_21 ?_
  refine J_iadd dJ6_bitCount_0f7a4_22 ?_
  refine J_istore_nL (fun v0_2 => [(0, .int v0_2)]) dJ6_bitCount_0f7a4_23 rfl (by decide) (fun _ => rfl) (fun v0_2 => ?_)
  refine J_iload_n (j := 0) dJ6_bitCount_0f7a4_24 rfl rfl ?_
  refine J_iload_n (j := 0) dJ6_bitCount_0f7a4_25 rfl rfl ?_
  refine J_iconst (v := 4) dJ6_bitCount_0f7a4_26 (by decide) ?_
  refine J_iushr dJ6_bitCount_0f7a4_27 ?_
  refine J_iadd dJ6_bitCount_0f7a4_28 ?_
  refine J_ldcw (v := 252645135) dJ6_bitCount_0f7a4_29 wd_879 ?_
  refine J_iand dJ6_bitCount_0f7a4_32 ?_
  refine J_istore_nL (fun v0_3 => [(0, .int v0_3)]) dJ6_bitCount_0f7a4_33 rfl (by decide) (fun _ => rfl) (fun v0_3 => ?_)
  refine J_iload_n (j := 0) dJ6_bitCount_0f7a4_34 rfl rfl ?_
  refine J_iload_n (j := 0) dJ6_bitCount_0f7a4_35 rfl rfl ?_
  refine J_bipush (v := 8) dJ6_bitCount_0f7a4_36 (by decide) ?_
  refine J_iushr dJ6_bitCount_0f7a4_38 ?_
  refine J_iadd dJ6_bitCount_0f7a4_39 ?_
  refine J_istore_nL (fun v0_4 => [(0, .int v0_4)]) dJ6_bitCount_0f7a4_40 rfl (by decide) (fun _ => rfl) (fun v0_4 => ?_)
  refine J_iload_n (j := 0) dJ6_bitCount_0f7a4_41 rfl rfl ?_
  refine J_iload_n (j := 0) dJ6_bitCount_0f7a4_42 rfl rfl ?_
  refine J_bipush (v := 16) dJ6_bitCount_0f7a4_43 (by decide) ?_
  refine J_iushr dJ6_bitCount_0f7a4_45 ?_
  refine J_iadd dJ6_bitCount_0f7a4_46 ?_
  refine J_istore_nL (fun v0_5 => [(0, .int v0_5)]) dJ6_bitCount_0f7a4_47 rfl (by decide) (fun _ => rfl) (fun v0_5 => ?_)
  refine J_iload_n (j := 0) dJ6_bitCount_0f7a4_48 rfl rfl ?_
  refine J_bipush (v := 63) dJ6_bitCount_0f7a4_49 (by decide) ?_
  refine J_iand dJ6_bitCount_0f7a4_51 ?_
  exact J_iret dJ6_bitCount_0f7a4_52 (fun h => h)
theorem t_J6_bitCount_0f7a4 (l : Launch) (F : llFix) (d : Nat) (u : llMem) (a0 : Int32) : llCp l F yJ6_bitCount_0f7a4 cJ6_bitCount_0f7a4 1 (some .int) d [.int a0] u llI (fx_J6_bitCount_0f7a4 u a0) := llCp.of (by decide +kernel) (by exact Nat.le_of_ble_eq_true rfl) (fun G h1 h2 => by subst h1; subst h2; exact tj_J6_bitCount_0f7a4 u a0)
def fx_X4_choose_52_j179_b92 (rec : llMem → Int32 → Int32 → Int32 → Option (llMem × Unit)) (u : llMem) (v1 : Int32) (v2 : Int32) (v3 : Int32) (v4 : Int32) (v5 : Int32) : Option ((llMem × Int32) ⊕ (llMem)) := lt (v5 + 1) (fun v5_4 => some (.inl (u, v5_4)))
set_option maxRecDepth 20000 in
theorem t_X4_choose_52_j179_b92 {G : llG} {d : Nat} {rec : llMem → Int32 → Int32 → Int32 → Option (llMem × Unit)} (hrec : ∀ (u' : llMem) (a0 : Int32) (a1 : Int32) (a2 : Int32), llCt (llL G) (llFx G) yX4_choose cX4_choose 7 none (d + 1) [.ref (llAd G 52), .int a0, .int a1, .int a2] u' llVd (rec u' a0 a1 a2)) (u : llMem) (v1 : Int32) (v2 : Int32) (v3 : Int32) (v4 : Int32) (v5 : Int32) : llJ G RX4 cX4_choose 7 none (d + 2) (Sum.elim (fun s' => llJq G 7 92 [(0, .ref (llAd G 52)), (1, .int v1), (2, .int v2), (3, .int v3), (4, .int v4), (5, .int s'.2)] [] s'.1) (fun e => llJq G 7 185 [] [] e)) 179 [(0, .ref (llAd G 52)), (1, .int v1), (2, .int v2), (3, .int v3), (4, .int v4), (5, .int v5)] [] u (fx_X4_choose_52_j179_b92 rec u v1 v2 v3 v4 v5) := by
  unfold fx_X4_choose_52_j179_b92
  refine J_iinc (j := 5) (b := 1) (fun v5_4 => [(5, .int v5_4), (0, .ref (llAd G 52)), (1, .int v1), (2, .int v2), (3, .int v3), (4, .int v4)]) dX4_choose_179 rfl (by decide) (by decide) (fun _ => rfl) (fun v5_4 => ?_)
  refine J_goto (tgt := 92) dX4_choose_182 (by decide) ?_
  exact J_cut [1, 2, 3, 4, 5, 0] (lv' := [(0, .ref (llAd G 52)), (1, .int v1), (2, .int v2), (3, .int v3), (4, .int v4), (5, .int v5_4)]) rfl (fun h => h)
def fx_X4_choose_52_l92 (rec : llMem → Int32 → Int32 → Int32 → Option (llMem × Unit)) (v1 : Int32) (v2 : Int32) (v3 : Int32) (v4 : Int32) (s : llMem × Int32) : Option ((llMem × Int32) ⊕ (llMem)) := gI (v4 + 1) 13 ((if (rI s.1 60 (v4 + 1)) ≤ s.2 then some (.inr s.1) else (if (s.1.1 52 10) ≤ s.2 then some (.inr s.1) else gI s.2 924 (lt (rI s.1 58 s.2) (fun v6_3 => (if ¬ (v6_3 &&& (v2 ^^^ ((-1)))) = 0 then fx_X4_choose_52_j179_b92 rec s.1 v1 v2 v3 v4 s.2 else gI v6_3 4096 ((if (s.1.1 52 16) ≤ (v3 + (rI s.1 59 v6_3)) then fx_X4_choose_52_j179_b92 rec s.1 v1 v2 v3 v4 s.2 else gI v1 3 (lt (llSI s.1 61 (Int32.toNatClampNeg v1) v6_3) (fun u5 => gI v6_3 4096 (bd (rec u5 (v1 + 1) (v2 &&& (v6_3 ^^^ ((-1)))) (v3 + (rI u5 59 v6_3))) (fun u6 _ => fx_X4_choose_52_j179_b92 rec u6 v1 v2 v3 v4 s.2))))))))))))
set_option maxRecDepth 20000 in
theorem t_X4_choose_52_l92 {G : llG} {d : Nat} {rec : llMem → Int32 → Int32 → Int32 → Option (llMem × Unit)} (hrec : ∀ (u' : llMem) (a0 : Int32) (a1 : Int32) (a2 : Int32), llCt (llL G) (llFx G) yX4_choose cX4_choose 7 none (d + 1) [.ref (llAd G 52), .int a0, .int a1, .int a2] u' llVd (rec u' a0 a1 a2)) (v1 : Int32) (v2 : Int32) (v3 : Int32) (v4 : Int32) (s : llMem × Int32) : llJ G RX4 cX4_choose 7 none (d + 2) (Sum.elim (fun s' => llJq G 7 92 [(0, .ref (llAd G 52)), (1, .int v1), (2, .int v2), (3, .int v3), (4, .int v4), (5, .int s'.2)] [] s'.1) (fun e => llJq G 7 185 [] [] e)) 92 [(0, .ref (llAd G 52)), (1, .int v1), (2, .int v2), (3, .int v3), (4, .int v4), (5, .int s.2)] [] s.1 (fx_X4_choose_52_l92 rec v1 v2 v3 v4 s) := by
  unfold fx_X4_choose_52_l92
  refine J_iload (j := 5) dX4_choose_92 rfl ?_
  refine J_aload_n (j := 0) dX4_choose_94 rfl rfl ?_
  refine J_getR (b := 60) dX4_choose_95 fl_X4_41 sh_52 rfl ?_
  refine J_iload (j := 4) dX4_choose_98 rfl ?_
  refine J_iconst (v := 1) dX4_choose_100 (by decide) ?_
  refine J_iadd dX4_choose_101 ?_
  refine J_iald dX4_choose_102 sh_60 ?_
  refine J_icmp_ge (tgt := 185) dX4_choose_103 (by decide) ?_ ?_
  · exact J_cut [] (lv' := []) rfl (fun h => h)
  · refine J_iload (j := 5) dX4_choose_106 rfl ?_
    refine J_aload_n (j := 0) dX4_choose_108 rfl rfl ?_
    refine J_getI dX4_choose_109 fl_X4_102 sh_52 rfl ?_
    refine J_icmp_ge (tgt := 185) dX4_choose_112 (by decide) ?_ ?_
    · exact J_cut [] (lv' := []) rfl (fun h => h)
    · refine J_aload_n (j := 0) dX4_choose_115 rfl rfl ?_
      refine J_getR (b := 58) dX4_choose_116 fl_X4_35 sh_52 rfl ?_
      refine J_iload (j := 5) dX4_choose_119 rfl ?_
      refine J_iald dX4_choose_121 sh_58 ?_
      refine J_istoreL (fun v6_3 => [(6, .int v6_3), (0, .ref (llAd G 52)), (1, .int v1), (2, .int v2), (3, .int v3), (4, .int v4), (5, .int s.2)]) dX4_choose_122 (by decide) (fun _ => rfl) (fun v6_3 => ?_)
      refine J_iload (j := 0) dX4_choose_124 rfl ?_
      refine J_iload_n (j := 3) dX4_choose_126 rfl rfl ?_
      refine J_iconst (v := (-1)) dX4_choose_127 (by decide) ?_
      refine J_ixor dX4_choose_128 ?_
      refine J_iand dX4_choose_129 ?_
      refine J_if_ne (tgt := 179) dX4_choose_130 (by decide) ?_ ?_
      · refine J_sub [1, 2, 3, 4, 5, 6] (lv' := [(0, .ref (llAd G 52)), (1, .int v1), (2, .int v2), (3, .int v3), (4, .int v4), (5, .int s.2)]) rfl ?_
        exact t_X4_choose_52_j179_b92 hrec s.1 v1 v2 v3 v4 s.2
      · refine J_iload_n (j := 4) dX4_choose_133 rfl rfl ?_
        refine J_aload_n (j := 1) dX4_choose_134 rfl rfl ?_
        refine J_getR (b := 59) dX4_choose_135 fl_X4_38 sh_52 rfl ?_
        refine J_iload (j := 0) dX4_choose_138 rfl ?_
        refine J_iald dX4_choose_140 sh_59 ?_
        refine J_iadd dX4_choose_141 ?_
        refine J_aload_n (j := 1) dX4_choose_142 rfl rfl ?_
        refine J_getI dX4_choose_143 fl_X4_112 sh_52 rfl ?_
        refine J_icmp_ge (tgt := 179) dX4_choose_146 (by decide) ?_ ?_
        · refine J_sub [1, 2, 3, 4, 5, 6] (lv' := [(0, .ref (llAd G 52)), (1, .int v1), (2, .int v2), (3, .int v3), (4, .int v4), (5, .int s.2)]) rfl ?_
          exact t_X4_choose_52_j179_b92 hrec s.1 v1 v2 v3 v4 s.2
        · refine J_aload_n (j := 1) dX4_choose_149 rfl rfl ?_
          refine J_getR (b := 61) dX4_choose_150 fl_X4_44 sh_52 rfl ?_
          refine J_iload_n (j := 2) dX4_choose_153 rfl rfl ?_
          refine J_iload (j := 0) dX4_choose_154 rfl ?_
          refine J_iast dX4_choose_156 sh_61 (fun u5 => ?_)
          refine J_aload_n (j := 1) dX4_choose_157 rfl rfl ?_
          refine J_iload_n (j := 2) dX4_choose_158 rfl rfl ?_
          refine J_iconst (v := 1) dX4_choose_159 (by decide) ?_
          refine J_iadd dX4_choose_160 ?_
          refine J_iload_n (j := 3) dX4_choose_161 rfl rfl ?_
          refine J_iload (j := 0) dX4_choose_162 rfl ?_
          refine J_iconst (v := (-1)) dX4_choose_164 (by decide) ?_
          refine J_ixor dX4_choose_165 ?_
          refine J_iand dX4_choose_166 ?_
          refine J_iload_n (j := 4) dX4_choose_167 rfl rfl ?_
          refine J_aload_n (j := 1) dX4_choose_168 rfl rfl ?_
          refine J_getR (b := 59) dX4_choose_169 fl_X4_38 sh_52 rfl ?_
          refine J_iload (j := 0) dX4_choose_172 rfl ?_
          refine J_iald dX4_choose_174 sh_59 ?_
          refine J_iadd dX4_choose_175 ?_
          refine J_callVv3 dX4_choose_176 (hrec u5 (v1 + 1) (v2 &&& (v6_3 ^^^ ((-1)))) (v3 + (rI u5 59 v6_3))) ym_X4_choose wd_869 sh_52 rfl (Nat.le_of_ble_eq_true rfl) (fun u6 => ?_)
          refine J_sub [1, 2, 3, 4, 5, 6] (lv' := [(0, .ref (llAd G 52)), (1, .int v1), (2, .int v2), (3, .int v3), (4, .int v4), (5, .int s.2)]) rfl ?_
          exact t_X4_choose_52_j179_b92 hrec u6 v1 v2 v3 v4 s.2
def fx_X4_choose_52_body (rec : llMem → Int32 → Int32 → Int32 → Option (llMem × Unit)) (u : llMem) (a0 : Int32) (a1 : Int32) (a2 : Int32) : Option (llMem × Unit) := (if a0 < ((u.1 52 7) - 1) then (fx_J6_bitCount_0f7a4 u ((a1 &&& (-a1)) - 1)).bind (fun r1 => (if r1 < (u.1 52 5) then gI r1 13 (lt (rI u 60 r1) (fun v5_2 => (loop (fx_X4_choose_52_l92 rec a0 a1 a2 r1) llFuel (u, v5_2)).bind (fun e7 => some (e7, ())))) else some (u, ()))) else gI a1 4096 ((if (u.1 52 16) ≤ (a2 + (rI u 59 a1)) then some (u, ()) else gI a0 3 (lt (llSI u 61 (Int32.toNatClampNeg a0) a1) (fun u8 => cpI u8 61 3 62 3 0 0 (u8.1 52 7) (fun u9 => gI a1 4096 (lt (llSI u9 52 16 (a2 + (rI u9 59 a1))) (fun u10 => some (u10, ())))))))))
set_option maxRecDepth 20000 in
theorem tj_X4_choose_52 {G : llG} {d : Nat} {rec : llMem → Int32 → Int32 → Int32 → Option (llMem × Unit)} (hrec : ∀ (u' : llMem) (a0 : Int32) (a1 : Int32) (a2 : Int32), llCt (llL G) (llFx G) yX4_choose cX4_choose 7 none (d + 1) [.ref (llAd G 52), .int a0, .int a1, .int a2] u' llVd (rec u' a0 a1 a2)) (u : llMem) (a0 : Int32) (a1 : Int32) (a2 : Int32) : llJ G RX4 cX4_choose 7 none (d + 2) (fun r => llRet G (llVd r.2) r.1) 0 [(0, .ref (llAd G 52)), (1, .int a0), (2, .int a1), (3, .int a2)] [] u (fx_X4_choose_52_body rec u a0 a1 a2) := by
  unfold fx_X4_choose_52_body
  refine J_iload_n (j := 1) dX4_choose_0 rfl rfl ?_
  refine J_aload_n (j := 0) dX4_choose_1 rfl rfl ?_
  refine J_getI dX4_choose_2 fl_X4_100 sh_52 rfl ?_
  refine J_iconst (v := 1) dX4_choose_5 (by decide) ?_
  refine J_isub dX4_choose_6 ?_
  refine J_icmp_lt (tgt := 62) dX4_choose_7 (by decide) ?_ ?_
  · refine J_iload_n (j := 2) dX4_choose_62 rfl rfl ?_
    refine J_iload_n (j := 2) dX4_choose_63 rfl rfl ?_
    refine J_ineg dX4_choose_64 ?_
    refine J_iand dX4_choose_65 ?_
    refine J_iconst (v := 1) dX4_choose_66 (by decide) ?_
    refine J_isub dX4_choose_67 ?_
    refine J_callSip1 dX4_choose_68 (t_J6_bitCount_0f7a4 (llL G) (llFx G) (d + 1) u ((a1 &&& (-a1)) - 1)) ym_J6_bitCount_0f7a4 wd_874 (Nat.le_of_ble_eq_true rfl) (fun r1 => ?_)
    refine J_istore [(4, .int r1), (0, .ref (llAd G 52)), (1, .int a0), (2, .int a1), (3, .int a2)] dX4_choose_71 (by decide) rfl ?_
    refine J_iload (j := 0) dX4_choose_73 rfl ?_
    refine J_aload_n (j := 1) dX4_choose_75 rfl rfl ?_
    refine J_getI dX4_choose_76 fl_X4_89 sh_52 rfl ?_
    refine J_icmp_lt (tgt := 83) dX4_choose_79 (by decide) ?_ ?_
    · refine J_aload_n (j := 1) dX4_choose_83 rfl rfl ?_
      refine J_getR (b := 60) dX4_choose_84 fl_X4_41 sh_52 rfl ?_
      refine J_iload (j := 0) dX4_choose_87 rfl ?_
      refine J_iald dX4_choose_89 sh_60 ?_
      refine J_istoreL (fun v5_2 => [(5, .int v5_2), (4, .int r1), (0, .ref (llAd G 52)), (1, .int a0), (2, .int a1), (3, .int a2)]) dX4_choose_90 (by decide) (fun _ => rfl) (fun v5_2 => ?_)
      refine J_loopE (fun s' => [(0, .ref (llAd G 52)), (1, .int a0), (2, .int a1), (3, .int a2), (4, .int r1), (5, .int s'.2)]) (fun s' => s'.1) 185 (fun e => []) (fun e => e) (fun z => t_X4_choose_52_l92 hrec a0 a1 a2 r1 z) [2, 3, 4, 5, 1, 0] rfl rfl (fun e7 => ?_)
      exact J_vret dX4_choose_185 (fun h => h)
    · exact J_vret dX4_choose_82 (fun h => h)
  · refine J_iload_n (j := 3) dX4_choose_10 rfl rfl ?_
    refine J_aload_n (j := 0) dX4_choose_11 rfl rfl ?_
    refine J_getR (b := 59) dX4_choose_12 fl_X4_38 sh_52 rfl ?_
    refine J_iload_n (j := 2) dX4_choose_15 rfl rfl ?_
    refine J_iald dX4_choose_16 sh_59 ?_
    refine J_iadd dX4_choose_17 ?_
    refine J_aload_n (j := 0) dX4_choose_18 rfl rfl ?_
    refine J_getI dX4_choose_19 fl_X4_112 sh_52 rfl ?_
    refine J_icmp_ge (tgt := 61) dX4_choose_22 (by decide) ?_ ?_
    · exact J_vret dX4_choose_61 (fun h => h)
    · refine J_aload_n (j := 0) dX4_choose_25 rfl rfl ?_
      refine J_getR (b := 61) dX4_choose_26 fl_X4_44 sh_52 rfl ?_
      refine J_iload_n (j := 1) dX4_choose_29 rfl rfl ?_
      refine J_iload_n (j := 2) dX4_choose_30 rfl rfl ?_
      refine J_iast dX4_choose_31 sh_61 (fun u8 => ?_)
      refine J_aload_n (j := 0) dX4_choose_32 rfl rfl ?_
      refine J_getR (b := 61) dX4_choose_33 fl_X4_44 sh_52 rfl ?_
      refine J_iconst (v := 0) dX4_choose_36 (by decide) ?_
      refine J_aload_n (j := 0) dX4_choose_37 rfl rfl ?_
      refine J_getR (b := 62) dX4_choose_38 fl_X4_47 sh_52 rfl ?_
      refine J_iconst (v := 0) dX4_choose_41 (by decide) ?_
      refine J_aload_n (j := 0) dX4_choose_42 rfl rfl ?_
      refine J_getI dX4_choose_43 fl_X4_100 sh_52 rfl ?_
      refine J_cpI dX4_choose_46 wd_873 wd_622 wd_621 wd_15 sh_61 sh_62 (Nat.le_of_ble_eq_true rfl) (fun u9 => ?_)
      refine J_aload_n (j := 0) dX4_choose_49 rfl rfl ?_
      refine J_iload_n (j := 3) dX4_choose_50 rfl rfl ?_
      refine J_aload_n (j := 0) dX4_choose_51 rfl rfl ?_
      refine J_getR (b := 59) dX4_choose_52 fl_X4_38 sh_52 rfl ?_
      refine J_iload_n (j := 2) dX4_choose_55 rfl rfl ?_
      refine J_iald dX4_choose_56 sh_59 ?_
      refine J_iadd dX4_choose_57 ?_
      refine J_putI dX4_choose_58 fl_X4_112 sh_52 rfl (fun u10 => ?_)
      exact J_vret dX4_choose_61 (fun h => h)
def fx_X4_choose_52 : Nat → llMem → Int32 → Int32 → Int32 → Option (llMem × Unit)
  | 0 => fun _ _ _ _ => none
  | n + 1 => fx_X4_choose_52_body (fx_X4_choose_52 n)
theorem t_X4_choose_52 (l : Launch) (F : llFix) (d : Nat) : ∀ (n : Nat) (u : llMem) (a0 : Int32) (a1 : Int32) (a2 : Int32), llCt l F yX4_choose cX4_choose 7 none (d + n + 1) [.ref (F.2.2.1 52), .int a0, .int a1, .int a2] u llVd (fx_X4_choose_52 n u a0 a1 a2)
  | 0, u, a0, a1, a2 => fun r h => by cases h
  | n + 1, u, a0, a1, a2 => llCt.of (by decide +kernel) (by exact Nat.le_of_ble_eq_true rfl) (fun G h1 h2 => by subst h1; subst h2; exact tj_X4_choose_52 (d := d + n) (rec := fx_X4_choose_52 n) (fun u' a0 a1 a2 => t_X4_choose_52 (llL G) (llFx G) d n u' a0 a1 a2) u a0 a1 a2)
def fx_X4_bestDivisionOf_52_l2 (u : llMem) (v1 : Int32) (s : Int32) : Option ((Int32) ⊕ ((Unit) ⊕ (Int32))) := (if (u.1 52 7) ≤ s then some (.inr (.inl ())) else gI s 3 ((if (((rI u 62 s) >>> (v1 &&& 31)) &&& 1) = 0 then lt (s + 1) (fun v2_1 => some (.inl v2_1)) else some (.inr (.inr s)))))
set_option maxRecDepth 20000 in
theorem t_X4_bestDivisionOf_52_l2 {G : llG} {d : Nat} (u : llMem) (v1 : Int32) (s : Int32) : llJ G RX4 cX4_bestDivisionOf 3 (some .int) d (Sum.elim (fun s' => llJq G 3 2 [(0, .ref (llAd G 52)), (1, .int v1), (2, .int s')] [] u) (Sum.elim (fun e => llJq G 3 31 [] [] u) (fun v => llRet G (llI v) u))) 2 [(0, .ref (llAd G 52)), (1, .int v1), (2, .int s)] [] u (fx_X4_bestDivisionOf_52_l2 u v1 s) := by
  unfold fx_X4_bestDivisionOf_52_l2
  refine J_iload_n (j := 2) dX4_bestDivisionOf_2 rfl rfl ?_
  refine J_aload_n (j := 0) dX4_bestDivisionOf_3 rfl rfl ?_
  refine J_getI dX4_bestDivisionOf_4 fl_X4_100 sh_52 rfl ?_
  refine J_icmp_ge (tgt := 31) dX4_bestDivisionOf_7 (by decide) ?_ ?_
  · exact J_cut [] (lv' := []) rfl (fun h => h)
  · refine J_aload_n (j := 0) dX4_bestDivisionOf_10 rfl rfl ?_
    refine J_getR (b := 62) dX4_bestDivisionOf_11 fl_X4_47 sh_52 rfl ?_
    refine J_iload_n (j := 2) dX4_bestDivisionOf_14 rfl rfl ?_
    refine J_iald dX4_bestDivisionOf_15 sh_62 ?_
    refine J_iload_n (j := 1) dX4_bestDivisionOf_16 rfl rfl ?_
    refine J_ishr dX4_bestDivisionOf_17 ?_
    refine J_iconst (v := 1) dX4_bestDivisionOf_18 (by decide) ?_
    refine J_iand dX4_bestDivisionOf_19 ?_
    refine J_if_eq (tgt := 25) dX4_bestDivisionOf_20 (by decide) ?_ ?_
    · refine J_iinc (j := 2) (b := 1) (fun v2_1 => [(2, .int v2_1), (0, .ref (llAd G 52)), (1, .int v1)]) dX4_bestDivisionOf_25 rfl (by decide) (by decide) (fun _ => rfl) (fun v2_1 => ?_)
      refine J_goto (tgt := 2) dX4_bestDivisionOf_28 (by decide) ?_
      exact J_cut [1, 2, 0] (lv' := [(0, .ref (llAd G 52)), (1, .int v1), (2, .int v2_1)]) rfl (fun h => h)
    · refine J_iload_n (j := 2) dX4_bestDivisionOf_23 rfl rfl ?_
      exact J_iret dX4_bestDivisionOf_24 (fun h => h)
def fx_X4_bestDivisionOf_52 (u : llMem) (a0 : Int32) : Option Int32 := (loop (fx_X4_bestDivisionOf_52_l2 u a0) llFuel 0).bind (Sum.elim (fun e2 => some 0) (fun v => some ((fun v => v) v)))
set_option maxRecDepth 20000 in
theorem tj_X4_bestDivisionOf_52 {G : llG} {d : Nat} (u : llMem) (a0 : Int32) : llJ G RX4 cX4_bestDivisionOf 3 (some .int) d (fun r => llRet G (llI r) u) 0 [(0, .ref (llAd G 52)), (1, .int a0)] [] u (fx_X4_bestDivisionOf_52 u a0) := by
  unfold fx_X4_bestDivisionOf_52
  refine J_iconst (v := 0) dX4_bestDivisionOf_0 (by decide) ?_
  refine J_istore_n [(2, .int 0), (0, .ref (llAd G 52)), (1, .int a0)] dX4_bestDivisionOf_1 rfl (by decide) rfl ?_
  refine J_loopR (wr := (fun v => v)) (fun s' => [(0, .ref (llAd G 52)), (1, .int a0), (2, .int s')]) (fun s' => u) 31 (fun e => []) (fun e => u) (fun v => llRet G (llI v) u) (fun z => t_X4_bestDivisionOf_52_l2 u a0 z) [1, 2, 0] rfl rfl (fun v h => h) (fun e2 => ?_)
  refine J_iconst (v := 0) dX4_bestDivisionOf_31 (by decide) ?_
  exact J_iret dX4_bestDivisionOf_32 (fun h => h)
theorem t_X4_bestDivisionOf_52 (l : Launch) (F : llFix) (d : Nat) (u : llMem) (a0 : Int32) : llCp l F yX4_bestDivisionOf cX4_bestDivisionOf 3 (some .int) d [.ref (F.2.2.1 52), .int a0] u llI (fx_X4_bestDivisionOf_52 u a0) := llCp.of (by decide +kernel) (by exact Nat.le_of_ble_eq_true rfl) (fun G h1 h2 => by subst h1; subst h2; exact tj_X4_bestDivisionOf_52 u a0)
def fx_X4_partAnew_52_l87 (v1 : Int32) (s : llMem × Int32) : Option ((llMem × Int32) ⊕ (llMem)) := (if (s.1.1 52 5) ≤ s.2 then some (.inr s.1) else gI s.2 12 ((fx_X4_bestDivisionOf_52 s.1 s.2).bind (fun r10 => gI (rI s.1 56 s.2) 30 (lt (llSI s.1 55 (Int32.toNatClampNeg (rI s.1 56 s.2)) r10) (fun u11 => lt (s.2 + 1) (fun v2_12 => some (.inl (u11, v2_12))))))))
set_option maxRecDepth 20000 in
theorem t_X4_partAnew_52_l87 {G : llG} {d : Nat} (v1 : Int32) (s : llMem × Int32) : llJ G RX4 cX4_partAnew 3 none (d + 43) (Sum.elim (fun s' => llJq G 3 87 [(0, .ref (llAd G 52)), (1, .int v1), (2, .int s'.2)] [] s'.1) (fun e => llJq G 3 117 [(0, .ref (llAd G 52)), (1, .int v1)] [] e)) 87 [(0, .ref (llAd G 52)), (1, .int v1), (2, .int s.2)] [] s.1 (fx_X4_partAnew_52_l87 v1 s) := by
  unfold fx_X4_partAnew_52_l87
  refine J_iload_n (j := 2) dX4_partAnew_87 rfl rfl ?_
  refine J_aload_n (j := 0) dX4_partAnew_88 rfl rfl ?_
  refine J_getI dX4_partAnew_89 fl_X4_89 sh_52 rfl ?_
  refine J_icmp_ge (tgt := 117) dX4_partAnew_92 (by decide) ?_ ?_
  · exact J_cut [0, 1] (lv' := [(0, .ref (llAd G 52)), (1, .int v1)]) rfl (fun h => h)
  · refine J_aload_n (j := 0) dX4_partAnew_95 rfl rfl ?_
    refine J_getR (b := 55) dX4_partAnew_96 fl_X4_26 sh_52 rfl ?_
    refine J_aload_n (j := 0) dX4_partAnew_99 rfl rfl ?_
    refine J_getR (b := 56) dX4_partAnew_100 fl_X4_29 sh_52 rfl ?_
    refine J_iload_n (j := 2) dX4_partAnew_103 rfl rfl ?_
    refine J_iald dX4_partAnew_104 sh_56 ?_
    refine J_aload_n (j := 0) dX4_partAnew_105 rfl rfl ?_
    refine J_iload_n (j := 2) dX4_partAnew_106 rfl rfl ?_
    refine J_callVip1 dX4_partAnew_107 (t_X4_bestDivisionOf_52 (llL G) (llFx G) (d + 42) s.1 s.2) ym_X4_bestDivisionOf wd_880 sh_52 rfl (Nat.le_of_ble_eq_true rfl) (fun r10 => ?_)
    refine J_iast dX4_partAnew_110 sh_55 (fun u11 => ?_)
    refine J_iinc (j := 2) (b := 1) (fun v2_12 => [(2, .int v2_12), (0, .ref (llAd G 52)), (1, .int v1)]) dX4_partAnew_111 rfl (by decide) (by decide) (fun _ => rfl) (fun v2_12 => ?_)
    refine J_goto (tgt := 87) dX4_partAnew_114 (by decide) ?_
    exact J_cut [1, 2, 0] (lv' := [(0, .ref (llAd G 52)), (1, .int v1), (2, .int v2_12)]) rfl (fun h => h)
def fx_X4_partAnew_52 (u : llMem) (a0 : Int32) : Option (llMem × Unit) := gI a0 4 ((if (rI u 53 a0) = 0 then bd (fx_X5_gather_3_56 u a0) (fun u1 r2 => lt (llSI u1 52 5 r2) (fun u3 => gI a0 4 (lt (llSI u3 52 6 (rI u3 5 a0)) (fun u4 => gI a0 4 (lt (llSI u4 52 7 (rI u4 4 a0)) (fun u5 => lt (llSI u5 52 10 0) (fun u6 => bd (fx_X4_listSets_52 40 u6 0 0 0 0) (fun u7 _ => lt (llSI u7 52 16 2147483647) (fun u8 => bd (fx_X4_choose_52 40 u8 0 ((1 <<< ((u8.1 52 5) &&& 31)) - 1) 0) (fun u9 _ => (loop (fx_X4_partAnew_52_l87 a0) llFuel (u9, 0)).bind (fun e13 => gI a0 4 (lt (llSI e13 54 (Int32.toNatClampNeg a0) (e13.1 52 16)) (fun u14 => gI a0 4 (lt (llSI u14 53 (Int32.toNatClampNeg a0) 1) (fun u15 => some (u15, ())))))))))))))))) else some (u, ())))
set_option maxRecDepth 20000 in
theorem tj_X4_partAnew_52 {G : llG} {d : Nat} (u : llMem) (a0 : Int32) : llJ G RX4 cX4_partAnew 3 none (d + 43) (fun r => llRet G (llVd r.2) r.1) 0 [(0, .ref (llAd G 52)), (1, .int a0)] [] u (fx_X4_partAnew_52 u a0) := by
  unfold fx_X4_partAnew_52
  refine J_aload_n (j := 0) dX4_partAnew_0 rfl rfl ?_
  refine J_getR (b := 53) dX4_partAnew_1 fl_X4_19 sh_52 rfl ?_
  refine J_iload_n (j := 1) dX4_partAnew_4 rfl rfl ?_
  refine J_iald dX4_partAnew_5 sh_53 ?_
  refine J_if_eq (tgt := 10) dX4_partAnew_6 (by decide) ?_ ?_
  · refine J_aload_n (j := 0) dX4_partAnew_10 rfl rfl ?_
    refine J_aload_n (j := 0) dX4_partAnew_11 rfl rfl ?_
    refine J_getR (b := 3) dX4_partAnew_12 fl_X4_9 sh_52 rfl ?_
    refine J_iload_n (j := 1) dX4_partAnew_15 rfl rfl ?_
    refine J_aload_n (j := 0) dX4_partAnew_16 rfl rfl ?_
    refine J_getR (b := 56) dX4_partAnew_17 fl_X4_29 sh_52 rfl ?_
    refine J_callVi2 dX4_partAnew_20 (t_X5_gather_3_56 (llL G) (llFx G) (d + 42) u a0) ym_X5_gather wd_855 sh_3 rfl (Nat.le_of_ble_eq_true rfl) (fun u1 r2 => ?_)
    refine J_putI dX4_partAnew_23 fl_X4_89 sh_52 rfl (fun u3 => ?_)
    refine J_aload_n (j := 0) dX4_partAnew_26 rfl rfl ?_
    refine J_aload_n (j := 0) dX4_partAnew_27 rfl rfl ?_
    refine J_getR (b := 3) dX4_partAnew_28 fl_X4_9 sh_52 rfl ?_
    refine J_getR (b := 5) dX4_partAnew_31 fl_X4_92 sh_3 rfl ?_
    refine J_iload_n (j := 1) dX4_partAnew_34 rfl rfl ?_
    refine J_iald dX4_partAnew_35 sh_5 ?_
    refine J_putI dX4_partAnew_36 fl_X4_95 sh_52 rfl (fun u4 => ?_)
    refine J_aload_n (j := 0) dX4_partAnew_39 rfl rfl ?_
    refine J_aload_n (j := 0) dX4_partAnew_40 rfl rfl ?_
    refine J_getR (b := 3) dX4_partAnew_41 fl_X4_9 sh_52 rfl ?_
    refine J_getR (b := 4) dX4_partAnew_44 fl_X4_97 sh_3 rfl ?_
    refine J_iload_n (j := 1) dX4_partAnew_47 rfl rfl ?_
    refine J_iald dX4_partAnew_48 sh_4 ?_
    refine J_putI dX4_partAnew_49 fl_X4_100 sh_52 rfl (fun u5 => ?_)
    refine J_aload_n (j := 0) dX4_partAnew_52 rfl rfl ?_
    refine J_iconst (v := 0) dX4_partAnew_53 (by decide) ?_
    refine J_putI dX4_partAnew_54 fl_X4_102 sh_52 rfl (fun u6 => ?_)
    refine J_aload_n (j := 0) dX4_partAnew_57 rfl rfl ?_
    refine J_iconst (v := 0) dX4_partAnew_58 (by decide) ?_
    refine J_iconst (v := 0) dX4_partAnew_59 (by decide) ?_
    refine J_iconst (v := 0) dX4_partAnew_60 (by decide) ?_
    refine J_iconst (v := 0) dX4_partAnew_61 (by decide) ?_
    refine J_callVv4 dX4_partAnew_62 (t_X4_listSets_52 (llL G) (llFx G) (d + 0) 40 u6 0 0 0 0) ym_X4_listSets wd_856 sh_52 rfl (Nat.le_of_ble_eq_true rfl) (fun u7 => ?_)
    refine J_aload_n (j := 0) dX4_partAnew_65 rfl rfl ?_
    refine J_ldc (v := 2147483647) dX4_partAnew_66 wd_868 ?_
    refine J_putI dX4_partAnew_68 fl_X4_112 sh_52 rfl (fun u8 => ?_)
    refine J_aload_n (j := 0) dX4_partAnew_71 rfl rfl ?_
    refine J_iconst (v := 0) dX4_partAnew_72 (by decide) ?_
    refine J_iconst (v := 1) dX4_partAnew_73 (by decide) ?_
    refine J_aload_n (j := 0) dX4_partAnew_74 rfl rfl ?_
    refine J_getI dX4_partAnew_75 fl_X4_89 sh_52 rfl ?_
    refine J_ishl dX4_partAnew_78 ?_
    refine J_iconst (v := 1) dX4_partAnew_79 (by decide) ?_
    refine J_isub dX4_partAnew_80 ?_
    refine J_iconst (v := 0) dX4_partAnew_81 (by decide) ?_
    refine J_callVv3 dX4_partAnew_82 (t_X4_choose_52 (llL G) (llFx G) (d + 1) 40 u8 0 ((1 <<< ((u8.1 52 5) &&& 31)) - 1) 0) ym_X4_choose wd_869 sh_52 rfl (Nat.le_of_ble_eq_true rfl) (fun u9 => ?_)
    refine J_iconst (v := 0) dX4_partAnew_85 (by decide) ?_
    refine J_istore_n [(2, .int 0), (0, .ref (llAd G 52)), (1, .int a0)] dX4_partAnew_86 rfl (by decide) rfl ?_
    refine J_loopE (fun s' => [(0, .ref (llAd G 52)), (1, .int a0), (2, .int s'.2)]) (fun s' => s'.1) 117 (fun e => [(0, .ref (llAd G 52)), (1, .int a0)]) (fun e => e) (fun z => t_X4_partAnew_52_l87 a0 z) [1, 2, 0] rfl rfl (fun e13 => ?_)
    refine J_aload_n (j := 0) dX4_partAnew_117 rfl rfl ?_
    refine J_getR (b := 54) dX4_partAnew_118 fl_X4_23 sh_52 rfl ?_
    refine J_iload_n (j := 1) dX4_partAnew_121 rfl rfl ?_
    refine J_aload_n (j := 0) dX4_partAnew_122 rfl rfl ?_
    refine J_getI dX4_partAnew_123 fl_X4_112 sh_52 rfl ?_
    refine J_iast dX4_partAnew_126 sh_54 (fun u14 => ?_)
    refine J_aload_n (j := 0) dX4_partAnew_127 rfl rfl ?_
    refine J_getR (b := 53) dX4_partAnew_128 fl_X4_19 sh_52 rfl ?_
    refine J_iload_n (j := 1) dX4_partAnew_131 rfl rfl ?_
    refine J_iconst (v := 1) dX4_partAnew_132 (by decide) ?_
    refine J_iast dX4_partAnew_133 sh_53 (fun u15 => ?_)
    exact J_vret dX4_partAnew_134 (fun h => h)
  · exact J_vret dX4_partAnew_9 (fun h => h)
theorem t_X4_partAnew_52 (l : Launch) (F : llFix) (d : Nat) (u : llMem) (a0 : Int32) : llCt l F yX4_partAnew cX4_partAnew 3 none (d + 43) [.ref (F.2.2.1 52), .int a0] u llVd (fx_X4_partAnew_52 u a0) := llCt.of (by decide +kernel) (by exact Nat.le_of_ble_eq_true rfl) (fun G h1 h2 => by subst h1; subst h2; exact tj_X4_partAnew_52 u a0)
def fx_X4_settle_52_l2  (s : llMem × Int32) : Option ((llMem × Int32) ⊕ (llMem)) := (if (s.1.1 3 0) ≤ s.2 then some (.inr s.1) else bd (fx_X4_partAnew_52 s.1 s.2) (fun u1 _ => lt (s.2 + 1) (fun v1_2 => some (.inl (u1, v1_2)))))
set_option maxRecDepth 20000 in
theorem t_X4_settle_52_l2 {G : llG} {d : Nat}  (s : llMem × Int32) : llJ G RX4 cX4_settle 2 none (d + 44) (Sum.elim (fun s' => llJq G 2 2 [(0, .ref (llAd G 52)), (1, .int s'.2)] [] s'.1) (fun e => llJq G 2 24 [(0, .ref (llAd G 52))] [] e)) 2 [(0, .ref (llAd G 52)), (1, .int s.2)] [] s.1 (fx_X4_settle_52_l2 s) := by
  unfold fx_X4_settle_52_l2
  refine J_iload_n (j := 1) dX4_settle_2 rfl rfl ?_
  refine J_aload_n (j := 0) dX4_settle_3 rfl rfl ?_
  refine J_getR (b := 3) dX4_settle_4 fl_X4_9 sh_52 rfl ?_
  refine J_getI dX4_settle_7 fl_X4_73 sh_3 rfl ?_
  refine J_icmp_ge (tgt := 24) dX4_settle_10 (by decide) ?_ ?_
  · exact J_cut [0] (lv' := [(0, .ref (llAd G 52))]) rfl (fun h => h)
  · refine J_aload_n (j := 0) dX4_settle_13 rfl rfl ?_
    refine J_iload_n (j := 1) dX4_settle_14 rfl rfl ?_
    refine J_callVv1 dX4_settle_15 (t_X4_partAnew_52 (llL G) (llFx G) d s.1 s.2) ym_X4_partAnew wd_851 sh_52 rfl (Nat.le_of_ble_eq_true rfl) (fun u1 => ?_)
    refine J_iinc (j := 1) (b := 1) (fun v1_2 => [(1, .int v1_2), (0, .ref (llAd G 52))]) dX4_settle_18 rfl (by decide) (by decide) (fun _ => rfl) (fun v1_2 => ?_)
    refine J_goto (tgt := 2) dX4_settle_21 (by decide) ?_
    exact J_cut [1, 0] (lv' := [(0, .ref (llAd G 52)), (1, .int v1_2)]) rfl (fun h => h)
def fx_X4_settle_52_j66_b26 (u : llMem) (v1 : Int32) (t1 : Int32) (t2 : Int32) : Option ((llMem × Int32) ⊕ (llMem)) := gI t1 30 (lt (llSI u 13 (Int32.toNatClampNeg t1) t2) (fun u5 => lt (v1 + 1) (fun v1_6 => some (.inl (u5, v1_6)))))
set_option maxRecDepth 20000 in
theorem t_X4_settle_52_j66_b26 {G : llG} {d : Nat} (u : llMem) (v1 : Int32) (t1 : Int32) (t2 : Int32) : llJ G RX4 cX4_settle 2 none (d + 44) (Sum.elim (fun s' => llJq G 2 26 [(0, .ref (llAd G 52)), (1, .int s'.2)] [] s'.1) (fun e => llJq G 2 73 [] [] e)) 66 [(0, .ref (llAd G 52)), (1, .int v1)] [.int t2, .int t1, .ref (llAd G 13)] u (fx_X4_settle_52_j66_b26 u v1 t1 t2) := by
  unfold fx_X4_settle_52_j66_b26
  refine J_iast dX4_settle_66 sh_13 (fun u5 => ?_)
  refine J_iinc (j := 1) (b := 1) (fun v1_6 => [(1, .int v1_6), (0, .ref (llAd G 52))]) dX4_settle_67 rfl (by decide) (by decide) (fun _ => rfl) (fun v1_6 => ?_)
  refine J_goto (tgt := 26) dX4_settle_70 (by decide) ?_
  exact J_cut [1, 0] (lv' := [(0, .ref (llAd G 52)), (1, .int v1_6)]) rfl (fun h => h)
def fx_X4_settle_52_l26  (s : llMem × Int32) : Option ((llMem × Int32) ⊕ (llMem)) := (if (s.1.1 3 5) ≤ s.2 then some (.inr s.1) else (fx_X5_plays_3 s.1 s.2).bind (fun r4 => (if r4 = 0 then fx_X4_settle_52_j66_b26 s.1 s.2 s.2 ((-1)) else gI s.2 30 (fx_X4_settle_52_j66_b26 s.1 s.2 s.2 (rI s.1 55 s.2)))))
set_option maxRecDepth 20000 in
theorem t_X4_settle_52_l26 {G : llG} {d : Nat}  (s : llMem × Int32) : llJ G RX4 cX4_settle 2 none (d + 44) (Sum.elim (fun s' => llJq G 2 26 [(0, .ref (llAd G 52)), (1, .int s'.2)] [] s'.1) (fun e => llJq G 2 73 [] [] e)) 26 [(0, .ref (llAd G 52)), (1, .int s.2)] [] s.1 (fx_X4_settle_52_l26 s) := by
  unfold fx_X4_settle_52_l26
  refine J_iload_n (j := 1) dX4_settle_26 rfl rfl ?_
  refine J_aload_n (j := 0) dX4_settle_27 rfl rfl ?_
  refine J_getR (b := 3) dX4_settle_28 fl_X4_9 sh_52 rfl ?_
  refine J_getI dX4_settle_31 fl_X4_56 sh_3 rfl ?_
  refine J_icmp_ge (tgt := 73) dX4_settle_34 (by decide) ?_ ?_
  · exact J_cut [] (lv' := []) rfl (fun h => h)
  · refine J_aload_n (j := 0) dX4_settle_37 rfl rfl ?_
    refine J_getR (b := 3) dX4_settle_38 fl_X4_9 sh_52 rfl ?_
    refine J_getR (b := 13) dX4_settle_41 fl_X4_79 sh_3 rfl ?_
    refine J_iload_n (j := 1) dX4_settle_44 rfl rfl ?_
    refine J_aload_n (j := 0) dX4_settle_45 rfl rfl ?_
    refine J_getR (b := 3) dX4_settle_46 fl_X4_9 sh_52 rfl ?_
    refine J_iload_n (j := 1) dX4_settle_49 rfl rfl ?_
    refine J_callVip1 dX4_settle_50 (t_X5_plays_3 (llL G) (llFx G) (d + 42) s.1 s.2) ym_X5_plays wd_884 sh_3 rfl (Nat.le_of_ble_eq_true rfl) (fun r4 => ?_)
    refine J_if_eq (tgt := 65) dX4_settle_53 (by decide) ?_ ?_
    · refine J_iconst (v := (-1)) dX4_settle_65 (by decide) ?_
      refine J_sub [0, 1] (lv' := [(0, .ref (llAd G 52)), (1, .int s.2)]) rfl ?_
      exact t_X4_settle_52_j66_b26 s.1 s.2 s.2 ((-1))
    · refine J_aload_n (j := 0) dX4_settle_56 rfl rfl ?_
      refine J_getR (b := 55) dX4_settle_57 fl_X4_26 sh_52 rfl ?_
      refine J_iload_n (j := 1) dX4_settle_60 rfl rfl ?_
      refine J_iald dX4_settle_61 sh_55 ?_
      refine J_goto (tgt := 66) dX4_settle_62 (by decide) ?_
      refine J_sub [0, 1] (lv' := [(0, .ref (llAd G 52)), (1, .int s.2)]) rfl ?_
      exact t_X4_settle_52_j66_b26 s.1 s.2 s.2 (rI s.1 55 s.2)
def fx_X4_settle_52 (u : llMem)  : Option (llMem × Unit) := (loop (fx_X4_settle_52_l2) llFuel (u, 0)).bind (fun e3 => (loop (fx_X4_settle_52_l26) llFuel (e3, 0)).bind (fun e7 => some (e7, ())))
set_option maxRecDepth 20000 in
theorem tj_X4_settle_52 {G : llG} {d : Nat} (u : llMem)  : llJ G RX4 cX4_settle 2 none (d + 44) (fun r => llRet G (llVd r.2) r.1) 0 [(0, .ref (llAd G 52))] [] u (fx_X4_settle_52 u ) := by
  unfold fx_X4_settle_52
  refine J_iconst (v := 0) dX4_settle_0 (by decide) ?_
  refine J_istore_n [(1, .int 0), (0, .ref (llAd G 52))] dX4_settle_1 rfl (by decide) rfl ?_
  refine J_loopE (fun s' => [(0, .ref (llAd G 52)), (1, .int s'.2)]) (fun s' => s'.1) 24 (fun e => [(0, .ref (llAd G 52))]) (fun e => e) (fun z => t_X4_settle_52_l2 z) [1, 0] rfl rfl (fun e3 => ?_)
  refine J_iconst (v := 0) dX4_settle_24 (by decide) ?_
  refine J_istore_n [(1, .int 0), (0, .ref (llAd G 52))] dX4_settle_25 rfl (by decide) rfl ?_
  refine J_loopE (fun s' => [(0, .ref (llAd G 52)), (1, .int s'.2)]) (fun s' => s'.1) 73 (fun e => []) (fun e => e) (fun z => t_X4_settle_52_l26 z) [1, 0] rfl rfl (fun e7 => ?_)
  exact J_vret dX4_settle_73 (fun h => h)
theorem t_X4_settle_52 (l : Launch) (F : llFix) (d : Nat) (u : llMem)  : llCt l F yX4_settle cX4_settle 2 none (d + 44) [.ref (F.2.2.1 52)] u llVd (fx_X4_settle_52 u ) := llCt.of (by decide +kernel) (by exact Nat.le_of_ble_eq_true rfl) (fun G h1 h2 => by subst h1; subst h2; exact tj_X4_settle_52 u )
def fx_X11_close_0 (u : llMem)  : Option (llMem × Int32) := bd (fx_X3_weigh_63 u ) (fun u1 r2 => (if ¬ r2 = 0 then (fx_X3_risenInAll_63 u1 ).bind (fun r3 => bd (fx_X4_forgetChanged_52_68 u1 ) (fun u4 _ => bd (fx_X3_moveClubs_63 u4 ) (fun u5 _ => bd (fx_X4_settle_52 u5 ) (fun u6 _ => bd (fx_X7_begin_14 u6 ) (fun u7 _ => lt (llSI u7 14 0 ((u7.1 14 0) + 1)) (fun u8 => lt (llSI u8 26 2 0) (fun u9 => some (u9, r3)))))))) else some (u1, (-1))))
set_option maxRecDepth 20000 in
theorem tj_X11_close_0 {G : llG} {d : Nat} (u : llMem)  : llJ G RX11 cX11_close 2 (some .int) (d + 45) (fun r => llRet G (llI r.2) r.1) 0 [(0, .ref (llAd G 0))] [] u (fx_X11_close_0 u ) := by
  unfold fx_X11_close_0
  refine J_aload_n (j := 0) dX11_close_0 rfl rfl ?_
  refine J_getR (b := 63) dX11_close_1 fl_X11_87 sh_0 rfl ?_
  refine J_callVi0 dX11_close_4 (t_X3_weigh_63 (llL G) (llFx G) (d + 40) u ) ym_X3_weigh wd_743 sh_63 rfl (Nat.le_of_ble_eq_true rfl) (fun u1 r2 => ?_)
  refine J_if_ne (tgt := 12) dX11_close_7 (by decide) ?_ ?_
  · refine J_aload_n (j := 0) dX11_close_12 rfl rfl ?_
    refine J_getR (b := 63) dX11_close_13 fl_X11_87 sh_0 rfl ?_
    refine J_callVip0 dX11_close_16 (t_X3_risenInAll_63 (llL G) (llFx G) (d + 43) u1 ) ym_X3_risenInAll wd_830 sh_63 rfl (Nat.le_of_ble_eq_true rfl) (fun r3 => ?_)
    refine J_istore_n [(1, .int r3), (0, .ref (llAd G 0))] dX11_close_19 rfl (by decide) rfl ?_
    refine J_aload_n (j := 1) dX11_close_20 rfl rfl ?_
    refine J_getR (b := 52) dX11_close_21 fl_X11_78 sh_0 rfl ?_
    refine J_aload_n (j := 1) dX11_close_24 rfl rfl ?_
    refine J_getR (b := 63) dX11_close_25 fl_X11_87 sh_0 rfl ?_
    refine J_getR (b := 68) dX11_close_28 fl_X11_189 sh_63 rfl ?_
    refine J_callVv1 dX11_close_31 (t_X4_forgetChanged_52_68 (llL G) (llFx G) (d + 42) u1 ) ym_X4_forgetChanged wd_834 sh_52 rfl (Nat.le_of_ble_eq_true rfl) (fun u4 => ?_)
    refine J_aload_n (j := 1) dX11_close_34 rfl rfl ?_
    refine J_getR (b := 63) dX11_close_35 fl_X11_87 sh_0 rfl ?_
    refine J_callVv0 dX11_close_38 (t_X3_moveClubs_63 (llL G) (llFx G) (d + 44) u4 ) ym_X3_moveClubs wd_843 sh_63 rfl (Nat.le_of_ble_eq_true rfl) (fun u5 => ?_)
    refine J_aload_n (j := 1) dX11_close_41 rfl rfl ?_
    refine J_getR (b := 52) dX11_close_42 fl_X11_78 sh_0 rfl ?_
    refine J_callVv0 dX11_close_45 (t_X4_settle_52 (llL G) (llFx G) d u5 ) ym_X4_settle wd_847 sh_52 rfl (Nat.le_of_ble_eq_true rfl) (fun u6 => ?_)
    refine J_aload_n (j := 1) dX11_close_48 rfl rfl ?_
    refine J_getR (b := 14) dX11_close_49 fl_X11_26 sh_0 rfl ?_
    refine J_callVv0 dX11_close_52 (t_X7_begin_14 (llL G) (llFx G) (d + 41) u6 ) ym_X7_begin wd_635 sh_14 rfl (Nat.le_of_ble_eq_true rfl) (fun u7 => ?_)
    refine J_aload_n (j := 1) dX11_close_55 rfl rfl ?_
    refine J_getR (b := 14) dX11_close_56 fl_X11_26 sh_0 rfl ?_
    refine J_dup dX11_close_59 rfl ?_
    refine J_getI dX11_close_60 fl_X11_118 sh_14 rfl ?_
    refine J_iconst (v := 1) dX11_close_63 (by decide) ?_
    refine J_iadd dX11_close_64 ?_
    refine J_putI dX11_close_65 fl_X11_118 sh_14 rfl (fun u8 => ?_)
    refine J_aload_n (j := 1) dX11_close_68 rfl rfl ?_
    refine J_getR (b := 26) dX11_close_69 fl_X11_35 sh_0 rfl ?_
    refine J_iconst (v := 0) dX11_close_72 (by decide) ?_
    refine J_putI dX11_close_73 fl_X11_121 sh_26 rfl (fun u9 => ?_)
    refine J_iload_n (j := 0) dX11_close_76 rfl rfl ?_
    exact J_iret dX11_close_77 (fun h => h)
  · refine J_iconst (v := (-1)) dX11_close_10 (by decide) ?_
    exact J_iret dX11_close_11 (fun h => h)
theorem t_X11_close_0 (l : Launch) (F : llFix) (d : Nat) (u : llMem)  : llCt l F yX11_close cX11_close 2 (some .int) (d + 45) [.ref (F.2.2.1 0)] u llI (fx_X11_close_0 u ) := llCt.of (by decide +kernel) (by exact Nat.le_of_ble_eq_true rfl) (fun G h1 h2 => by subst h1; subst h2; exact tj_X11_close_0 u )
def fx_X12_goalsAt_69 (u : llMem) (a0 : Int32) (a1 : Int32) : Option Int32 := gI ((120 + (30 * a0)) + a1) 1020 (some (rI u 77 ((120 + (30 * a0)) + a1)))
set_option maxRecDepth 20000 in
theorem tj_X12_goalsAt_69 {G : llG} {d : Nat} (u : llMem) (a0 : Int32) (a1 : Int32) : llJ G RX12 cX12_goalsAt 3 (some .int) d (fun r => llRet G (llI r) u) 0 [(0, .ref (llAd G 69)), (1, .int a0), (2, .int a1)] [] u (fx_X12_goalsAt_69 u a0 a1) := by
  unfold fx_X12_goalsAt_69
  refine J_aload_n (j := 0) dX12_goalsAt_0 rfl rfl ?_
  refine J_getR (b := 77) dX12_goalsAt_1 fl_X12_32 sh_69 rfl ?_
  refine J_bipush (v := 120) dX12_goalsAt_4 (by decide) ?_
  refine J_bipush (v := 30) dX12_goalsAt_6 (by decide) ?_
  refine J_iload_n (j := 1) dX12_goalsAt_8 rfl rfl ?_
  refine J_imul dX12_goalsAt_9 ?_
  refine J_iadd dX12_goalsAt_10 ?_
  refine J_iload_n (j := 2) dX12_goalsAt_11 rfl rfl ?_
  refine J_iadd dX12_goalsAt_12 ?_
  refine J_iald dX12_goalsAt_13 sh_77 ?_
  exact J_iret dX12_goalsAt_14 (fun h => h)
theorem t_X12_goalsAt_69 (l : Launch) (F : llFix) (d : Nat) (u : llMem) (a0 : Int32) (a1 : Int32) : llCp l F yX12_goalsAt cX12_goalsAt 3 (some .int) d [.ref (F.2.2.1 69), .int a0, .int a1] u llI (fx_X12_goalsAt_69 u a0 a1) := llCp.of (by decide +kernel) (by exact Nat.le_of_ble_eq_true rfl) (fun G h1 h2 => by subst h1; subst h2; exact tj_X12_goalsAt_69 u a0 a1)
def fx_X12_sumOf_69_j78_b5 (u : llMem) (v1 : Int32) (v2 : Int32) (v3 : Int32) (v4 : Int32) : Option ((Int32 × Int32) ⊕ (Int32)) := lt (v4 + 1) (fun v4_3 => some (.inl (v3, v4_3)))
set_option maxRecDepth 20000 in
theorem t_X12_sumOf_69_j78_b5 {G : llG} {d : Nat} (u : llMem) (v1 : Int32) (v2 : Int32) (v3 : Int32) (v4 : Int32) : llJ G RX12 cX12_sumOf 6 (some .int) (d + 2) (Sum.elim (fun s' => llJq G 6 5 [(0, .ref (llAd G 69)), (1, .int v1), (2, .int v2), (3, .int s'.1), (4, .int s'.2)] [] u) (fun e => llJq G 6 84 [(3, .int e)] [] u)) 78 [(0, .ref (llAd G 69)), (1, .int v1), (2, .int v2), (3, .int v3), (4, .int v4)] [] u (fx_X12_sumOf_69_j78_b5 u v1 v2 v3 v4) := by
  unfold fx_X12_sumOf_69_j78_b5
  refine J_iinc (j := 4) (b := 1) (fun v4_3 => [(4, .int v4_3), (0, .ref (llAd G 69)), (1, .int v1), (2, .int v2), (3, .int v3)]) dX12_sumOf_78 rfl (by decide) (by decide) (fun _ => rfl) (fun v4_3 => ?_)
  refine J_goto (tgt := 5) dX12_sumOf_81 (by decide) ?_
  exact J_cut [1, 2, 3, 4, 0] (lv' := [(0, .ref (llAd G 69)), (1, .int v1), (2, .int v2), (3, .int v3), (4, .int v4_3)]) rfl (fun h => h)
def fx_X12_partOf_j44 (u : llMem) (t0 : Int32) : Option Int32 := (fx_X12_one u t0).bind (fun r1 => some r1)
set_option maxRecDepth 20000 in
theorem t_X12_partOf_j44 {G : llG} {d : Nat} (u : llMem) (t0 : Int32) : llJ G RX12 cX12_partOf 3 (some .int) (d + 1) (fun r => llRet G (llI r) u) 44 [] [.int t0] u (fx_X12_partOf_j44 u t0) := by
  unfold fx_X12_partOf_j44
  refine J_callSip1 dX12_partOf_44 (t_X12_one (llL G) (llFx G) d u t0) ym_X12_one wd_1439 (Nat.le_of_ble_eq_true rfl) (fun r1 => ?_)
  refine J_goto (tgt := 60) dX12_partOf_47 (by decide) ?_
  exact J_iret dX12_partOf_60 (fun h => h)
def fx_X12_partOf_j23 (u : llMem) (t0 : Int32) : Option Int32 := (fx_X12_one u t0).bind (fun r2 => some r2)
set_option maxRecDepth 20000 in
theorem t_X12_partOf_j23 {G : llG} {d : Nat} (u : llMem) (t0 : Int32) : llJ G RX12 cX12_partOf 3 (some .int) (d + 1) (fun r => llRet G (llI r) u) 23 [] [.int t0] u (fx_X12_partOf_j23 u t0) := by
  unfold fx_X12_partOf_j23
  refine J_callSip1 dX12_partOf_23 (t_X12_one (llL G) (llFx G) d u t0) ym_X12_one wd_1439 (Nat.le_of_ble_eq_true rfl) (fun r2 => ?_)
  refine J_goto (tgt := 60) dX12_partOf_26 (by decide) ?_
  exact J_iret dX12_partOf_60 (fun h => h)
def fx_X12_partOf (u : llMem) (a0 : Int32) (a1 : Int32) (a2 : Int32) : Option Int32 := (if ¬ a2 = 0 then (if ¬ a2 = 1 then (if ¬ a2 = 2 then (if ¬ a2 = 3 then some a1 else some a0) else (if ¬ a0 = a1 then fx_X12_partOf_j44 u 0 else fx_X12_partOf_j44 u 1)) else (if a0 ≤ a1 then fx_X12_partOf_j23 u 0 else fx_X12_partOf_j23 u 1)) else some 1)
set_option maxRecDepth 20000 in
theorem tj_X12_partOf {G : llG} {d : Nat} (u : llMem) (a0 : Int32) (a1 : Int32) (a2 : Int32) : llJ G RX12 cX12_partOf 3 (some .int) (d + 1) (fun r => llRet G (llI r) u) 0 [(0, .int a0), (1, .int a1), (2, .int a2)] [] u (fx_X12_partOf u a0 a1 a2) := by
  unfold fx_X12_partOf
  refine J_iload_n (j := 2) dX12_partOf_0 rfl rfl ?_
  refine J_if_ne (tgt := 8) dX12_partOf_1 (by decide) ?_ ?_
  · refine J_iload_n (j := 2) dX12_partOf_8 rfl rfl ?_
    refine J_iconst (v := 1) dX12_partOf_9 (by decide) ?_
    refine J_icmp_ne (tgt := 29) dX12_partOf_10 (by decide) ?_ ?_
    · refine J_iload_n (j := 2) dX12_partOf_29 rfl rfl ?_
      refine J_iconst (v := 2) dX12_partOf_30 (by decide) ?_
      refine J_icmp_ne (tgt := 50) dX12_partOf_31 (by decide) ?_ ?_
      · refine J_iload_n (j := 2) dX12_partOf_50 rfl rfl ?_
        refine J_iconst (v := 3) dX12_partOf_51 (by decide) ?_
        refine J_icmp_ne (tgt := 59) dX12_partOf_52 (by decide) ?_ ?_
        · refine J_iload_n (j := 1) dX12_partOf_59 rfl rfl ?_
          exact J_iret dX12_partOf_60 (fun h => h)
        · refine J_iload_n (j := 0) dX12_partOf_55 rfl rfl ?_
          refine J_goto (tgt := 60) dX12_partOf_56 (by decide) ?_
          exact J_iret dX12_partOf_60 (fun h => h)
      · refine J_iload_n (j := 0) dX12_partOf_34 rfl rfl ?_
        refine J_iload_n (j := 1) dX12_partOf_35 rfl rfl ?_
        refine J_icmp_ne (tgt := 43) dX12_partOf_36 (by decide) ?_ ?_
        · refine J_iconst (v := 0) dX12_partOf_43 (by decide) ?_
          refine J_sub [] (lv' := []) rfl ?_
          exact t_X12_partOf_j44 u 0
        · refine J_iconst (v := 1) dX12_partOf_39 (by decide) ?_
          refine J_goto (tgt := 44) dX12_partOf_40 (by decide) ?_
          refine J_sub [] (lv' := []) rfl ?_
          exact t_X12_partOf_j44 u 1
    · refine J_iload_n (j := 0) dX12_partOf_13 rfl rfl ?_
      refine J_iload_n (j := 1) dX12_partOf_14 rfl rfl ?_
      refine J_icmp_le (tgt := 22) dX12_partOf_15 (by decide) ?_ ?_
      · refine J_iconst (v := 0) dX12_partOf_22 (by decide) ?_
        refine J_sub [] (lv' := []) rfl ?_
        exact t_X12_partOf_j23 u 0
      · refine J_iconst (v := 1) dX12_partOf_18 (by decide) ?_
        refine J_goto (tgt := 23) dX12_partOf_19 (by decide) ?_
        refine J_sub [] (lv' := []) rfl ?_
        exact t_X12_partOf_j23 u 1
  · refine J_iconst (v := 1) dX12_partOf_4 (by decide) ?_
    refine J_goto (tgt := 60) dX12_partOf_5 (by decide) ?_
    exact J_iret dX12_partOf_60 (fun h => h)
theorem t_X12_partOf (l : Launch) (F : llFix) (d : Nat) (u : llMem) (a0 : Int32) (a1 : Int32) (a2 : Int32) : llCp l F yX12_partOf cX12_partOf 3 (some .int) (d + 1) [.int a0, .int a1, .int a2] u llI (fx_X12_partOf u a0 a1 a2) := llCp.of (by decide +kernel) (by exact Nat.le_of_ble_eq_true rfl) (fun G h1 h2 => by subst h1; subst h2; exact tj_X12_partOf u a0 a1 a2)
def fx_X12_sumOf_69_j46_b5 (u : llMem) (v1 : Int32) (v2 : Int32) (v3 : Int32) (v4 : Int32) : Option ((Int32 × Int32) ⊕ (Int32)) := (fx_X12_goalsAt_69 u v4 v1).bind (fun r2 => (if r2 = ((-1)) then fx_X12_sumOf_69_j78_b5 u v1 v2 v3 v4 else gZ 100 (gZ 100 ((fx_X12_partOf u (r2 - r2 / 100 * 100) (r2 / 100) v2).bind (fun r4 => lt (v3 + r4) (fun v3_5 => fx_X12_sumOf_69_j78_b5 u v1 v2 v3_5 v4))))))
set_option maxRecDepth 20000 in
theorem t_X12_sumOf_69_j46_b5 {G : llG} {d : Nat} (u : llMem) (v1 : Int32) (v2 : Int32) (v3 : Int32) (v4 : Int32) : llJ G RX12 cX12_sumOf 6 (some .int) (d + 2) (Sum.elim (fun s' => llJq G 6 5 [(0, .ref (llAd G 69)), (1, .int v1), (2, .int v2), (3, .int s'.1), (4, .int s'.2)] [] u) (fun e => llJq G 6 84 [(3, .int e)] [] u)) 46 [(0, .ref (llAd G 69)), (1, .int v1), (2, .int v2), (3, .int v3), (4, .int v4)] [] u (fx_X12_sumOf_69_j46_b5 u v1 v2 v3 v4) := by
  unfold fx_X12_sumOf_69_j46_b5
  refine J_aload_n (j := 0) dX12_sumOf_46 rfl rfl ?_
  refine J_iload (j := 4) dX12_sumOf_47 rfl ?_
  refine J_iload_n (j := 1) dX12_sumOf_49 rfl rfl ?_
  refine J_callVip2 dX12_sumOf_50 (t_X12_goalsAt_69 (llL G) (llFx G) (d + 1) u v4 v1) ym_X12_goalsAt wd_1529 sh_69 rfl (Nat.le_of_ble_eq_true rfl) (fun r2 => ?_)
  refine J_istore [(5, .int r2), (0, .ref (llAd G 69)), (1, .int v1), (2, .int v2), (3, .int v3), (4, .int v4)] dX12_sumOf_53 (by decide) rfl ?_
  refine J_iload (j := 0) dX12_sumOf_55 rfl ?_
  refine J_iconst (v := (-1)) dX12_sumOf_57 (by decide) ?_
  refine J_icmp_eq (tgt := 78) dX12_sumOf_58 (by decide) ?_ ?_
  · refine J_sub [1, 2, 3, 4, 5] (lv' := [(0, .ref (llAd G 69)), (1, .int v1), (2, .int v2), (3, .int v3), (4, .int v4)]) rfl ?_
    exact t_X12_sumOf_69_j78_b5 u v1 v2 v3 v4
  · refine J_iload_n (j := 4) dX12_sumOf_61 rfl rfl ?_
    refine J_iload (j := 0) dX12_sumOf_62 rfl ?_
    refine J_bipush (v := 100) dX12_sumOf_64 (by decide) ?_
    refine J_irem dX12_sumOf_66 ?_
    refine J_iload (j := 0) dX12_sumOf_67 rfl ?_
    refine J_bipush (v := 100) dX12_sumOf_69 (by decide) ?_
    refine J_idiv dX12_sumOf_71 ?_
    refine J_iload_n (j := 3) dX12_sumOf_72 rfl rfl ?_
    refine J_callSip3 dX12_sumOf_73 (t_X12_partOf (llL G) (llFx G) d u (r2 - r2 / 100 * 100) (r2 / 100) v2) ym_X12_partOf wd_1533 (Nat.le_of_ble_eq_true rfl) (fun r4 => ?_)
    refine J_iadd dX12_sumOf_76 ?_
    refine J_istore_nL (fun v3_5 => [(3, .int v3_5), (5, .int r2), (0, .ref (llAd G 69)), (1, .int v1), (2, .int v2), (4, .int v4)]) dX12_sumOf_77 rfl (by decide) (fun _ => rfl) (fun v3_5 => ?_)
    refine J_sub [2, 3, 4, 0, 5] (lv' := [(0, .ref (llAd G 69)), (1, .int v1), (2, .int v2), (3, .int v3_5), (4, .int v4)]) rfl ?_
    exact t_X12_sumOf_69_j78_b5 u v1 v2 v3_5 v4
def fx_X12_sumOf_69_l5 (u : llMem) (v1 : Int32) (v2 : Int32) (s : Int32 × Int32) : Option ((Int32 × Int32) ⊕ (Int32)) := (if (u.1 69 9) ≤ s.2 then some (.inr s.1) else (fx_X12_goalsAt_69 u v1 s.2).bind (fun r1 => (if r1 = ((-1)) then fx_X12_sumOf_69_j46_b5 u v1 v2 s.1 s.2 else gZ 100 (gZ 100 ((fx_X12_partOf u (r1 / 100) (r1 - r1 / 100 * 100) v2).bind (fun r6 => lt (s.1 + r6) (fun v3_7 => fx_X12_sumOf_69_j46_b5 u v1 v2 v3_7 s.2)))))))
set_option maxRecDepth 20000 in
theorem t_X12_sumOf_69_l5 {G : llG} {d : Nat} (u : llMem) (v1 : Int32) (v2 : Int32) (s : Int32 × Int32) : llJ G RX12 cX12_sumOf 6 (some .int) (d + 2) (Sum.elim (fun s' => llJq G 6 5 [(0, .ref (llAd G 69)), (1, .int v1), (2, .int v2), (3, .int s'.1), (4, .int s'.2)] [] u) (fun e => llJq G 6 84 [(3, .int e)] [] u)) 5 [(0, .ref (llAd G 69)), (1, .int v1), (2, .int v2), (3, .int s.1), (4, .int s.2)] [] u (fx_X12_sumOf_69_l5 u v1 v2 s) := by
  unfold fx_X12_sumOf_69_l5
  refine J_iload (j := 4) dX12_sumOf_5 rfl ?_
  refine J_aload_n (j := 0) dX12_sumOf_7 rfl rfl ?_
  refine J_getI dX12_sumOf_8 fl_X12_263 sh_69 rfl ?_
  refine J_icmp_ge (tgt := 84) dX12_sumOf_11 (by decide) ?_ ?_
  · exact J_cut [3] (lv' := [(3, .int s.1)]) rfl (fun h => h)
  · refine J_aload_n (j := 0) dX12_sumOf_14 rfl rfl ?_
    refine J_iload_n (j := 1) dX12_sumOf_15 rfl rfl ?_
    refine J_iload (j := 4) dX12_sumOf_16 rfl ?_
    refine J_callVip2 dX12_sumOf_18 (t_X12_goalsAt_69 (llL G) (llFx G) (d + 1) u v1 s.2) ym_X12_goalsAt wd_1529 sh_69 rfl (Nat.le_of_ble_eq_true rfl) (fun r1 => ?_)
    refine J_istore [(5, .int r1), (0, .ref (llAd G 69)), (1, .int v1), (2, .int v2), (3, .int s.1), (4, .int s.2)] dX12_sumOf_21 (by decide) rfl ?_
    refine J_iload (j := 0) dX12_sumOf_23 rfl ?_
    refine J_iconst (v := (-1)) dX12_sumOf_25 (by decide) ?_
    refine J_icmp_eq (tgt := 46) dX12_sumOf_26 (by decide) ?_ ?_
    · refine J_sub [1, 2, 3, 4, 5] (lv' := [(0, .ref (llAd G 69)), (1, .int v1), (2, .int v2), (3, .int s.1), (4, .int s.2)]) rfl ?_
      exact t_X12_sumOf_69_j46_b5 u v1 v2 s.1 s.2
    · refine J_iload_n (j := 4) dX12_sumOf_29 rfl rfl ?_
      refine J_iload (j := 0) dX12_sumOf_30 rfl ?_
      refine J_bipush (v := 100) dX12_sumOf_32 (by decide) ?_
      refine J_idiv dX12_sumOf_34 ?_
      refine J_iload (j := 0) dX12_sumOf_35 rfl ?_
      refine J_bipush (v := 100) dX12_sumOf_37 (by decide) ?_
      refine J_irem dX12_sumOf_39 ?_
      refine J_iload_n (j := 3) dX12_sumOf_40 rfl rfl ?_
      refine J_callSip3 dX12_sumOf_41 (t_X12_partOf (llL G) (llFx G) d u (r1 / 100) (r1 - r1 / 100 * 100) v2) ym_X12_partOf wd_1533 (Nat.le_of_ble_eq_true rfl) (fun r6 => ?_)
      refine J_iadd dX12_sumOf_44 ?_
      refine J_istore_nL (fun v3_7 => [(3, .int v3_7), (5, .int r1), (0, .ref (llAd G 69)), (1, .int v1), (2, .int v2), (4, .int s.2)]) dX12_sumOf_45 rfl (by decide) (fun _ => rfl) (fun v3_7 => ?_)
      refine J_sub [2, 3, 4, 0, 5] (lv' := [(0, .ref (llAd G 69)), (1, .int v1), (2, .int v2), (3, .int v3_7), (4, .int s.2)]) rfl ?_
      exact t_X12_sumOf_69_j46_b5 u v1 v2 v3_7 s.2
def fx_X12_sumOf_69 (u : llMem) (a0 : Int32) (a1 : Int32) : Option Int32 := (loop (fx_X12_sumOf_69_l5 u a0 a1) llFuel (0, 0)).bind (fun e8 => some e8)
set_option maxRecDepth 20000 in
theorem tj_X12_sumOf_69 {G : llG} {d : Nat} (u : llMem) (a0 : Int32) (a1 : Int32) : llJ G RX12 cX12_sumOf 6 (some .int) (d + 2) (fun r => llRet G (llI r) u) 0 [(0, .ref (llAd G 69)), (1, .int a0), (2, .int a1)] [] u (fx_X12_sumOf_69 u a0 a1) := by
  unfold fx_X12_sumOf_69
  refine J_iconst (v := 0) dX12_sumOf_0 (by decide) ?_
  refine J_istore_n [(3, .int 0), (0, .ref (llAd G 69)), (1, .int a0), (2, .int a1)] dX12_sumOf_1 rfl (by decide) rfl ?_
  refine J_iconst (v := 0) dX12_sumOf_2 (by decide) ?_
  refine J_istore [(4, .int 0), (3, .int 0), (0, .ref (llAd G 69)), (1, .int a0), (2, .int a1)] dX12_sumOf_3 (by decide) rfl ?_
  refine J_loopE (fun s' => [(0, .ref (llAd G 69)), (1, .int a0), (2, .int a1), (3, .int s'.1), (4, .int s'.2)]) (fun s' => u) 84 (fun e => [(3, .int e)]) (fun e => u) (fun z => t_X12_sumOf_69_l5 u a0 a1 z) [2, 3, 4, 1, 0] rfl rfl (fun e8 => ?_)
  refine J_iload_n (j := 0) dX12_sumOf_84 rfl rfl ?_
  exact J_iret dX12_sumOf_85 (fun h => h)
theorem t_X12_sumOf_69 (l : Launch) (F : llFix) (d : Nat) (u : llMem) (a0 : Int32) (a1 : Int32) : llCp l F yX12_sumOf cX12_sumOf 6 (some .int) (d + 2) [.ref (F.2.2.1 69), .int a0, .int a1] u llI (fx_X12_sumOf_69 u a0 a1) := llCp.of (by decide +kernel) (by exact Nat.le_of_ble_eq_true rfl) (fun G h1 h2 => by subst h1; subst h2; exact tj_X12_sumOf_69 u a0 a1)
def fx_X12_pointsOf_69 (u : llMem) (a0 : Int32) : Option Int32 := (fx_X12_sumOf_69 u a0 1).bind (fun r1 => (fx_X12_sumOf_69 u a0 2).bind (fun r2 => gI (90 + a0) 1020 (some (((3 * r1) + r2) - (rI u 77 (90 + a0))))))
set_option maxRecDepth 20000 in
theorem tj_X12_pointsOf_69 {G : llG} {d : Nat} (u : llMem) (a0 : Int32) : llJ G RX12 cX12_pointsOf 2 (some .int) (d + 3) (fun r => llRet G (llI r) u) 0 [(0, .ref (llAd G 69)), (1, .int a0)] [] u (fx_X12_pointsOf_69 u a0) := by
  unfold fx_X12_pointsOf_69
  refine J_iconst (v := 3) dX12_pointsOf_0 (by decide) ?_
  refine J_aload_n (j := 0) dX12_pointsOf_1 rfl rfl ?_
  refine J_iload_n (j := 1) dX12_pointsOf_2 rfl rfl ?_
  refine J_iconst (v := 1) dX12_pointsOf_3 (by decide) ?_
  refine J_callVip2 dX12_pointsOf_4 (t_X12_sumOf_69 (llL G) (llFx G) d u a0 1) ym_X12_sumOf wd_1525 sh_69 rfl (Nat.le_of_ble_eq_true rfl) (fun r1 => ?_)
  refine J_imul dX12_pointsOf_7 ?_
  refine J_aload_n (j := 0) dX12_pointsOf_8 rfl rfl ?_
  refine J_iload_n (j := 1) dX12_pointsOf_9 rfl rfl ?_
  refine J_iconst (v := 2) dX12_pointsOf_10 (by decide) ?_
  refine J_callVip2 dX12_pointsOf_11 (t_X12_sumOf_69 (llL G) (llFx G) d u a0 2) ym_X12_sumOf wd_1525 sh_69 rfl (Nat.le_of_ble_eq_true rfl) (fun r2 => ?_)
  refine J_iadd dX12_pointsOf_14 ?_
  refine J_aload_n (j := 0) dX12_pointsOf_15 rfl rfl ?_
  refine J_getR (b := 77) dX12_pointsOf_16 fl_X12_32 sh_69 rfl ?_
  refine J_bipush (v := 90) dX12_pointsOf_19 (by decide) ?_
  refine J_iload_n (j := 1) dX12_pointsOf_21 rfl rfl ?_
  refine J_iadd dX12_pointsOf_22 ?_
  refine J_iald dX12_pointsOf_23 sh_77 ?_
  refine J_isub dX12_pointsOf_24 ?_
  exact J_iret dX12_pointsOf_25 (fun h => h)
theorem t_X12_pointsOf_69 (l : Launch) (F : llFix) (d : Nat) (u : llMem) (a0 : Int32) : llCp l F yX12_pointsOf cX12_pointsOf 2 (some .int) (d + 3) [.ref (F.2.2.1 69), .int a0] u llI (fx_X12_pointsOf_69 u a0) := llCp.of (by decide +kernel) (by exact Nat.le_of_ble_eq_true rfl) (fun G h1 h2 => by subst h1; subst h2; exact tj_X12_pointsOf_69 u a0)
def fx_X12_averageOf_69 (u : llMem) (a0 : Int32) : Option UInt32 := (fx_X12_sumOf_69 u a0 0).bind (fun r1 => (if ¬ r1 = 0 then (fx_X12_pointsOf_69 u a0).bind (fun r2 => g32 (FP.fdiv (FP.i2f r2) (FP.i2f r1)) (some (FP.fdiv (FP.i2f r2) (FP.i2f r1)))) else some FP.fconst0))
set_option maxRecDepth 20000 in
theorem tj_X12_averageOf_69 {G : llG} {d : Nat} (u : llMem) (a0 : Int32) : llJ G RX12 cX12_averageOf 3 (some .float) (d + 4) (fun r => llRet G (llFl r) u) 0 [(0, .ref (llAd G 69)), (1, .int a0)] [] u (fx_X12_averageOf_69 u a0) := by
  unfold fx_X12_averageOf_69
  refine J_aload_n (j := 0) dX12_averageOf_0 rfl rfl ?_
  refine J_iload_n (j := 1) dX12_averageOf_1 rfl rfl ?_
  refine J_iconst (v := 0) dX12_averageOf_2 (by decide) ?_
  refine J_callVip2 dX12_averageOf_3 (t_X12_sumOf_69 (llL G) (llFx G) (d + 1) u a0 0) ym_X12_sumOf wd_1525 sh_69 rfl (Nat.le_of_ble_eq_true rfl) (fun r1 => ?_)
  refine J_istore_n [(2, .int r1), (0, .ref (llAd G 69)), (1, .int a0)] dX12_averageOf_6 rfl (by decide) rfl ?_
  refine J_iload_n (j := 0) dX12_averageOf_7 rfl rfl ?_
  refine J_if_ne (tgt := 15) dX12_averageOf_8 (by decide) ?_ ?_
  · refine J_aload_n (j := 1) dX12_averageOf_15 rfl rfl ?_
    refine J_iload_n (j := 2) dX12_averageOf_16 rfl rfl ?_
    refine J_callVip1 dX12_averageOf_17 (t_X12_pointsOf_69 (llL G) (llFx G) d u a0) ym_X12_pointsOf wd_1521 sh_69 rfl (Nat.le_of_ble_eq_true rfl) (fun r2 => ?_)
    refine J_i2f dX12_averageOf_20 ?_
    refine J_iload_n (j := 0) dX12_averageOf_21 rfl rfl ?_
    refine J_i2f dX12_averageOf_22 ?_
    refine J_fdiv dX12_averageOf_23 ?_
    exact J_fret dX12_averageOf_24 (fun h => h)
  · refine J_fconst0 dX12_averageOf_11 ?_
    refine J_goto (tgt := 24) dX12_averageOf_12 (by decide) ?_
    exact J_fret dX12_averageOf_24 (fun h => h)
theorem t_X12_averageOf_69 (l : Launch) (F : llFix) (d : Nat) (u : llMem) (a0 : Int32) : llCp l F yX12_averageOf cX12_averageOf 3 (some .float) (d + 4) [.ref (F.2.2.1 69), .int a0] u llFl (fx_X12_averageOf_69 u a0) := llCp.of (by decide +kernel) (by exact Nat.le_of_ble_eq_true rfl) (fun G h1 h2 => by subst h1; subst h2; exact tj_X12_averageOf_69 u a0)
def fx_X12_laysRanks_69_l2  (s : llMem × Int32) : Option ((llMem × Int32) ⊕ (llMem)) := (if (s.1.1 69 9) ≤ s.2 then some (.inr s.1) else (fx_X12_pointsOf_69 s.1 s.2).bind (fun r1 => gI s.2 30 (lt (llSI s.1 81 (Int32.toNatClampNeg s.2) r1) (fun u2 => (fx_X12_sumOf_69 u2 s.2 3).bind (fun r3 => gI s.2 30 (lt (llSI u2 83 (Int32.toNatClampNeg s.2) r3) (fun u4 => gI s.2 30 ((fx_X12_sumOf_69 u4 s.2 4).bind (fun r5 => gI s.2 30 (lt (llSI u4 82 (Int32.toNatClampNeg s.2) ((rI u4 83 s.2) - r5)) (fun u6 => (fx_X12_averageOf_69 u6 s.2).bind (fun r7 => gI s.2 30 (lt (llSF u6 85 (Int32.toNatClampNeg s.2) r7) (fun u8 => lt (s.2 + 1) (fun v1_9 => some (.inl (u8, v1_9)))))))))))))))))
set_option maxRecDepth 20000 in
theorem t_X12_laysRanks_69_l2 {G : llG} {d : Nat}  (s : llMem × Int32) : llJ G RX12 cX12_laysRanks 3 none (d + 5) (Sum.elim (fun s' => llJq G 3 2 [(0, .ref (llAd G 69)), (1, .int s'.2)] [] s'.1) (fun e => llJq G 3 69 [(0, .ref (llAd G 69))] [] e)) 2 [(0, .ref (llAd G 69)), (1, .int s.2)] [] s.1 (fx_X12_laysRanks_69_l2 s) := by
  unfold fx_X12_laysRanks_69_l2
  refine J_iload_n (j := 1) dX12_laysRanks_2 rfl rfl ?_
  refine J_aload_n (j := 0) dX12_laysRanks_3 rfl rfl ?_
  refine J_getI dX12_laysRanks_4 fl_X12_263 sh_69 rfl ?_
  refine J_icmp_ge (tgt := 69) dX12_laysRanks_7 (by decide) ?_ ?_
  · exact J_cut [0] (lv' := [(0, .ref (llAd G 69))]) rfl (fun h => h)
  · refine J_aload_n (j := 0) dX12_laysRanks_10 rfl rfl ?_
    refine J_getR (b := 81) dX12_laysRanks_11 fl_X12_48 sh_69 rfl ?_
    refine J_iload_n (j := 1) dX12_laysRanks_14 rfl rfl ?_
    refine J_aload_n (j := 0) dX12_laysRanks_15 rfl rfl ?_
    refine J_iload_n (j := 1) dX12_laysRanks_16 rfl rfl ?_
    refine J_callVip1 dX12_laysRanks_17 (t_X12_pointsOf_69 (llL G) (llFx G) (d + 1) s.1 s.2) ym_X12_pointsOf wd_1521 sh_69 rfl (Nat.le_of_ble_eq_true rfl) (fun r1 => ?_)
    refine J_iast dX12_laysRanks_20 sh_81 (fun u2 => ?_)
    refine J_aload_n (j := 0) dX12_laysRanks_21 rfl rfl ?_
    refine J_getR (b := 83) dX12_laysRanks_22 fl_X12_54 sh_69 rfl ?_
    refine J_iload_n (j := 1) dX12_laysRanks_25 rfl rfl ?_
    refine J_aload_n (j := 0) dX12_laysRanks_26 rfl rfl ?_
    refine J_iload_n (j := 1) dX12_laysRanks_27 rfl rfl ?_
    refine J_iconst (v := 3) dX12_laysRanks_28 (by decide) ?_
    refine J_callVip2 dX12_laysRanks_29 (t_X12_sumOf_69 (llL G) (llFx G) (d + 2) u2 s.2 3) ym_X12_sumOf wd_1525 sh_69 rfl (Nat.le_of_ble_eq_true rfl) (fun r3 => ?_)
    refine J_iast dX12_laysRanks_32 sh_83 (fun u4 => ?_)
    refine J_aload_n (j := 0) dX12_laysRanks_33 rfl rfl ?_
    refine J_getR (b := 82) dX12_laysRanks_34 fl_X12_51 sh_69 rfl ?_
    refine J_iload_n (j := 1) dX12_laysRanks_37 rfl rfl ?_
    refine J_aload_n (j := 0) dX12_laysRanks_38 rfl rfl ?_
    refine J_getR (b := 83) dX12_laysRanks_39 fl_X12_54 sh_69 rfl ?_
    refine J_iload_n (j := 1) dX12_laysRanks_42 rfl rfl ?_
    refine J_iald dX12_laysRanks_43 sh_83 ?_
    refine J_aload_n (j := 0) dX12_laysRanks_44 rfl rfl ?_
    refine J_iload_n (j := 1) dX12_laysRanks_45 rfl rfl ?_
    refine J_iconst (v := 4) dX12_laysRanks_46 (by decide) ?_
    refine J_callVip2 dX12_laysRanks_47 (t_X12_sumOf_69 (llL G) (llFx G) (d + 2) u4 s.2 4) ym_X12_sumOf wd_1525 sh_69 rfl (Nat.le_of_ble_eq_true rfl) (fun r5 => ?_)
    refine J_isub dX12_laysRanks_50 ?_
    refine J_iast dX12_laysRanks_51 sh_82 (fun u6 => ?_)
    refine J_aload_n (j := 0) dX12_laysRanks_52 rfl rfl ?_
    refine J_getR (b := 85) dX12_laysRanks_53 fl_X12_60 sh_69 rfl ?_
    refine J_iload_n (j := 1) dX12_laysRanks_56 rfl rfl ?_
    refine J_aload_n (j := 0) dX12_laysRanks_57 rfl rfl ?_
    refine J_iload_n (j := 1) dX12_laysRanks_58 rfl rfl ?_
    refine J_callVfp1 dX12_laysRanks_59 (t_X12_averageOf_69 (llL G) (llFx G) d u6 s.2) ym_X12_averageOf wd_1536 sh_69 rfl (Nat.le_of_ble_eq_true rfl) (fun r7 => ?_)
    refine J_fast dX12_laysRanks_62 sh_85 (fun u8 => ?_)
    refine J_iinc (j := 1) (b := 1) (fun v1_9 => [(1, .int v1_9), (0, .ref (llAd G 69))]) dX12_laysRanks_63 rfl (by decide) (by decide) (fun _ => rfl) (fun v1_9 => ?_)
    refine J_goto (tgt := 2) dX12_laysRanks_66 (by decide) ?_
    exact J_cut [1, 0] (lv' := [(0, .ref (llAd G 69)), (1, .int v1_9)]) rfl (fun h => h)
def fx_X12_laysRanks_69_j131_b88_b71 (u : llMem) (v1 : Int32) (v2 : Int32) (t1 : Int32) (t2 : Int32) (t3 : Int32) : Option ((llMem × Int32) ⊕ (llMem)) := (fx_X12_one u t3).bind (fun r12 => gI t1 30 (lt (llSI u 84 (Int32.toNatClampNeg t1) (t2 + r12)) (fun u13 => lt (v2 + 1) (fun v2_14 => some (.inl (u13, v2_14))))))
set_option maxRecDepth 20000 in
theorem t_X12_laysRanks_69_j131_b88_b71 {G : llG} {d : Nat} (u : llMem) (v1 : Int32) (v2 : Int32) (t1 : Int32) (t2 : Int32) (t3 : Int32) : llJ G RX12 cX12_laysRanks 3 none (d + 5) (Sum.elim (fun s' => llJq G 3 88 [(0, .ref (llAd G 69)), (1, .int v1), (2, .int s'.2)] [] s'.1) (fun e => llJq G 3 142 [(0, .ref (llAd G 69)), (1, .int v1)] [] e)) 131 [(0, .ref (llAd G 69)), (1, .int v1), (2, .int v2)] [.int t3, .int t2, .int t1, .ref (llAd G 84)] u (fx_X12_laysRanks_69_j131_b88_b71 u v1 v2 t1 t2 t3) := by
  unfold fx_X12_laysRanks_69_j131_b88_b71
  refine J_callSip1 dX12_laysRanks_131 (t_X12_one (llL G) (llFx G) (d + 4) u t3) ym_X12_one wd_1439 (Nat.le_of_ble_eq_true rfl) (fun r12 => ?_)
  refine J_iadd dX12_laysRanks_134 ?_
  refine J_iast dX12_laysRanks_135 sh_84 (fun u13 => ?_)
  refine J_iinc (j := 2) (b := 1) (fun v2_14 => [(2, .int v2_14), (0, .ref (llAd G 69)), (1, .int v1)]) dX12_laysRanks_136 rfl (by decide) (by decide) (fun _ => rfl) (fun v2_14 => ?_)
  refine J_goto (tgt := 88) dX12_laysRanks_139 (by decide) ?_
  exact J_cut [1, 2, 0] (lv' := [(0, .ref (llAd G 69)), (1, .int v1), (2, .int v2_14)]) rfl (fun h => h)
def fx_X12_laysRanks_69_j130_b88_b71 (u : llMem) (v1 : Int32) (v2 : Int32) (t1 : Int32) (t2 : Int32) : Option ((llMem × Int32) ⊕ (llMem)) := fx_X12_laysRanks_69_j131_b88_b71 u v1 v2 t1 t2 0
set_option maxRecDepth 20000 in
theorem t_X12_laysRanks_69_j130_b88_b71 {G : llG} {d : Nat} (u : llMem) (v1 : Int32) (v2 : Int32) (t1 : Int32) (t2 : Int32) : llJ G RX12 cX12_laysRanks 3 none (d + 5) (Sum.elim (fun s' => llJq G 3 88 [(0, .ref (llAd G 69)), (1, .int v1), (2, .int s'.2)] [] s'.1) (fun e => llJq G 3 142 [(0, .ref (llAd G 69)), (1, .int v1)] [] e)) 130 [(0, .ref (llAd G 69)), (1, .int v1), (2, .int v2)] [.int t2, .int t1, .ref (llAd G 84)] u (fx_X12_laysRanks_69_j130_b88_b71 u v1 v2 t1 t2) := by
  unfold fx_X12_laysRanks_69_j130_b88_b71
  refine J_iconst (v := 0) dX12_laysRanks_130 (by decide) ?_
  refine J_sub [0, 1, 2] (lv' := [(0, .ref (llAd G 69)), (1, .int v1), (2, .int v2)]) rfl ?_
  exact t_X12_laysRanks_69_j131_b88_b71 u v1 v2 t1 t2 0
def fx_X12_isAhead_69 (u : llMem) (a0 : Int32) (a1 : Int32) : Option Int32 := gI a0 30 (gI a1 30 ((if (rI u 81 a0) = (rI u 81 a1) then gI a0 30 (gI a1 30 ((if (rI u 82 a0) = (rI u 82 a1) then gI a0 30 (gI a1 30 ((if ¬ (rI u 83 a0) = (rI u 83 a1) then gI a0 30 (gI a1 30 ((if (rI u 83 a0) ≤ (rI u 83 a1) then gB 0 (some 0) else gB 1 (some 1)))) else (if a1 ≤ a0 then gB 0 (some 0) else gB 1 (some 1))))) else gI a0 30 (gI a1 30 ((if (rI u 82 a0) ≤ (rI u 82 a1) then gB 0 (some 0) else gB 1 (some 1))))))) else gI a0 30 (gI a1 30 ((if (rI u 81 a0) ≤ (rI u 81 a1) then gB 0 (some 0) else gB 1 (some 1)))))))
set_option maxRecDepth 20000 in
theorem tj_X12_isAhead_69 {G : llG} {d : Nat} (u : llMem) (a0 : Int32) (a1 : Int32) : llJ G RX12 cX12_isAhead 3 (some .boolean) d (fun r => llRet G (llI r) u) 0 [(0, .ref (llAd G 69)), (1, .int a0), (2, .int a1)] [] u (fx_X12_isAhead_69 u a0 a1) := by
  unfold fx_X12_isAhead_69
  refine J_aload_n (j := 0) dX12_isAhead_0 rfl rfl ?_
  refine J_getR (b := 81) dX12_isAhead_1 fl_X12_48 sh_69 rfl ?_
  refine J_iload_n (j := 1) dX12_isAhead_4 rfl rfl ?_
  refine J_iald dX12_isAhead_5 sh_81 ?_
  refine J_aload_n (j := 0) dX12_isAhead_6 rfl rfl ?_
  refine J_getR (b := 81) dX12_isAhead_7 fl_X12_48 sh_69 rfl ?_
  refine J_iload_n (j := 2) dX12_isAhead_10 rfl rfl ?_
  refine J_iald dX12_isAhead_11 sh_81 ?_
  refine J_icmp_eq (tgt := 36) dX12_isAhead_12 (by decide) ?_ ?_
  · refine J_aload_n (j := 0) dX12_isAhead_36 rfl rfl ?_
    refine J_getR (b := 82) dX12_isAhead_37 fl_X12_51 sh_69 rfl ?_
    refine J_iload_n (j := 1) dX12_isAhead_40 rfl rfl ?_
    refine J_iald dX12_isAhead_41 sh_82 ?_
    refine J_aload_n (j := 0) dX12_isAhead_42 rfl rfl ?_
    refine J_getR (b := 82) dX12_isAhead_43 fl_X12_51 sh_69 rfl ?_
    refine J_iload_n (j := 2) dX12_isAhead_46 rfl rfl ?_
    refine J_iald dX12_isAhead_47 sh_82 ?_
    refine J_icmp_eq (tgt := 72) dX12_isAhead_48 (by decide) ?_ ?_
    · refine J_aload_n (j := 0) dX12_isAhead_72 rfl rfl ?_
      refine J_getR (b := 83) dX12_isAhead_73 fl_X12_54 sh_69 rfl ?_
      refine J_iload_n (j := 1) dX12_isAhead_76 rfl rfl ?_
      refine J_iald dX12_isAhead_77 sh_83 ?_
      refine J_aload_n (j := 0) dX12_isAhead_78 rfl rfl ?_
      refine J_getR (b := 83) dX12_isAhead_79 fl_X12_54 sh_69 rfl ?_
      refine J_iload_n (j := 2) dX12_isAhead_82 rfl rfl ?_
      refine J_iald dX12_isAhead_83 sh_83 ?_
      refine J_icmp_ne (tgt := 100) dX12_isAhead_84 (by decide) ?_ ?_
      · refine J_aload_n (j := 0) dX12_isAhead_100 rfl rfl ?_
        refine J_getR (b := 83) dX12_isAhead_101 fl_X12_54 sh_69 rfl ?_
        refine J_iload_n (j := 1) dX12_isAhead_104 rfl rfl ?_
        refine J_iald dX12_isAhead_105 sh_83 ?_
        refine J_aload_n (j := 0) dX12_isAhead_106 rfl rfl ?_
        refine J_getR (b := 83) dX12_isAhead_107 fl_X12_54 sh_69 rfl ?_
        refine J_iload_n (j := 2) dX12_isAhead_110 rfl rfl ?_
        refine J_iald dX12_isAhead_111 sh_83 ?_
        refine J_icmp_le (tgt := 119) dX12_isAhead_112 (by decide) ?_ ?_
        · refine J_iconst (v := 0) dX12_isAhead_119 (by decide) ?_
          exact J_zret dX12_isAhead_120 (fun h => h)
        · refine J_iconst (v := 1) dX12_isAhead_115 (by decide) ?_
          refine J_goto (tgt := 120) dX12_isAhead_116 (by decide) ?_
          exact J_zret dX12_isAhead_120 (fun h => h)
      · refine J_iload_n (j := 1) dX12_isAhead_87 rfl rfl ?_
        refine J_iload_n (j := 2) dX12_isAhead_88 rfl rfl ?_
        refine J_icmp_ge (tgt := 96) dX12_isAhead_89 (by decide) ?_ ?_
        · refine J_iconst (v := 0) dX12_isAhead_96 (by decide) ?_
          refine J_goto (tgt := 120) dX12_isAhead_97 (by decide) ?_
          exact J_zret dX12_isAhead_120 (fun h => h)
        · refine J_iconst (v := 1) dX12_isAhead_92 (by decide) ?_
          refine J_goto (tgt := 120) dX12_isAhead_93 (by decide) ?_
          exact J_zret dX12_isAhead_120 (fun h => h)
    · refine J_aload_n (j := 0) dX12_isAhead_51 rfl rfl ?_
      refine J_getR (b := 82) dX12_isAhead_52 fl_X12_51 sh_69 rfl ?_
      refine J_iload_n (j := 1) dX12_isAhead_55 rfl rfl ?_
      refine J_iald dX12_isAhead_56 sh_82 ?_
      refine J_aload_n (j := 0) dX12_isAhead_57 rfl rfl ?_
      refine J_getR (b := 82) dX12_isAhead_58 fl_X12_51 sh_69 rfl ?_
      refine J_iload_n (j := 2) dX12_isAhead_61 rfl rfl ?_
      refine J_iald dX12_isAhead_62 sh_82 ?_
      refine J_icmp_le (tgt := 70) dX12_isAhead_63 (by decide) ?_ ?_
      · refine J_iconst (v := 0) dX12_isAhead_70 (by decide) ?_
        exact J_zret dX12_isAhead_71 (fun h => h)
      · refine J_iconst (v := 1) dX12_isAhead_66 (by decide) ?_
        refine J_goto (tgt := 71) dX12_isAhead_67 (by decide) ?_
        exact J_zret dX12_isAhead_71 (fun h => h)
  · refine J_aload_n (j := 0) dX12_isAhead_15 rfl rfl ?_
    refine J_getR (b := 81) dX12_isAhead_16 fl_X12_48 sh_69 rfl ?_
    refine J_iload_n (j := 1) dX12_isAhead_19 rfl rfl ?_
    refine J_iald dX12_isAhead_20 sh_81 ?_
    refine J_aload_n (j := 0) dX12_isAhead_21 rfl rfl ?_
    refine J_getR (b := 81) dX12_isAhead_22 fl_X12_48 sh_69 rfl ?_
    refine J_iload_n (j := 2) dX12_isAhead_25 rfl rfl ?_
    refine J_iald dX12_isAhead_26 sh_81 ?_
    refine J_icmp_le (tgt := 34) dX12_isAhead_27 (by decide) ?_ ?_
    · refine J_iconst (v := 0) dX12_isAhead_34 (by decide) ?_
      exact J_zret dX12_isAhead_35 (fun h => h)
    · refine J_iconst (v := 1) dX12_isAhead_30 (by decide) ?_
      refine J_goto (tgt := 35) dX12_isAhead_31 (by decide) ?_
      exact J_zret dX12_isAhead_35 (fun h => h)
theorem t_X12_isAhead_69 (l : Launch) (F : llFix) (d : Nat) (u : llMem) (a0 : Int32) (a1 : Int32) : llCp l F yX12_isAhead cX12_isAhead 3 (some .boolean) d [.ref (F.2.2.1 69), .int a0, .int a1] u llI (fx_X12_isAhead_69 u a0 a1) := llCp.of (by decide +kernel) (by exact Nat.le_of_ble_eq_true rfl) (fun G h1 h2 => by subst h1; subst h2; exact tj_X12_isAhead_69 u a0 a1)
def fx_X12_laysRanks_69_l88_b71 (v1 : Int32) (s : llMem × Int32) : Option ((llMem × Int32) ⊕ (llMem)) := (if (s.1.1 69 9) ≤ s.2 then some (.inr s.1) else gI v1 30 ((if s.2 = v1 then fx_X12_laysRanks_69_j130_b88_b71 s.1 v1 s.2 v1 (rI s.1 84 v1) else (fx_X12_areTogether_69 s.1 v1 s.2).bind (fun r15 => (if r15 = 0 then fx_X12_laysRanks_69_j130_b88_b71 s.1 v1 s.2 v1 (rI s.1 84 v1) else (fx_X12_isAhead_69 s.1 s.2 v1).bind (fun r16 => (if r16 = 0 then fx_X12_laysRanks_69_j130_b88_b71 s.1 v1 s.2 v1 (rI s.1 84 v1) else fx_X12_laysRanks_69_j131_b88_b71 s.1 v1 s.2 v1 (rI s.1 84 v1) 1)))))))
set_option maxRecDepth 20000 in
theorem t_X12_laysRanks_69_l88_b71 {G : llG} {d : Nat} (v1 : Int32) (s : llMem × Int32) : llJ G RX12 cX12_laysRanks 3 none (d + 5) (Sum.elim (fun s' => llJq G 3 88 [(0, .ref (llAd G 69)), (1, .int v1), (2, .int s'.2)] [] s'.1) (fun e => llJq G 3 142 [(0, .ref (llAd G 69)), (1, .int v1)] [] e)) 88 [(0, .ref (llAd G 69)), (1, .int v1), (2, .int s.2)] [] s.1 (fx_X12_laysRanks_69_l88_b71 v1 s) := by
  unfold fx_X12_laysRanks_69_l88_b71
  refine J_iload_n (j := 2) dX12_laysRanks_88 rfl rfl ?_
  refine J_aload_n (j := 0) dX12_laysRanks_89 rfl rfl ?_
  refine J_getI dX12_laysRanks_90 fl_X12_263 sh_69 rfl ?_
  refine J_icmp_ge (tgt := 142) dX12_laysRanks_93 (by decide) ?_ ?_
  · exact J_cut [0, 1] (lv' := [(0, .ref (llAd G 69)), (1, .int v1)]) rfl (fun h => h)
  · refine J_aload_n (j := 0) dX12_laysRanks_96 rfl rfl ?_
    refine J_getR (b := 84) dX12_laysRanks_97 fl_X12_57 sh_69 rfl ?_
    refine J_iload_n (j := 1) dX12_laysRanks_100 rfl rfl ?_
    refine J_dup2 dX12_laysRanks_101 rfl rfl ?_
    refine J_iald dX12_laysRanks_102 sh_84 ?_
    refine J_iload_n (j := 2) dX12_laysRanks_103 rfl rfl ?_
    refine J_iload_n (j := 1) dX12_laysRanks_104 rfl rfl ?_
    refine J_icmp_eq (tgt := 130) dX12_laysRanks_105 (by decide) ?_ ?_
    · refine J_sub [0, 1, 2] (lv' := [(0, .ref (llAd G 69)), (1, .int v1), (2, .int s.2)]) rfl ?_
      exact t_X12_laysRanks_69_j130_b88_b71 s.1 v1 s.2 v1 (rI s.1 84 v1)
    · refine J_aload_n (j := 0) dX12_laysRanks_108 rfl rfl ?_
      refine J_iload_n (j := 1) dX12_laysRanks_109 rfl rfl ?_
      refine J_iload_n (j := 2) dX12_laysRanks_110 rfl rfl ?_
      refine J_callVip2 dX12_laysRanks_111 (t_X12_areTogether_69 (llL G) (llFx G) (d + 1) s.1 v1 s.2) ym_X12_areTogether wd_1463 sh_69 rfl (Nat.le_of_ble_eq_true rfl) (fun r15 => ?_)
      refine J_if_eq (tgt := 130) dX12_laysRanks_114 (by decide) ?_ ?_
      · refine J_sub [0, 1, 2] (lv' := [(0, .ref (llAd G 69)), (1, .int v1), (2, .int s.2)]) rfl ?_
        exact t_X12_laysRanks_69_j130_b88_b71 s.1 v1 s.2 v1 (rI s.1 84 v1)
      · refine J_aload_n (j := 0) dX12_laysRanks_117 rfl rfl ?_
        refine J_iload_n (j := 2) dX12_laysRanks_118 rfl rfl ?_
        refine J_iload_n (j := 1) dX12_laysRanks_119 rfl rfl ?_
        refine J_callVip2 dX12_laysRanks_120 (t_X12_isAhead_69 (llL G) (llFx G) (d + 4) s.1 s.2 v1) ym_X12_isAhead wd_1540 sh_69 rfl (Nat.le_of_ble_eq_true rfl) (fun r16 => ?_)
        refine J_if_eq (tgt := 130) dX12_laysRanks_123 (by decide) ?_ ?_
        · refine J_sub [0, 1, 2] (lv' := [(0, .ref (llAd G 69)), (1, .int v1), (2, .int s.2)]) rfl ?_
          exact t_X12_laysRanks_69_j130_b88_b71 s.1 v1 s.2 v1 (rI s.1 84 v1)
        · refine J_iconst (v := 1) dX12_laysRanks_126 (by decide) ?_
          refine J_goto (tgt := 131) dX12_laysRanks_127 (by decide) ?_
          refine J_sub [0, 1, 2] (lv' := [(0, .ref (llAd G 69)), (1, .int v1), (2, .int s.2)]) rfl ?_
          exact t_X12_laysRanks_69_j131_b88_b71 s.1 v1 s.2 v1 (rI s.1 84 v1) 1
def fx_X12_laysRanks_69_l71  (s : llMem × Int32) : Option ((llMem × Int32) ⊕ (llMem)) := (if (s.1.1 69 9) ≤ s.2 then some (.inr s.1) else gI s.2 30 (lt (llSI s.1 84 (Int32.toNatClampNeg s.2) 1) (fun u11 => (loop (fx_X12_laysRanks_69_l88_b71 s.2) llFuel (u11, 0)).bind (fun e17 => lt (s.2 + 1) (fun v1_18 => some (.inl (e17, v1_18)))))))
set_option maxRecDepth 20000 in
theorem t_X12_laysRanks_69_l71 {G : llG} {d : Nat}  (s : llMem × Int32) : llJ G RX12 cX12_laysRanks 3 none (d + 5) (Sum.elim (fun s' => llJq G 3 71 [(0, .ref (llAd G 69)), (1, .int s'.2)] [] s'.1) (fun e => llJq G 3 148 [] [] e)) 71 [(0, .ref (llAd G 69)), (1, .int s.2)] [] s.1 (fx_X12_laysRanks_69_l71 s) := by
  unfold fx_X12_laysRanks_69_l71
  refine J_iload_n (j := 1) dX12_laysRanks_71 rfl rfl ?_
  refine J_aload_n (j := 0) dX12_laysRanks_72 rfl rfl ?_
  refine J_getI dX12_laysRanks_73 fl_X12_263 sh_69 rfl ?_
  refine J_icmp_ge (tgt := 148) dX12_laysRanks_76 (by decide) ?_ ?_
  · exact J_cut [] (lv' := []) rfl (fun h => h)
  · refine J_aload_n (j := 0) dX12_laysRanks_79 rfl rfl ?_
    refine J_getR (b := 84) dX12_laysRanks_80 fl_X12_57 sh_69 rfl ?_
    refine J_iload_n (j := 1) dX12_laysRanks_83 rfl rfl ?_
    refine J_iconst (v := 1) dX12_laysRanks_84 (by decide) ?_
    refine J_iast dX12_laysRanks_85 sh_84 (fun u11 => ?_)
    refine J_iconst (v := 0) dX12_laysRanks_86 (by decide) ?_
    refine J_istore_n [(2, .int 0), (0, .ref (llAd G 69)), (1, .int s.2)] dX12_laysRanks_87 rfl (by decide) rfl ?_
    refine J_loopE (fun s' => [(0, .ref (llAd G 69)), (1, .int s.2), (2, .int s'.2)]) (fun s' => s'.1) 142 (fun e => [(0, .ref (llAd G 69)), (1, .int s.2)]) (fun e => e) (fun z => t_X12_laysRanks_69_l88_b71 s.2 z) [1, 2, 0] rfl rfl (fun e17 => ?_)
    refine J_iinc (j := 1) (b := 1) (fun v1_18 => [(1, .int v1_18), (0, .ref (llAd G 69))]) dX12_laysRanks_142 rfl (by decide) (by decide) (fun _ => rfl) (fun v1_18 => ?_)
    refine J_goto (tgt := 71) dX12_laysRanks_145 (by decide) ?_
    exact J_cut [1, 0] (lv' := [(0, .ref (llAd G 69)), (1, .int v1_18)]) rfl (fun h => h)
def fx_X12_laysRanks_69 (u : llMem)  : Option (llMem × Unit) := (loop (fx_X12_laysRanks_69_l2) llFuel (u, 0)).bind (fun e10 => (loop (fx_X12_laysRanks_69_l71) llFuel (e10, 0)).bind (fun e19 => some (e19, ())))
set_option maxRecDepth 20000 in
theorem tj_X12_laysRanks_69 {G : llG} {d : Nat} (u : llMem)  : llJ G RX12 cX12_laysRanks 3 none (d + 5) (fun r => llRet G (llVd r.2) r.1) 0 [(0, .ref (llAd G 69))] [] u (fx_X12_laysRanks_69 u ) := by
  unfold fx_X12_laysRanks_69
  refine J_iconst (v := 0) dX12_laysRanks_0 (by decide) ?_
  refine J_istore_n [(1, .int 0), (0, .ref (llAd G 69))] dX12_laysRanks_1 rfl (by decide) rfl ?_
  refine J_loopE (fun s' => [(0, .ref (llAd G 69)), (1, .int s'.2)]) (fun s' => s'.1) 69 (fun e => [(0, .ref (llAd G 69))]) (fun e => e) (fun z => t_X12_laysRanks_69_l2 z) [1, 0] rfl rfl (fun e10 => ?_)
  refine J_iconst (v := 0) dX12_laysRanks_69 (by decide) ?_
  refine J_istore_n [(1, .int 0), (0, .ref (llAd G 69))] dX12_laysRanks_70 rfl (by decide) rfl ?_
  refine J_loopE (fun s' => [(0, .ref (llAd G 69)), (1, .int s'.2)]) (fun s' => s'.1) 148 (fun e => []) (fun e => e) (fun z => t_X12_laysRanks_69_l71 z) [1, 0] rfl rfl (fun e19 => ?_)
  exact J_vret dX12_laysRanks_148 (fun h => h)
theorem t_X12_laysRanks_69 (l : Launch) (F : llFix) (d : Nat) (u : llMem)  : llCt l F yX12_laysRanks cX12_laysRanks 3 none (d + 5) [.ref (F.2.2.1 69)] u llVd (fx_X12_laysRanks_69 u ) := llCt.of (by decide +kernel) (by exact Nat.le_of_ble_eq_true rfl) (fun G h1 h2 => by subst h1; subst h2; exact tj_X12_laysRanks_69 u )
def fx_X12_isBefore_69 (u : llMem) (a0 : Int32) (a1 : Int32) : Option Int32 := gI a0 30 (gI a1 30 ((if (rI u 84 a0) = (rI u 84 a1) then gI a0 30 (gI a1 30 ((if ¬ (Op.cmpValue (FP.fcmp (rF u 85 a0) (rF u 85 a1)) CmpOp.l) = 0 then gI a0 30 (gI a1 30 ((if (Op.cmpValue (FP.fcmp (rF u 85 a0) (rF u 85 a1)) CmpOp.l) ≤ 0 then gB 0 (some 0) else gB 1 (some 1)))) else (if a1 ≤ a0 then gB 0 (some 0) else gB 1 (some 1))))) else gI a0 30 (gI a1 30 ((if (rI u 84 a1) ≤ (rI u 84 a0) then gB 0 (some 0) else gB 1 (some 1)))))))
set_option maxRecDepth 20000 in
theorem tj_X12_isBefore_69 {G : llG} {d : Nat} (u : llMem) (a0 : Int32) (a1 : Int32) : llJ G RX12 cX12_isBefore 3 (some .boolean) d (fun r => llRet G (llI r) u) 0 [(0, .ref (llAd G 69)), (1, .int a0), (2, .int a1)] [] u (fx_X12_isBefore_69 u a0 a1) := by
  unfold fx_X12_isBefore_69
  refine J_aload_n (j := 0) dX12_isBefore_0 rfl rfl ?_
  refine J_getR (b := 84) dX12_isBefore_1 fl_X12_57 sh_69 rfl ?_
  refine J_iload_n (j := 1) dX12_isBefore_4 rfl rfl ?_
  refine J_iald dX12_isBefore_5 sh_84 ?_
  refine J_aload_n (j := 0) dX12_isBefore_6 rfl rfl ?_
  refine J_getR (b := 84) dX12_isBefore_7 fl_X12_57 sh_69 rfl ?_
  refine J_iload_n (j := 2) dX12_isBefore_10 rfl rfl ?_
  refine J_iald dX12_isBefore_11 sh_84 ?_
  refine J_icmp_eq (tgt := 36) dX12_isBefore_12 (by decide) ?_ ?_
  · refine J_aload_n (j := 0) dX12_isBefore_36 rfl rfl ?_
    refine J_getR (b := 85) dX12_isBefore_37 fl_X12_60 sh_69 rfl ?_
    refine J_iload_n (j := 1) dX12_isBefore_40 rfl rfl ?_
    refine J_fald dX12_isBefore_41 sh_85 ?_
    refine J_aload_n (j := 0) dX12_isBefore_42 rfl rfl ?_
    refine J_getR (b := 85) dX12_isBefore_43 fl_X12_60 sh_69 rfl ?_
    refine J_iload_n (j := 2) dX12_isBefore_46 rfl rfl ?_
    refine J_fald dX12_isBefore_47 sh_85 ?_
    refine J_fcmp dX12_isBefore_48 ?_
    refine J_if_ne (tgt := 65) dX12_isBefore_49 (by decide) ?_ ?_
    · refine J_aload_n (j := 0) dX12_isBefore_65 rfl rfl ?_
      refine J_getR (b := 85) dX12_isBefore_66 fl_X12_60 sh_69 rfl ?_
      refine J_iload_n (j := 1) dX12_isBefore_69 rfl rfl ?_
      refine J_fald dX12_isBefore_70 sh_85 ?_
      refine J_aload_n (j := 0) dX12_isBefore_71 rfl rfl ?_
      refine J_getR (b := 85) dX12_isBefore_72 fl_X12_60 sh_69 rfl ?_
      refine J_iload_n (j := 2) dX12_isBefore_75 rfl rfl ?_
      refine J_fald dX12_isBefore_76 sh_85 ?_
      refine J_fcmp dX12_isBefore_77 ?_
      refine J_if_le (tgt := 85) dX12_isBefore_78 (by decide) ?_ ?_
      · refine J_iconst (v := 0) dX12_isBefore_85 (by decide) ?_
        exact J_zret dX12_isBefore_86 (fun h => h)
      · refine J_iconst (v := 1) dX12_isBefore_81 (by decide) ?_
        refine J_goto (tgt := 86) dX12_isBefore_82 (by decide) ?_
        exact J_zret dX12_isBefore_86 (fun h => h)
    · refine J_iload_n (j := 1) dX12_isBefore_52 rfl rfl ?_
      refine J_iload_n (j := 2) dX12_isBefore_53 rfl rfl ?_
      refine J_icmp_ge (tgt := 61) dX12_isBefore_54 (by decide) ?_ ?_
      · refine J_iconst (v := 0) dX12_isBefore_61 (by decide) ?_
        refine J_goto (tgt := 86) dX12_isBefore_62 (by decide) ?_
        exact J_zret dX12_isBefore_86 (fun h => h)
      · refine J_iconst (v := 1) dX12_isBefore_57 (by decide) ?_
        refine J_goto (tgt := 86) dX12_isBefore_58 (by decide) ?_
        exact J_zret dX12_isBefore_86 (fun h => h)
  · refine J_aload_n (j := 0) dX12_isBefore_15 rfl rfl ?_
    refine J_getR (b := 84) dX12_isBefore_16 fl_X12_57 sh_69 rfl ?_
    refine J_iload_n (j := 1) dX12_isBefore_19 rfl rfl ?_
    refine J_iald dX12_isBefore_20 sh_84 ?_
    refine J_aload_n (j := 0) dX12_isBefore_21 rfl rfl ?_
    refine J_getR (b := 84) dX12_isBefore_22 fl_X12_57 sh_69 rfl ?_
    refine J_iload_n (j := 2) dX12_isBefore_25 rfl rfl ?_
    refine J_iald dX12_isBefore_26 sh_84 ?_
    refine J_icmp_ge (tgt := 34) dX12_isBefore_27 (by decide) ?_ ?_
    · refine J_iconst (v := 0) dX12_isBefore_34 (by decide) ?_
      exact J_zret dX12_isBefore_35 (fun h => h)
    · refine J_iconst (v := 1) dX12_isBefore_30 (by decide) ?_
      refine J_goto (tgt := 35) dX12_isBefore_31 (by decide) ?_
      exact J_zret dX12_isBefore_35 (fun h => h)
theorem t_X12_isBefore_69 (l : Launch) (F : llFix) (d : Nat) (u : llMem) (a0 : Int32) (a1 : Int32) : llCp l F yX12_isBefore cX12_isBefore 3 (some .boolean) d [.ref (F.2.2.1 69), .int a0, .int a1] u llI (fx_X12_isBefore_69 u a0 a1) := llCp.of (by decide +kernel) (by exact Nat.le_of_ble_eq_true rfl) (fun G h1 h2 => by subst h1; subst h2; exact tj_X12_isBefore_69 u a0 a1)
def fx_X12_laysOrders_69_l42_b18_b6 (v1 : Int32) (v2 : Int32) (v3 : Int32) (s : llMem × Int32) : Option ((llMem × Int32) ⊕ (llMem × Int32)) := (if s.2 ≤ 0 then some (.inr (s.1, s.2)) else gI (((12 * v1) + s.2) - 1) 48 ((fx_X12_isBefore_69 s.1 v3 (rI s.1 86 (((12 * v1) + s.2) - 1))).bind (fun r2 => (if r2 = 0 then some (.inr (s.1, s.2)) else gI (((12 * v1) + s.2) - 1) 48 (gI ((12 * v1) + s.2) 48 (lt (llSI s.1 86 (Int32.toNatClampNeg ((12 * v1) + s.2)) (rI s.1 86 (((12 * v1) + s.2) - 1))) (fun u3 => lt (s.2 + (-1)) (fun v4_4 => some (.inl (u3, v4_4))))))))))
set_option maxRecDepth 20000 in
theorem t_X12_laysOrders_69_l42_b18_b6 {G : llG} {d : Nat} (v1 : Int32) (v2 : Int32) (v3 : Int32) (s : llMem × Int32) : llJ G RX12 cX12_laysOrders 5 none (d + 6) (Sum.elim (fun s' => llJq G 5 42 [(0, .ref (llAd G 69)), (1, .int v1), (2, .int v2), (3, .int v3), (4, .int s'.2)] [] s'.1) (fun e => llJq G 5 101 [(0, .ref (llAd G 69)), (1, .int v1), (2, .int v2), (3, .int v3), (4, .int e.2)] [] e.1)) 42 [(0, .ref (llAd G 69)), (1, .int v1), (2, .int v2), (3, .int v3), (4, .int s.2)] [] s.1 (fx_X12_laysOrders_69_l42_b18_b6 v1 v2 v3 s) := by
  unfold fx_X12_laysOrders_69_l42_b18_b6
  refine J_iload (j := 4) dX12_laysOrders_42 rfl ?_
  refine J_if_le (tgt := 101) dX12_laysOrders_44 (by decide) ?_ ?_
  · exact J_cut [0, 1, 2, 3, 4] (lv' := [(0, .ref (llAd G 69)), (1, .int v1), (2, .int v2), (3, .int v3), (4, .int s.2)]) rfl (fun h => h)
  · refine J_aload_n (j := 0) dX12_laysOrders_47 rfl rfl ?_
    refine J_iload_n (j := 3) dX12_laysOrders_48 rfl rfl ?_
    refine J_aload_n (j := 0) dX12_laysOrders_49 rfl rfl ?_
    refine J_getR (b := 86) dX12_laysOrders_50 fl_X12_64 sh_69 rfl ?_
    refine J_bipush (v := 12) dX12_laysOrders_53 (by decide) ?_
    refine J_iload_n (j := 1) dX12_laysOrders_55 rfl rfl ?_
    refine J_imul dX12_laysOrders_56 ?_
    refine J_iload (j := 4) dX12_laysOrders_57 rfl ?_
    refine J_iadd dX12_laysOrders_59 ?_
    refine J_iconst (v := 1) dX12_laysOrders_60 (by decide) ?_
    refine J_isub dX12_laysOrders_61 ?_
    refine J_iald dX12_laysOrders_62 sh_86 ?_
    refine J_callVip2 dX12_laysOrders_63 (t_X12_isBefore_69 (llL G) (llFx G) (d + 5) s.1 v3 (rI s.1 86 (((12 * v1) + s.2) - 1))) ym_X12_isBefore wd_1544 sh_69 rfl (Nat.le_of_ble_eq_true rfl) (fun r2 => ?_)
    refine J_if_eq (tgt := 101) dX12_laysOrders_66 (by decide) ?_ ?_
    · exact J_cut [0, 1, 2, 3, 4] (lv' := [(0, .ref (llAd G 69)), (1, .int v1), (2, .int v2), (3, .int v3), (4, .int s.2)]) rfl (fun h => h)
    · refine J_aload_n (j := 0) dX12_laysOrders_69 rfl rfl ?_
      refine J_getR (b := 86) dX12_laysOrders_70 fl_X12_64 sh_69 rfl ?_
      refine J_bipush (v := 12) dX12_laysOrders_73 (by decide) ?_
      refine J_iload_n (j := 1) dX12_laysOrders_75 rfl rfl ?_
      refine J_imul dX12_laysOrders_76 ?_
      refine J_iload (j := 4) dX12_laysOrders_77 rfl ?_
      refine J_iadd dX12_laysOrders_79 ?_
      refine J_aload_n (j := 0) dX12_laysOrders_80 rfl rfl ?_
      refine J_getR (b := 86) dX12_laysOrders_81 fl_X12_64 sh_69 rfl ?_
      refine J_bipush (v := 12) dX12_laysOrders_84 (by decide) ?_
      refine J_iload_n (j := 1) dX12_laysOrders_86 rfl rfl ?_
      refine J_imul dX12_laysOrders_87 ?_
      refine J_iload (j := 4) dX12_laysOrders_88 rfl ?_
      refine J_iadd dX12_laysOrders_90 ?_
      refine J_iconst (v := 1) dX12_laysOrders_91 (by decide) ?_
      refine J_isub dX12_laysOrders_92 ?_
      refine J_iald dX12_laysOrders_93 sh_86 ?_
      refine J_iast dX12_laysOrders_94 sh_86 (fun u3 => ?_)
      refine J_iinc (j := 4) (b := (-1)) (fun v4_4 => [(4, .int v4_4), (0, .ref (llAd G 69)), (1, .int v1), (2, .int v2), (3, .int v3)]) dX12_laysOrders_95 rfl (by decide) (by decide) (fun _ => rfl) (fun v4_4 => ?_)
      refine J_goto (tgt := 42) dX12_laysOrders_98 (by decide) ?_
      exact J_cut [1, 2, 3, 4, 0] (lv' := [(0, .ref (llAd G 69)), (1, .int v1), (2, .int v2), (3, .int v3), (4, .int v4_4)]) rfl (fun h => h)
def fx_X12_laysOrders_69_j117_b18_b6 (u : llMem) (v1 : Int32) (v2 : Int32) (v3 : Int32) : Option ((llMem × Int32 × Int32) ⊕ (llMem × Int32)) := lt (v3 + 1) (fun v3_8 => some (.inl (u, v2, v3_8)))
set_option maxRecDepth 20000 in
theorem t_X12_laysOrders_69_j117_b18_b6 {G : llG} {d : Nat} (u : llMem) (v1 : Int32) (v2 : Int32) (v3 : Int32) : llJ G RX12 cX12_laysOrders 5 none (d + 6) (Sum.elim (fun s' => llJq G 5 18 [(0, .ref (llAd G 69)), (1, .int v1), (2, .int s'.2.1), (3, .int s'.2.2)] [] s'.1) (fun e => llJq G 5 123 [(0, .ref (llAd G 69)), (1, .int v1), (2, .int e.2)] [] e.1)) 117 [(0, .ref (llAd G 69)), (1, .int v1), (2, .int v2), (3, .int v3)] [] u (fx_X12_laysOrders_69_j117_b18_b6 u v1 v2 v3) := by
  unfold fx_X12_laysOrders_69_j117_b18_b6
  refine J_iinc (j := 3) (b := 1) (fun v3_8 => [(3, .int v3_8), (0, .ref (llAd G 69)), (1, .int v1), (2, .int v2)]) dX12_laysOrders_117 rfl (by decide) (by decide) (fun _ => rfl) (fun v3_8 => ?_)
  refine J_goto (tgt := 18) dX12_laysOrders_120 (by decide) ?_
  exact J_cut [1, 2, 3, 0] (lv' := [(0, .ref (llAd G 69)), (1, .int v1), (2, .int v2), (3, .int v3_8)]) rfl (fun h => h)
def fx_X12_laysOrders_69_l18_b6 (v1 : Int32) (s : llMem × Int32 × Int32) : Option ((llMem × Int32 × Int32) ⊕ (llMem × Int32)) := (if (s.1.1 69 9) ≤ s.2.2 then some (.inr (s.1, s.2.1)) else gI s.2.2 60 ((if (rI s.1 74 s.2.2) = v1 then (loop (fx_X12_laysOrders_69_l42_b18_b6 v1 s.2.1 s.2.2) llFuel (s.1, s.2.1)).bind (fun e5 => gI ((12 * v1) + e5.2) 48 (lt (llSI e5.1 86 (Int32.toNatClampNeg ((12 * v1) + e5.2)) s.2.2) (fun u6 => lt (s.2.1 + 1) (fun v2_7 => fx_X12_laysOrders_69_j117_b18_b6 u6 v1 v2_7 s.2.2)))) else fx_X12_laysOrders_69_j117_b18_b6 s.1 v1 s.2.1 s.2.2)))
set_option maxRecDepth 20000 in
theorem t_X12_laysOrders_69_l18_b6 {G : llG} {d : Nat} (v1 : Int32) (s : llMem × Int32 × Int32) : llJ G RX12 cX12_laysOrders 5 none (d + 6) (Sum.elim (fun s' => llJq G 5 18 [(0, .ref (llAd G 69)), (1, .int v1), (2, .int s'.2.1), (3, .int s'.2.2)] [] s'.1) (fun e => llJq G 5 123 [(0, .ref (llAd G 69)), (1, .int v1), (2, .int e.2)] [] e.1)) 18 [(0, .ref (llAd G 69)), (1, .int v1), (2, .int s.2.1), (3, .int s.2.2)] [] s.1 (fx_X12_laysOrders_69_l18_b6 v1 s) := by
  unfold fx_X12_laysOrders_69_l18_b6
  refine J_iload_n (j := 3) dX12_laysOrders_18 rfl rfl ?_
  refine J_aload_n (j := 0) dX12_laysOrders_19 rfl rfl ?_
  refine J_getI dX12_laysOrders_20 fl_X12_263 sh_69 rfl ?_
  refine J_icmp_ge (tgt := 123) dX12_laysOrders_23 (by decide) ?_ ?_
  · exact J_cut [0, 1, 2] (lv' := [(0, .ref (llAd G 69)), (1, .int v1), (2, .int s.2.1)]) rfl (fun h => h)
  · refine J_aload_n (j := 0) dX12_laysOrders_26 rfl rfl ?_
    refine J_getR (b := 74) dX12_laysOrders_27 fl_X12_23 sh_69 rfl ?_
    refine J_iload_n (j := 3) dX12_laysOrders_30 rfl rfl ?_
    refine J_iald dX12_laysOrders_31 sh_74 ?_
    refine J_iload_n (j := 1) dX12_laysOrders_32 rfl rfl ?_
    refine J_icmp_eq (tgt := 39) dX12_laysOrders_33 (by decide) ?_ ?_
    · refine J_iload_n (j := 2) dX12_laysOrders_39 rfl rfl ?_
      refine J_istore [(4, .int s.2.1), (0, .ref (llAd G 69)), (1, .int v1), (2, .int s.2.1), (3, .int s.2.2)] dX12_laysOrders_40 (by decide) rfl ?_
      refine J_loopE (fun s' => [(0, .ref (llAd G 69)), (1, .int v1), (2, .int s.2.1), (3, .int s.2.2), (4, .int s'.2)]) (fun s' => s'.1) 101 (fun e => [(0, .ref (llAd G 69)), (1, .int v1), (2, .int s.2.1), (3, .int s.2.2), (4, .int e.2)]) (fun e => e.1) (fun z => t_X12_laysOrders_69_l42_b18_b6 v1 s.2.1 s.2.2 z) [1, 2, 3, 4, 0] rfl rfl (fun e5 => ?_)
      refine J_aload_n (j := 0) dX12_laysOrders_101 rfl rfl ?_
      refine J_getR (b := 86) dX12_laysOrders_102 fl_X12_64 sh_69 rfl ?_
      refine J_bipush (v := 12) dX12_laysOrders_105 (by decide) ?_
      refine J_iload_n (j := 1) dX12_laysOrders_107 rfl rfl ?_
      refine J_imul dX12_laysOrders_108 ?_
      refine J_iload (j := 4) dX12_laysOrders_109 rfl ?_
      refine J_iadd dX12_laysOrders_111 ?_
      refine J_iload_n (j := 3) dX12_laysOrders_112 rfl rfl ?_
      refine J_iast dX12_laysOrders_113 sh_86 (fun u6 => ?_)
      refine J_iinc (j := 2) (b := 1) (fun v2_7 => [(2, .int v2_7), (0, .ref (llAd G 69)), (1, .int v1), (3, .int s.2.2), (4, .int e5.2)]) dX12_laysOrders_114 rfl (by decide) (by decide) (fun _ => rfl) (fun v2_7 => ?_)
      refine J_sub [1, 2, 0, 3] (lv' := [(0, .ref (llAd G 69)), (1, .int v1), (2, .int v2_7), (3, .int s.2.2)]) rfl ?_
      exact t_X12_laysOrders_69_j117_b18_b6 u6 v1 v2_7 s.2.2
    · refine J_goto (tgt := 117) dX12_laysOrders_36 (by decide) ?_
      refine J_sub [0, 1, 2, 3] (lv' := [(0, .ref (llAd G 69)), (1, .int v1), (2, .int s.2.1), (3, .int s.2.2)]) rfl ?_
      exact t_X12_laysOrders_69_j117_b18_b6 s.1 v1 s.2.1 s.2.2
def fx_X12_laysOrders_69_l6  (s : llMem × Int32) : Option ((llMem × Int32) ⊕ (llMem)) := (if (s.1.1 69 1) ≤ s.2 then some (.inr s.1) else (loop (fx_X12_laysOrders_69_l18_b6 s.2) llFuel (s.1, 0, 0)).bind (fun e9 => gI s.2 4 (lt (llSI e9.1 87 (Int32.toNatClampNeg s.2) e9.2) (fun u10 => lt (s.2 + 1) (fun v1_11 => some (.inl (u10, v1_11)))))))
set_option maxRecDepth 20000 in
theorem t_X12_laysOrders_69_l6 {G : llG} {d : Nat}  (s : llMem × Int32) : llJ G RX12 cX12_laysOrders 5 none (d + 6) (Sum.elim (fun s' => llJq G 5 6 [(0, .ref (llAd G 69)), (1, .int s'.2)] [] s'.1) (fun e => llJq G 5 136 [] [] e)) 6 [(0, .ref (llAd G 69)), (1, .int s.2)] [] s.1 (fx_X12_laysOrders_69_l6 s) := by
  unfold fx_X12_laysOrders_69_l6
  refine J_iload_n (j := 1) dX12_laysOrders_6 rfl rfl ?_
  refine J_aload_n (j := 0) dX12_laysOrders_7 rfl rfl ?_
  refine J_getI dX12_laysOrders_8 fl_X12_260 sh_69 rfl ?_
  refine J_icmp_ge (tgt := 136) dX12_laysOrders_11 (by decide) ?_ ?_
  · exact J_cut [] (lv' := []) rfl (fun h => h)
  · refine J_iconst (v := 0) dX12_laysOrders_14 (by decide) ?_
    refine J_istore_n [(2, .int 0), (0, .ref (llAd G 69)), (1, .int s.2)] dX12_laysOrders_15 rfl (by decide) rfl ?_
    refine J_iconst (v := 0) dX12_laysOrders_16 (by decide) ?_
    refine J_istore_n [(3, .int 0), (2, .int 0), (0, .ref (llAd G 69)), (1, .int s.2)] dX12_laysOrders_17 rfl (by decide) rfl ?_
    refine J_loopE (fun s' => [(0, .ref (llAd G 69)), (1, .int s.2), (2, .int s'.2.1), (3, .int s'.2.2)]) (fun s' => s'.1) 123 (fun e => [(0, .ref (llAd G 69)), (1, .int s.2), (2, .int e.2)]) (fun e => e.1) (fun z => t_X12_laysOrders_69_l18_b6 s.2 z) [2, 3, 1, 0] rfl rfl (fun e9 => ?_)
    refine J_aload_n (j := 0) dX12_laysOrders_123 rfl rfl ?_
    refine J_getR (b := 87) dX12_laysOrders_124 fl_X12_67 sh_69 rfl ?_
    refine J_iload_n (j := 1) dX12_laysOrders_127 rfl rfl ?_
    refine J_iload_n (j := 2) dX12_laysOrders_128 rfl rfl ?_
    refine J_iast dX12_laysOrders_129 sh_87 (fun u10 => ?_)
    refine J_iinc (j := 1) (b := 1) (fun v1_11 => [(1, .int v1_11), (0, .ref (llAd G 69)), (2, .int e9.2)]) dX12_laysOrders_130 rfl (by decide) (by decide) (fun _ => rfl) (fun v1_11 => ?_)
    refine J_goto (tgt := 6) dX12_laysOrders_133 (by decide) ?_
    exact J_cut [1, 0] (lv' := [(0, .ref (llAd G 69)), (1, .int v1_11)]) rfl (fun h => h)
def fx_X12_laysOrders_69 (u : llMem)  : Option (llMem × Unit) := bd (fx_X12_laysRanks_69 u ) (fun u1 _ => (loop (fx_X12_laysOrders_69_l6) llFuel (u1, 0)).bind (fun e12 => some (e12, ())))
set_option maxRecDepth 20000 in
theorem tj_X12_laysOrders_69 {G : llG} {d : Nat} (u : llMem)  : llJ G RX12 cX12_laysOrders 5 none (d + 6) (fun r => llRet G (llVd r.2) r.1) 0 [(0, .ref (llAd G 69))] [] u (fx_X12_laysOrders_69 u ) := by
  unfold fx_X12_laysOrders_69
  refine J_aload_n (j := 0) dX12_laysOrders_0 rfl rfl ?_
  refine J_callVv0 dX12_laysOrders_1 (t_X12_laysRanks_69 (llL G) (llFx G) d u ) ym_X12_laysRanks wd_1517 sh_69 rfl (Nat.le_of_ble_eq_true rfl) (fun u1 => ?_)
  refine J_iconst (v := 0) dX12_laysOrders_4 (by decide) ?_
  refine J_istore_n [(1, .int 0), (0, .ref (llAd G 69))] dX12_laysOrders_5 rfl (by decide) rfl ?_
  refine J_loopE (fun s' => [(0, .ref (llAd G 69)), (1, .int s'.2)]) (fun s' => s'.1) 136 (fun e => []) (fun e => e) (fun z => t_X12_laysOrders_69_l6 z) [1, 0] rfl rfl (fun e12 => ?_)
  exact J_vret dX12_laysOrders_136 (fun h => h)
theorem t_X12_laysOrders_69 (l : Launch) (F : llFix) (d : Nat) (u : llMem)  : llCt l F yX12_laysOrders cX12_laysOrders 5 none (d + 6) [.ref (F.2.2.1 69)] u llVd (fx_X12_laysOrders_69 u ) := llCt.of (by decide +kernel) (by exact Nat.le_of_ble_eq_true rfl) (fun G h1 h2 => by subst h1; subst h2; exact tj_X12_laysOrders_69 u )
def fx_X12_laysWanting_69_j51_b14_b4 (u : llMem) (v2 : Int32) (v3 : Int32) (t0 : Int32) (t1 : Int32) : Option ((Int32 × Int32) ⊕ (Int32)) := (fx_X12_one u t1).bind (fun r1 => lt (t0 + r1) (fun v1_2 => lt (v3 + 1) (fun v3_3 => some (.inl (v1_2, v3_3)))))
set_option maxRecDepth 20000 in
theorem t_X12_laysWanting_69_j51_b14_b4 {G : llG} {d : Nat} (u : llMem) (v2 : Int32) (v3 : Int32) (t0 : Int32) (t1 : Int32) : llJ G RX12 cX12_laysWanting 4 none (d + 1) (Sum.elim (fun s' => llJq G 4 14 [(0, .ref (llAd G 69)), (1, .int s'.1), (2, .int v2), (3, .int s'.2)] [] u) (fun e => llJq G 4 62 [(0, .ref (llAd G 69)), (1, .int e), (2, .int v2)] [] u)) 51 [(0, .ref (llAd G 69)), (2, .int v2), (3, .int v3)] [.int t1, .int t0] u (fx_X12_laysWanting_69_j51_b14_b4 u v2 v3 t0 t1) := by
  unfold fx_X12_laysWanting_69_j51_b14_b4
  refine J_callSip1 dX12_laysWanting_51 (t_X12_one (llL G) (llFx G) d u t1) ym_X12_one wd_1439 (Nat.le_of_ble_eq_true rfl) (fun r1 => ?_)
  refine J_iadd dX12_laysWanting_54 ?_
  refine J_istore_nL (fun v1_2 => [(1, .int v1_2), (0, .ref (llAd G 69)), (2, .int v2), (3, .int v3)]) dX12_laysWanting_55 rfl (by decide) (fun _ => rfl) (fun v1_2 => ?_)
  refine J_iinc (j := 3) (b := 1) (fun v3_3 => [(3, .int v3_3), (1, .int v1_2), (0, .ref (llAd G 69)), (2, .int v2)]) dX12_laysWanting_56 rfl (by decide) (by decide) (fun _ => rfl) (fun v3_3 => ?_)
  refine J_goto (tgt := 14) dX12_laysWanting_59 (by decide) ?_
  exact J_cut [2, 1, 3, 0] (lv' := [(0, .ref (llAd G 69)), (1, .int v1_2), (2, .int v2), (3, .int v3_3)]) rfl (fun h => h)
def fx_X12_laysWanting_69_j50_b14_b4 (u : llMem) (v2 : Int32) (v3 : Int32) (t0 : Int32) : Option ((Int32 × Int32) ⊕ (Int32)) := fx_X12_laysWanting_69_j51_b14_b4 u v2 v3 t0 0
set_option maxRecDepth 20000 in
theorem t_X12_laysWanting_69_j50_b14_b4 {G : llG} {d : Nat} (u : llMem) (v2 : Int32) (v3 : Int32) (t0 : Int32) : llJ G RX12 cX12_laysWanting 4 none (d + 1) (Sum.elim (fun s' => llJq G 4 14 [(0, .ref (llAd G 69)), (1, .int s'.1), (2, .int v2), (3, .int s'.2)] [] u) (fun e => llJq G 4 62 [(0, .ref (llAd G 69)), (1, .int e), (2, .int v2)] [] u)) 50 [(0, .ref (llAd G 69)), (2, .int v2), (3, .int v3)] [.int t0] u (fx_X12_laysWanting_69_j50_b14_b4 u v2 v3 t0) := by
  unfold fx_X12_laysWanting_69_j50_b14_b4
  refine J_iconst (v := 0) dX12_laysWanting_50 (by decide) ?_
  refine J_sub [0, 1, 2] (lv' := [(0, .ref (llAd G 69)), (2, .int v2), (3, .int v3)]) rfl ?_
  exact t_X12_laysWanting_69_j51_b14_b4 u v2 v3 t0 0
def fx_X12_laysWanting_69_l14_b4 (u : llMem) (v2 : Int32) (s : Int32 × Int32) : Option ((Int32 × Int32) ⊕ (Int32)) := (if (u.1 69 9) ≤ s.2 then some (.inr s.1) else gI s.2 60 ((if ¬ (rI u 74 s.2) = v2 then fx_X12_laysWanting_69_j50_b14_b4 u v2 s.2 s.1 else gI (30 + s.2) 1020 ((if ¬ (rI u 77 (30 + s.2)) = 1 then fx_X12_laysWanting_69_j50_b14_b4 u v2 s.2 s.1 else fx_X12_laysWanting_69_j51_b14_b4 u v2 s.2 s.1 1)))))
set_option maxRecDepth 20000 in
theorem t_X12_laysWanting_69_l14_b4 {G : llG} {d : Nat} (u : llMem) (v2 : Int32) (s : Int32 × Int32) : llJ G RX12 cX12_laysWanting 4 none (d + 1) (Sum.elim (fun s' => llJq G 4 14 [(0, .ref (llAd G 69)), (1, .int s'.1), (2, .int v2), (3, .int s'.2)] [] u) (fun e => llJq G 4 62 [(0, .ref (llAd G 69)), (1, .int e), (2, .int v2)] [] u)) 14 [(0, .ref (llAd G 69)), (1, .int s.1), (2, .int v2), (3, .int s.2)] [] u (fx_X12_laysWanting_69_l14_b4 u v2 s) := by
  unfold fx_X12_laysWanting_69_l14_b4
  refine J_iload_n (j := 3) dX12_laysWanting_14 rfl rfl ?_
  refine J_aload_n (j := 0) dX12_laysWanting_15 rfl rfl ?_
  refine J_getI dX12_laysWanting_16 fl_X12_263 sh_69 rfl ?_
  refine J_icmp_ge (tgt := 62) dX12_laysWanting_19 (by decide) ?_ ?_
  · exact J_cut [0, 1, 2] (lv' := [(0, .ref (llAd G 69)), (1, .int s.1), (2, .int v2)]) rfl (fun h => h)
  · refine J_iload_n (j := 1) dX12_laysWanting_22 rfl rfl ?_
    refine J_aload_n (j := 0) dX12_laysWanting_23 rfl rfl ?_
    refine J_getR (b := 74) dX12_laysWanting_24 fl_X12_23 sh_69 rfl ?_
    refine J_iload_n (j := 3) dX12_laysWanting_27 rfl rfl ?_
    refine J_iald dX12_laysWanting_28 sh_74 ?_
    refine J_iload_n (j := 2) dX12_laysWanting_29 rfl rfl ?_
    refine J_icmp_ne (tgt := 50) dX12_laysWanting_30 (by decide) ?_ ?_
    · refine J_sub [0, 2, 3] (lv' := [(0, .ref (llAd G 69)), (2, .int v2), (3, .int s.2)]) rfl ?_
      exact t_X12_laysWanting_69_j50_b14_b4 u v2 s.2 s.1
    · refine J_aload_n (j := 0) dX12_laysWanting_33 rfl rfl ?_
      refine J_getR (b := 77) dX12_laysWanting_34 fl_X12_32 sh_69 rfl ?_
      refine J_bipush (v := 30) dX12_laysWanting_37 (by decide) ?_
      refine J_iload_n (j := 3) dX12_laysWanting_39 rfl rfl ?_
      refine J_iadd dX12_laysWanting_40 ?_
      refine J_iald dX12_laysWanting_41 sh_77 ?_
      refine J_iconst (v := 1) dX12_laysWanting_42 (by decide) ?_
      refine J_icmp_ne (tgt := 50) dX12_laysWanting_43 (by decide) ?_ ?_
      · refine J_sub [0, 2, 3] (lv' := [(0, .ref (llAd G 69)), (2, .int v2), (3, .int s.2)]) rfl ?_
        exact t_X12_laysWanting_69_j50_b14_b4 u v2 s.2 s.1
      · refine J_iconst (v := 1) dX12_laysWanting_46 (by decide) ?_
        refine J_goto (tgt := 51) dX12_laysWanting_47 (by decide) ?_
        refine J_sub [0, 2, 3] (lv' := [(0, .ref (llAd G 69)), (2, .int v2), (3, .int s.2)]) rfl ?_
        exact t_X12_laysWanting_69_j51_b14_b4 u v2 s.2 s.1 1
def fx_X12_laysWanting_69_l4  (s : llMem × Int32 × Int32) : Option ((llMem × Int32 × Int32) ⊕ (llMem)) := (if (s.1.1 69 1) ≤ s.2.2 then some (.inr s.1) else (loop (fx_X12_laysWanting_69_l14_b4 s.1 s.2.2) llFuel (s.2.1, 0)).bind (fun e4 => gI s.2.2 4 (lt (llSI s.1 98 (Int32.toNatClampNeg s.2.2) e4) (fun u5 => lt (s.2.2 + 1) (fun v2_6 => some (.inl (u5, e4, v2_6)))))))
set_option maxRecDepth 20000 in
theorem t_X12_laysWanting_69_l4 {G : llG} {d : Nat}  (s : llMem × Int32 × Int32) : llJ G RX12 cX12_laysWanting 4 none (d + 1) (Sum.elim (fun s' => llJq G 4 4 [(0, .ref (llAd G 69)), (1, .int s'.2.1), (2, .int s'.2.2)] [] s'.1) (fun e => llJq G 4 75 [] [] e)) 4 [(0, .ref (llAd G 69)), (1, .int s.2.1), (2, .int s.2.2)] [] s.1 (fx_X12_laysWanting_69_l4 s) := by
  unfold fx_X12_laysWanting_69_l4
  refine J_iload_n (j := 2) dX12_laysWanting_4 rfl rfl ?_
  refine J_aload_n (j := 0) dX12_laysWanting_5 rfl rfl ?_
  refine J_getI dX12_laysWanting_6 fl_X12_260 sh_69 rfl ?_
  refine J_icmp_ge (tgt := 75) dX12_laysWanting_9 (by decide) ?_ ?_
  · exact J_cut [] (lv' := []) rfl (fun h => h)
  · refine J_iconst (v := 0) dX12_laysWanting_12 (by decide) ?_
    refine J_istore_n [(3, .int 0), (0, .ref (llAd G 69)), (1, .int s.2.1), (2, .int s.2.2)] dX12_laysWanting_13 rfl (by decide) rfl ?_
    refine J_loopE (fun s' => [(0, .ref (llAd G 69)), (1, .int s'.1), (2, .int s.2.2), (3, .int s'.2)]) (fun s' => s.1) 62 (fun e => [(0, .ref (llAd G 69)), (1, .int e), (2, .int s.2.2)]) (fun e => s.1) (fun z => t_X12_laysWanting_69_l14_b4 s.1 s.2.2 z) [1, 2, 3, 0] rfl rfl (fun e4 => ?_)
    refine J_aload_n (j := 0) dX12_laysWanting_62 rfl rfl ?_
    refine J_getR (b := 98) dX12_laysWanting_63 fl_X12_101 sh_69 rfl ?_
    refine J_iload_n (j := 2) dX12_laysWanting_66 rfl rfl ?_
    refine J_iload_n (j := 1) dX12_laysWanting_67 rfl rfl ?_
    refine J_iast dX12_laysWanting_68 sh_98 (fun u5 => ?_)
    refine J_iinc (j := 2) (b := 1) (fun v2_6 => [(2, .int v2_6), (0, .ref (llAd G 69)), (1, .int e4)]) dX12_laysWanting_69 rfl (by decide) (by decide) (fun _ => rfl) (fun v2_6 => ?_)
    refine J_goto (tgt := 4) dX12_laysWanting_72 (by decide) ?_
    exact J_cut [1, 2, 0] (lv' := [(0, .ref (llAd G 69)), (1, .int e4), (2, .int v2_6)]) rfl (fun h => h)
def fx_X12_laysWanting_69 (u : llMem)  : Option (llMem × Unit) := (loop (fx_X12_laysWanting_69_l4) llFuel (u, 0, 0)).bind (fun e7 => some (e7, ()))
set_option maxRecDepth 20000 in
theorem tj_X12_laysWanting_69 {G : llG} {d : Nat} (u : llMem)  : llJ G RX12 cX12_laysWanting 4 none (d + 1) (fun r => llRet G (llVd r.2) r.1) 0 [(0, .ref (llAd G 69))] [] u (fx_X12_laysWanting_69 u ) := by
  unfold fx_X12_laysWanting_69
  refine J_iconst (v := 0) dX12_laysWanting_0 (by decide) ?_
  refine J_istore_n [(1, .int 0), (0, .ref (llAd G 69))] dX12_laysWanting_1 rfl (by decide) rfl ?_
  refine J_iconst (v := 0) dX12_laysWanting_2 (by decide) ?_
  refine J_istore_n [(2, .int 0), (1, .int 0), (0, .ref (llAd G 69))] dX12_laysWanting_3 rfl (by decide) rfl ?_
  refine J_loopE (fun s' => [(0, .ref (llAd G 69)), (1, .int s'.2.1), (2, .int s'.2.2)]) (fun s' => s'.1) 75 (fun e => []) (fun e => e) (fun z => t_X12_laysWanting_69_l4 z) [2, 1, 0] rfl rfl (fun e7 => ?_)
  exact J_vret dX12_laysWanting_75 (fun h => h)
theorem t_X12_laysWanting_69 (l : Launch) (F : llFix) (d : Nat) (u : llMem)  : llCt l F yX12_laysWanting cX12_laysWanting 4 none (d + 1) [.ref (F.2.2.1 69)] u llVd (fx_X12_laysWanting_69 u ) := llCt.of (by decide +kernel) (by exact Nat.le_of_ble_eq_true rfl) (fun G h1 h2 => by subst h1; subst h2; exact tj_X12_laysWanting_69 u )
def fx_X12_ends_69_l19  (s : llMem × Int32) : Option ((llMem × Int32) ⊕ (llMem)) := (if (s.1.1 69 9) ≤ s.2 then some (.inr s.1) else gI s.2 30 (lt (llSI s.1 92 (Int32.toNatClampNeg s.2) (vp_nar .boolean 0)) (fun u3 => gI s.2 30 (lt (llSI u3 93 (Int32.toNatClampNeg s.2) (vp_nar .boolean 0)) (fun u4 => gI s.2 30 (lt (llSI u4 94 (Int32.toNatClampNeg s.2) (vp_nar .boolean 0)) (fun u5 => gI s.2 30 (lt (llSI u5 95 (Int32.toNatClampNeg s.2) (vp_nar .boolean 0)) (fun u6 => lt (s.2 + 1) (fun v1_7 => some (.inl (u6, v1_7))))))))))))
set_option maxRecDepth 20000 in
theorem t_X12_ends_69_l19 {G : llG} {d : Nat}  (s : llMem × Int32) : llJ G RX12 cX12_ends 7 (some .boolean) (d + 7) (Sum.elim (fun s' => llJq G 7 19 [(0, .ref (llAd G 69)), (1, .int s'.2)] [] s'.1) (fun e => llJq G 7 61 [(0, .ref (llAd G 69))] [] e)) 19 [(0, .ref (llAd G 69)), (1, .int s.2)] [] s.1 (fx_X12_ends_69_l19 s) := by
  unfold fx_X12_ends_69_l19
  refine J_iload_n (j := 1) dX12_ends_19 rfl rfl ?_
  refine J_aload_n (j := 0) dX12_ends_20 rfl rfl ?_
  refine J_getI dX12_ends_21 fl_X12_263 sh_69 rfl ?_
  refine J_icmp_ge (tgt := 61) dX12_ends_24 (by decide) ?_ ?_
  · exact J_cut [0] (lv' := [(0, .ref (llAd G 69))]) rfl (fun h => h)
  · refine J_aload_n (j := 0) dX12_ends_27 rfl rfl ?_
    refine J_getR (b := 92) dX12_ends_28 fl_X12_82 sh_69 rfl ?_
    refine J_iload_n (j := 1) dX12_ends_31 rfl rfl ?_
    refine J_iconst (v := 0) dX12_ends_32 (by decide) ?_
    refine J_zast dX12_ends_33 sh_92 (fun u3 => ?_)
    refine J_aload_n (j := 0) dX12_ends_34 rfl rfl ?_
    refine J_getR (b := 93) dX12_ends_35 fl_X12_86 sh_69 rfl ?_
    refine J_iload_n (j := 1) dX12_ends_38 rfl rfl ?_
    refine J_iconst (v := 0) dX12_ends_39 (by decide) ?_
    refine J_zast dX12_ends_40 sh_93 (fun u4 => ?_)
    refine J_aload_n (j := 0) dX12_ends_41 rfl rfl ?_
    refine J_getR (b := 94) dX12_ends_42 fl_X12_89 sh_69 rfl ?_
    refine J_iload_n (j := 1) dX12_ends_45 rfl rfl ?_
    refine J_iconst (v := 0) dX12_ends_46 (by decide) ?_
    refine J_zast dX12_ends_47 sh_94 (fun u5 => ?_)
    refine J_aload_n (j := 0) dX12_ends_48 rfl rfl ?_
    refine J_getR (b := 95) dX12_ends_49 fl_X12_92 sh_69 rfl ?_
    refine J_iload_n (j := 1) dX12_ends_52 rfl rfl ?_
    refine J_iconst (v := 0) dX12_ends_53 (by decide) ?_
    refine J_zast dX12_ends_54 sh_95 (fun u6 => ?_)
    refine J_iinc (j := 1) (b := 1) (fun v1_7 => [(1, .int v1_7), (0, .ref (llAd G 69))]) dX12_ends_55 rfl (by decide) (by decide) (fun _ => rfl) (fun v1_7 => ?_)
    refine J_goto (tgt := 19) dX12_ends_58 (by decide) ?_
    exact J_cut [1, 0] (lv' := [(0, .ref (llAd G 69)), (1, .int v1_7)]) rfl (fun h => h)
def fx_X12_ends_69_l65 (v1 : Int32) (s : llMem × Int32) : Option ((llMem × Int32) ⊕ (llMem)) := (if 4 ≤ s.2 then some (.inr s.1) else gI s.2 4 (lt (llSI s.1 97 (Int32.toNatClampNeg s.2) 0) (fun u9 => gI s.2 4 (lt (llSI u9 99 (Int32.toNatClampNeg s.2) 0) (fun u10 => lt (s.2 + 1) (fun v2_11 => some (.inl (u10, v2_11))))))))
set_option maxRecDepth 20000 in
theorem t_X12_ends_69_l65 {G : llG} {d : Nat} (v1 : Int32) (s : llMem × Int32) : llJ G RX12 cX12_ends 7 (some .boolean) (d + 7) (Sum.elim (fun s' => llJq G 7 65 [(0, .ref (llAd G 69)), (1, .int v1), (2, .int s'.2)] [] s'.1) (fun e => llJq G 7 90 [(0, .ref (llAd G 69)), (1, .int v1)] [] e)) 65 [(0, .ref (llAd G 69)), (1, .int v1), (2, .int s.2)] [] s.1 (fx_X12_ends_69_l65 v1 s) := by
  unfold fx_X12_ends_69_l65
  refine J_iload_n (j := 2) dX12_ends_65 rfl rfl ?_
  refine J_iconst (v := 4) dX12_ends_66 (by decide) ?_
  refine J_icmp_ge (tgt := 90) dX12_ends_67 (by decide) ?_ ?_
  · exact J_cut [0, 1] (lv' := [(0, .ref (llAd G 69)), (1, .int v1)]) rfl (fun h => h)
  · refine J_aload_n (j := 0) dX12_ends_70 rfl rfl ?_
    refine J_getR (b := 97) dX12_ends_71 fl_X12_98 sh_69 rfl ?_
    refine J_iload_n (j := 2) dX12_ends_74 rfl rfl ?_
    refine J_iconst (v := 0) dX12_ends_75 (by decide) ?_
    refine J_iast dX12_ends_76 sh_97 (fun u9 => ?_)
    refine J_aload_n (j := 0) dX12_ends_77 rfl rfl ?_
    refine J_getR (b := 99) dX12_ends_78 fl_X12_104 sh_69 rfl ?_
    refine J_iload_n (j := 2) dX12_ends_81 rfl rfl ?_
    refine J_iconst (v := 0) dX12_ends_82 (by decide) ?_
    refine J_iast dX12_ends_83 sh_99 (fun u10 => ?_)
    refine J_iinc (j := 2) (b := 1) (fun v2_11 => [(2, .int v2_11), (0, .ref (llAd G 69)), (1, .int v1)]) dX12_ends_84 rfl (by decide) (by decide) (fun _ => rfl) (fun v2_11 => ?_)
    refine J_goto (tgt := 65) dX12_ends_87 (by decide) ?_
    exact J_cut [1, 2, 0] (lv' := [(0, .ref (llAd G 69)), (1, .int v1), (2, .int v2_11)]) rfl (fun h => h)
def fx_X12_mayFrom_69_j36_b4 (u : llMem) (v1 : Int32) (v3 : Int32) (t0 : Int32) (t1 : Int32) : Option ((Int32 × Int32) ⊕ (Int32)) := (fx_X12_one u t1).bind (fun r1 => lt (t0 + r1) (fun v2_2 => lt (v3 + 1) (fun v3_3 => some (.inl (v2_2, v3_3)))))
set_option maxRecDepth 20000 in
theorem t_X12_mayFrom_69_j36_b4 {G : llG} {d : Nat} (u : llMem) (v1 : Int32) (v3 : Int32) (t0 : Int32) (t1 : Int32) : llJ G RX12 cX12_mayFrom 4 (some .int) (d + 1) (Sum.elim (fun s' => llJq G 4 4 [(0, .ref (llAd G 69)), (1, .int v1), (2, .int s'.1), (3, .int s'.2)] [] u) (fun e => llJq G 4 47 [(2, .int e)] [] u)) 36 [(0, .ref (llAd G 69)), (1, .int v1), (3, .int v3)] [.int t1, .int t0] u (fx_X12_mayFrom_69_j36_b4 u v1 v3 t0 t1) := by
  unfold fx_X12_mayFrom_69_j36_b4
  refine J_callSip1 dX12_mayFrom_36 (t_X12_one (llL G) (llFx G) d u t1) ym_X12_one wd_1439 (Nat.le_of_ble_eq_true rfl) (fun r1 => ?_)
  refine J_iadd dX12_mayFrom_39 ?_
  refine J_istore_nL (fun v2_2 => [(2, .int v2_2), (0, .ref (llAd G 69)), (1, .int v1), (3, .int v3)]) dX12_mayFrom_40 rfl (by decide) (fun _ => rfl) (fun v2_2 => ?_)
  refine J_iinc (j := 3) (b := 1) (fun v3_3 => [(3, .int v3_3), (2, .int v2_2), (0, .ref (llAd G 69)), (1, .int v1)]) dX12_mayFrom_41 rfl (by decide) (by decide) (fun _ => rfl) (fun v3_3 => ?_)
  refine J_goto (tgt := 4) dX12_mayFrom_44 (by decide) ?_
  exact J_cut [2, 3, 1, 0] (lv' := [(0, .ref (llAd G 69)), (1, .int v1), (2, .int v2_2), (3, .int v3_3)]) rfl (fun h => h)
def fx_X12_mayFrom_69_j35_b4 (u : llMem) (v1 : Int32) (v3 : Int32) (t0 : Int32) : Option ((Int32 × Int32) ⊕ (Int32)) := fx_X12_mayFrom_69_j36_b4 u v1 v3 t0 0
set_option maxRecDepth 20000 in
theorem t_X12_mayFrom_69_j35_b4 {G : llG} {d : Nat} (u : llMem) (v1 : Int32) (v3 : Int32) (t0 : Int32) : llJ G RX12 cX12_mayFrom 4 (some .int) (d + 1) (Sum.elim (fun s' => llJq G 4 4 [(0, .ref (llAd G 69)), (1, .int v1), (2, .int s'.1), (3, .int s'.2)] [] u) (fun e => llJq G 4 47 [(2, .int e)] [] u)) 35 [(0, .ref (llAd G 69)), (1, .int v1), (3, .int v3)] [.int t0] u (fx_X12_mayFrom_69_j35_b4 u v1 v3 t0) := by
  unfold fx_X12_mayFrom_69_j35_b4
  refine J_iconst (v := 0) dX12_mayFrom_35 (by decide) ?_
  refine J_sub [0, 1, 2] (lv' := [(0, .ref (llAd G 69)), (1, .int v1), (3, .int v3)]) rfl ?_
  exact t_X12_mayFrom_69_j36_b4 u v1 v3 t0 0
def fx_X12_may_69 (u : llMem) (a0 : Int32) : Option Int32 := gI a0 60 ((if (rI u 74 a0) ≤ 0 then gB 0 (some 0) else gI (30 + a0) 1020 ((if ¬ (rI u 77 (30 + a0)) = 0 then gB 0 (some 0) else gI (60 + a0) 1020 ((if ¬ (rI u 77 (60 + a0)) = 0 then gB 0 (some 0) else gI (0 + a0) 1020 (gI a0 60 (gI ((4 * ((rI u 74 a0) - 1)) + 3) 32 ((if (rI u 77 (0 + a0)) < (rI u 70 ((4 * ((rI u 74 a0) - 1)) + 3)) then gB 0 (some 0) else gB 1 (some 1)))))))))))
set_option maxRecDepth 20000 in
theorem tj_X12_may_69 {G : llG} {d : Nat} (u : llMem) (a0 : Int32) : llJ G RX12 cX12_may 2 (some .boolean) d (fun r => llRet G (llI r) u) 0 [(0, .ref (llAd G 69)), (1, .int a0)] [] u (fx_X12_may_69 u a0) := by
  unfold fx_X12_may_69
  refine J_aload_n (j := 0) dX12_may_0 rfl rfl ?_
  refine J_getR (b := 74) dX12_may_1 fl_X12_23 sh_69 rfl ?_
  refine J_iload_n (j := 1) dX12_may_4 rfl rfl ?_
  refine J_iald dX12_may_5 sh_74 ?_
  refine J_if_le (tgt := 65) dX12_may_6 (by decide) ?_ ?_
  · refine J_iconst (v := 0) dX12_may_65 (by decide) ?_
    exact J_zret dX12_may_66 (fun h => h)
  · refine J_aload_n (j := 0) dX12_may_9 rfl rfl ?_
    refine J_getR (b := 77) dX12_may_10 fl_X12_32 sh_69 rfl ?_
    refine J_bipush (v := 30) dX12_may_13 (by decide) ?_
    refine J_iload_n (j := 1) dX12_may_15 rfl rfl ?_
    refine J_iadd dX12_may_16 ?_
    refine J_iald dX12_may_17 sh_77 ?_
    refine J_if_ne (tgt := 65) dX12_may_18 (by decide) ?_ ?_
    · refine J_iconst (v := 0) dX12_may_65 (by decide) ?_
      exact J_zret dX12_may_66 (fun h => h)
    · refine J_aload_n (j := 0) dX12_may_21 rfl rfl ?_
      refine J_getR (b := 77) dX12_may_22 fl_X12_32 sh_69 rfl ?_
      refine J_bipush (v := 60) dX12_may_25 (by decide) ?_
      refine J_iload_n (j := 1) dX12_may_27 rfl rfl ?_
      refine J_iadd dX12_may_28 ?_
      refine J_iald dX12_may_29 sh_77 ?_
      refine J_if_ne (tgt := 65) dX12_may_30 (by decide) ?_ ?_
      · refine J_iconst (v := 0) dX12_may_65 (by decide) ?_
        exact J_zret dX12_may_66 (fun h => h)
      · refine J_aload_n (j := 0) dX12_may_33 rfl rfl ?_
        refine J_getR (b := 77) dX12_may_34 fl_X12_32 sh_69 rfl ?_
        refine J_iconst (v := 0) dX12_may_37 (by decide) ?_
        refine J_iload_n (j := 1) dX12_may_38 rfl rfl ?_
        refine J_iadd dX12_may_39 ?_
        refine J_iald dX12_may_40 sh_77 ?_
        refine J_aload_n (j := 0) dX12_may_41 rfl rfl ?_
        refine J_getR (b := 70) dX12_may_42 fl_X12_7 sh_69 rfl ?_
        refine J_iconst (v := 4) dX12_may_45 (by decide) ?_
        refine J_aload_n (j := 0) dX12_may_46 rfl rfl ?_
        refine J_getR (b := 74) dX12_may_47 fl_X12_23 sh_69 rfl ?_
        refine J_iload_n (j := 1) dX12_may_50 rfl rfl ?_
        refine J_iald dX12_may_51 sh_74 ?_
        refine J_iconst (v := 1) dX12_may_52 (by decide) ?_
        refine J_isub dX12_may_53 ?_
        refine J_imul dX12_may_54 ?_
        refine J_iconst (v := 3) dX12_may_55 (by decide) ?_
        refine J_iadd dX12_may_56 ?_
        refine J_iald dX12_may_57 sh_70 ?_
        refine J_icmp_lt (tgt := 65) dX12_may_58 (by decide) ?_ ?_
        · refine J_iconst (v := 0) dX12_may_65 (by decide) ?_
          exact J_zret dX12_may_66 (fun h => h)
        · refine J_iconst (v := 1) dX12_may_61 (by decide) ?_
          refine J_goto (tgt := 66) dX12_may_62 (by decide) ?_
          exact J_zret dX12_may_66 (fun h => h)
theorem t_X12_may_69 (l : Launch) (F : llFix) (d : Nat) (u : llMem) (a0 : Int32) : llCp l F yX12_may cX12_may 2 (some .boolean) d [.ref (F.2.2.1 69), .int a0] u llI (fx_X12_may_69 u a0) := llCp.of (by decide +kernel) (by exact Nat.le_of_ble_eq_true rfl) (fun G h1 h2 => by subst h1; subst h2; exact tj_X12_may_69 u a0)
def fx_X12_mayFrom_69_l4 (u : llMem) (v1 : Int32) (s : Int32 × Int32) : Option ((Int32 × Int32) ⊕ (Int32)) := (if (u.1 69 9) ≤ s.2 then some (.inr s.1) else gI s.2 60 ((if ¬ (rI u 74 s.2) = v1 then fx_X12_mayFrom_69_j35_b4 u v1 s.2 s.1 else (fx_X12_may_69 u s.2).bind (fun r4 => (if r4 = 0 then fx_X12_mayFrom_69_j35_b4 u v1 s.2 s.1 else fx_X12_mayFrom_69_j36_b4 u v1 s.2 s.1 1)))))
set_option maxRecDepth 20000 in
theorem t_X12_mayFrom_69_l4 {G : llG} {d : Nat} (u : llMem) (v1 : Int32) (s : Int32 × Int32) : llJ G RX12 cX12_mayFrom 4 (some .int) (d + 1) (Sum.elim (fun s' => llJq G 4 4 [(0, .ref (llAd G 69)), (1, .int v1), (2, .int s'.1), (3, .int s'.2)] [] u) (fun e => llJq G 4 47 [(2, .int e)] [] u)) 4 [(0, .ref (llAd G 69)), (1, .int v1), (2, .int s.1), (3, .int s.2)] [] u (fx_X12_mayFrom_69_l4 u v1 s) := by
  unfold fx_X12_mayFrom_69_l4
  refine J_iload_n (j := 3) dX12_mayFrom_4 rfl rfl ?_
  refine J_aload_n (j := 0) dX12_mayFrom_5 rfl rfl ?_
  refine J_getI dX12_mayFrom_6 fl_X12_263 sh_69 rfl ?_
  refine J_icmp_ge (tgt := 47) dX12_mayFrom_9 (by decide) ?_ ?_
  · exact J_cut [2] (lv' := [(2, .int s.1)]) rfl (fun h => h)
  · refine J_iload_n (j := 2) dX12_mayFrom_12 rfl rfl ?_
    refine J_aload_n (j := 0) dX12_mayFrom_13 rfl rfl ?_
    refine J_getR (b := 74) dX12_mayFrom_14 fl_X12_23 sh_69 rfl ?_
    refine J_iload_n (j := 3) dX12_mayFrom_17 rfl rfl ?_
    refine J_iald dX12_mayFrom_18 sh_74 ?_
    refine J_iload_n (j := 1) dX12_mayFrom_19 rfl rfl ?_
    refine J_icmp_ne (tgt := 35) dX12_mayFrom_20 (by decide) ?_ ?_
    · refine J_sub [0, 1, 3] (lv' := [(0, .ref (llAd G 69)), (1, .int v1), (3, .int s.2)]) rfl ?_
      exact t_X12_mayFrom_69_j35_b4 u v1 s.2 s.1
    · refine J_aload_n (j := 0) dX12_mayFrom_23 rfl rfl ?_
      refine J_iload_n (j := 3) dX12_mayFrom_24 rfl rfl ?_
      refine J_callVip1 dX12_mayFrom_25 (t_X12_may_69 (llL G) (llFx G) d u s.2) ym_X12_may wd_1557 sh_69 rfl (Nat.le_of_ble_eq_true rfl) (fun r4 => ?_)
      refine J_if_eq (tgt := 35) dX12_mayFrom_28 (by decide) ?_ ?_
      · refine J_sub [0, 1, 3] (lv' := [(0, .ref (llAd G 69)), (1, .int v1), (3, .int s.2)]) rfl ?_
        exact t_X12_mayFrom_69_j35_b4 u v1 s.2 s.1
      · refine J_iconst (v := 1) dX12_mayFrom_31 (by decide) ?_
        refine J_goto (tgt := 36) dX12_mayFrom_32 (by decide) ?_
        refine J_sub [0, 1, 3] (lv' := [(0, .ref (llAd G 69)), (1, .int v1), (3, .int s.2)]) rfl ?_
        exact t_X12_mayFrom_69_j36_b4 u v1 s.2 s.1 1
def fx_X12_mayFrom_69 (u : llMem) (a0 : Int32) : Option Int32 := (loop (fx_X12_mayFrom_69_l4 u a0) llFuel (0, 0)).bind (fun e5 => some e5)
set_option maxRecDepth 20000 in
theorem tj_X12_mayFrom_69 {G : llG} {d : Nat} (u : llMem) (a0 : Int32) : llJ G RX12 cX12_mayFrom 4 (some .int) (d + 1) (fun r => llRet G (llI r) u) 0 [(0, .ref (llAd G 69)), (1, .int a0)] [] u (fx_X12_mayFrom_69 u a0) := by
  unfold fx_X12_mayFrom_69
  refine J_iconst (v := 0) dX12_mayFrom_0 (by decide) ?_
  refine J_istore_n [(2, .int 0), (0, .ref (llAd G 69)), (1, .int a0)] dX12_mayFrom_1 rfl (by decide) rfl ?_
  refine J_iconst (v := 0) dX12_mayFrom_2 (by decide) ?_
  refine J_istore_n [(3, .int 0), (2, .int 0), (0, .ref (llAd G 69)), (1, .int a0)] dX12_mayFrom_3 rfl (by decide) rfl ?_
  refine J_loopE (fun s' => [(0, .ref (llAd G 69)), (1, .int a0), (2, .int s'.1), (3, .int s'.2)]) (fun s' => u) 47 (fun e => [(2, .int e)]) (fun e => u) (fun z => t_X12_mayFrom_69_l4 u a0 z) [2, 3, 1, 0] rfl rfl (fun e5 => ?_)
  refine J_iload_n (j := 0) dX12_mayFrom_47 rfl rfl ?_
  exact J_iret dX12_mayFrom_48 (fun h => h)
theorem t_X12_mayFrom_69 (l : Launch) (F : llFix) (d : Nat) (u : llMem) (a0 : Int32) : llCp l F yX12_mayFrom cX12_mayFrom 4 (some .int) (d + 1) [.ref (F.2.2.1 69), .int a0] u llI (fx_X12_mayFrom_69 u a0) := llCp.of (by decide +kernel) (by exact Nat.le_of_ble_eq_true rfl) (fun G h1 h2 => by subst h1; subst h2; exact tj_X12_mayFrom_69 u a0)
def fx_X12_picks_69_j77_b3 (u : llMem) (v1 : Int32) (v2 : Int32) (v3 : Int32) (v4 : Int32) : Option ((llMem × Int32) ⊕ (llMem)) := lt (v4 + 1) (fun v4_2 => some (.inl (u, v4_2)))
set_option maxRecDepth 20000 in
theorem t_X12_picks_69_j77_b3 {G : llG} {d : Nat} (u : llMem) (v1 : Int32) (v2 : Int32) (v3 : Int32) (v4 : Int32) : llJ G RX12 cX12_picks 6 none (d + 1) (Sum.elim (fun s' => llJq G 6 3 [(0, .ref (llAd G 69)), (1, .int v1), (2, .int v2), (3, .int v3), (4, .int s'.2)] [] s'.1) (fun e => llJq G 6 83 [] [] e)) 77 [(0, .ref (llAd G 69)), (1, .int v1), (2, .int v2), (3, .int v3), (4, .int v4)] [] u (fx_X12_picks_69_j77_b3 u v1 v2 v3 v4) := by
  unfold fx_X12_picks_69_j77_b3
  refine J_iinc (j := 4) (b := 1) (fun v4_2 => [(4, .int v4_2), (0, .ref (llAd G 69)), (1, .int v1), (2, .int v2), (3, .int v3)]) dX12_picks_77 rfl (by decide) (by decide) (fun _ => rfl) (fun v4_2 => ?_)
  refine J_goto (tgt := 3) dX12_picks_80 (by decide) ?_
  exact J_cut [1, 2, 3, 4, 0] (lv' := [(0, .ref (llAd G 69)), (1, .int v1), (2, .int v2), (3, .int v3), (4, .int v4_2)]) rfl (fun h => h)
def fx_X12_goesUp_69 (u : llMem) (a0 : Int32) : Option (llMem × Unit) := gI a0 60 (lt (rI u 74 a0) (fun v2_1 => gI a0 30 (lt (llSI u 92 (Int32.toNatClampNeg a0) (vp_nar .boolean 1)) (fun u2 => gI v2_1 4 (gI ((12 * v2_1) + (rI u2 97 v2_1)) 48 (lt (llSI u2 96 (Int32.toNatClampNeg ((12 * v2_1) + (rI u2 97 v2_1))) a0) (fun u3 => gI v2_1 4 (gI v2_1 4 (lt (llSI u3 97 (Int32.toNatClampNeg v2_1) ((rI u3 97 v2_1) + 1)) (fun u4 => some (u4, ())))))))))))
set_option maxRecDepth 20000 in
theorem tj_X12_goesUp_69 {G : llG} {d : Nat} (u : llMem) (a0 : Int32) : llJ G RX12 cX12_goesUp 3 none d (fun r => llRet G (llVd r.2) r.1) 0 [(0, .ref (llAd G 69)), (1, .int a0)] [] u (fx_X12_goesUp_69 u a0) := by
  unfold fx_X12_goesUp_69
  refine J_aload_n (j := 0) dX12_goesUp_0 rfl rfl ?_
  refine J_getR (b := 74) dX12_goesUp_1 fl_X12_23 sh_69 rfl ?_
  refine J_iload_n (j := 1) dX12_goesUp_4 rfl rfl ?_
  refine J_iald dX12_goesUp_5 sh_74 ?_
  refine J_istore_nL (fun v2_1 => [(2, .int v2_1), (0, .ref (llAd G 69)), (1, .int a0)]) dX12_goesUp_6 rfl (by decide) (fun _ => rfl) (fun v2_1 => ?_)
  refine J_aload_n (j := 1) dX12_goesUp_7 rfl rfl ?_
  refine J_getR (b := 92) dX12_goesUp_8 fl_X12_82 sh_69 rfl ?_
  refine J_iload_n (j := 2) dX12_goesUp_11 rfl rfl ?_
  refine J_iconst (v := 1) dX12_goesUp_12 (by decide) ?_
  refine J_zast dX12_goesUp_13 sh_92 (fun u2 => ?_)
  refine J_aload_n (j := 1) dX12_goesUp_14 rfl rfl ?_
  refine J_getR (b := 96) dX12_goesUp_15 fl_X12_95 sh_69 rfl ?_
  refine J_bipush (v := 12) dX12_goesUp_18 (by decide) ?_
  refine J_iload_n (j := 0) dX12_goesUp_20 rfl rfl ?_
  refine J_imul dX12_goesUp_21 ?_
  refine J_aload_n (j := 1) dX12_goesUp_22 rfl rfl ?_
  refine J_getR (b := 97) dX12_goesUp_23 fl_X12_98 sh_69 rfl ?_
  refine J_iload_n (j := 0) dX12_goesUp_26 rfl rfl ?_
  refine J_iald dX12_goesUp_27 sh_97 ?_
  refine J_iadd dX12_goesUp_28 ?_
  refine J_iload_n (j := 2) dX12_goesUp_29 rfl rfl ?_
  refine J_iast dX12_goesUp_30 sh_96 (fun u3 => ?_)
  refine J_aload_n (j := 1) dX12_goesUp_31 rfl rfl ?_
  refine J_getR (b := 97) dX12_goesUp_32 fl_X12_98 sh_69 rfl ?_
  refine J_iload_n (j := 0) dX12_goesUp_35 rfl rfl ?_
  refine J_dup2 dX12_goesUp_36 rfl rfl ?_
  refine J_iald dX12_goesUp_37 sh_97 ?_
  refine J_iconst (v := 1) dX12_goesUp_38 (by decide) ?_
  refine J_iadd dX12_goesUp_39 ?_
  refine J_iast dX12_goesUp_40 sh_97 (fun u4 => ?_)
  exact J_vret dX12_goesUp_41 (fun h => h)
theorem t_X12_goesUp_69 (l : Launch) (F : llFix) (d : Nat) (u : llMem) (a0 : Int32) : llCt l F yX12_goesUp cX12_goesUp 3 none d [.ref (F.2.2.1 69), .int a0] u llVd (fx_X12_goesUp_69 u a0) := llCt.of (by decide +kernel) (by exact Nat.le_of_ble_eq_true rfl) (fun G h1 h2 => by subst h1; subst h2; exact tj_X12_goesUp_69 u a0)
def fx_X12_picks_69_l3 (v1 : Int32) (v2 : Int32) (v3 : Int32) (s : llMem × Int32) : Option ((llMem × Int32) ⊕ (llMem)) := gI v1 4 ((if (rI s.1 87 v1) ≤ s.2 then some (.inr s.1) else gI v1 4 ((if v2 ≤ (rI s.1 97 v1) then some (.inr s.1) else gI ((12 * v1) + s.2) 48 (lt (rI s.1 86 ((12 * v1) + s.2)) (fun v5_1 => gI v5_1 30 ((if ¬ (rI s.1 92 v5_1) = 0 then fx_X12_picks_69_j77_b3 s.1 v1 v2 v3 s.2 else gI (30 + v5_1) 1020 ((if ¬ (rI s.1 77 (30 + v5_1)) = 0 then fx_X12_picks_69_j77_b3 s.1 v1 v2 v3 s.2 else (fx_X12_may_69 s.1 v5_1).bind (fun r3 => (if ¬ r3 = v3 then fx_X12_picks_69_j77_b3 s.1 v1 v2 v3 s.2 else bd (fx_X12_goesUp_69 s.1 v5_1) (fun u4 _ => fx_X12_picks_69_j77_b3 u4 v1 v2 v3 s.2)))))))))))))
set_option maxRecDepth 20000 in
theorem t_X12_picks_69_l3 {G : llG} {d : Nat} (v1 : Int32) (v2 : Int32) (v3 : Int32) (s : llMem × Int32) : llJ G RX12 cX12_picks 6 none (d + 1) (Sum.elim (fun s' => llJq G 6 3 [(0, .ref (llAd G 69)), (1, .int v1), (2, .int v2), (3, .int v3), (4, .int s'.2)] [] s'.1) (fun e => llJq G 6 83 [] [] e)) 3 [(0, .ref (llAd G 69)), (1, .int v1), (2, .int v2), (3, .int v3), (4, .int s.2)] [] s.1 (fx_X12_picks_69_l3 v1 v2 v3 s) := by
  unfold fx_X12_picks_69_l3
  refine J_iload (j := 4) dX12_picks_3 rfl ?_
  refine J_aload_n (j := 0) dX12_picks_5 rfl rfl ?_
  refine J_getR (b := 87) dX12_picks_6 fl_X12_67 sh_69 rfl ?_
  refine J_iload_n (j := 1) dX12_picks_9 rfl rfl ?_
  refine J_iald dX12_picks_10 sh_87 ?_
  refine J_icmp_ge (tgt := 83) dX12_picks_11 (by decide) ?_ ?_
  · exact J_cut [] (lv' := []) rfl (fun h => h)
  · refine J_aload_n (j := 0) dX12_picks_14 rfl rfl ?_
    refine J_getR (b := 97) dX12_picks_15 fl_X12_98 sh_69 rfl ?_
    refine J_iload_n (j := 1) dX12_picks_18 rfl rfl ?_
    refine J_iald dX12_picks_19 sh_97 ?_
    refine J_iload_n (j := 2) dX12_picks_20 rfl rfl ?_
    refine J_icmp_ge (tgt := 83) dX12_picks_21 (by decide) ?_ ?_
    · exact J_cut [] (lv' := []) rfl (fun h => h)
    · refine J_aload_n (j := 0) dX12_picks_24 rfl rfl ?_
      refine J_getR (b := 86) dX12_picks_25 fl_X12_64 sh_69 rfl ?_
      refine J_bipush (v := 12) dX12_picks_28 (by decide) ?_
      refine J_iload_n (j := 1) dX12_picks_30 rfl rfl ?_
      refine J_imul dX12_picks_31 ?_
      refine J_iload (j := 4) dX12_picks_32 rfl ?_
      refine J_iadd dX12_picks_34 ?_
      refine J_iald dX12_picks_35 sh_86 ?_
      refine J_istoreL (fun v5_1 => [(5, .int v5_1), (0, .ref (llAd G 69)), (1, .int v1), (2, .int v2), (3, .int v3), (4, .int s.2)]) dX12_picks_36 (by decide) (fun _ => rfl) (fun v5_1 => ?_)
      refine J_aload_n (j := 1) dX12_picks_38 rfl rfl ?_
      refine J_getR (b := 92) dX12_picks_39 fl_X12_82 sh_69 rfl ?_
      refine J_iload (j := 0) dX12_picks_42 rfl ?_
      refine J_zald dX12_picks_44 sh_92 ?_
      refine J_if_ne (tgt := 77) dX12_picks_45 (by decide) ?_ ?_
      · refine J_sub [1, 2, 3, 4, 5] (lv' := [(0, .ref (llAd G 69)), (1, .int v1), (2, .int v2), (3, .int v3), (4, .int s.2)]) rfl ?_
        exact t_X12_picks_69_j77_b3 s.1 v1 v2 v3 s.2
      · refine J_aload_n (j := 1) dX12_picks_48 rfl rfl ?_
        refine J_getR (b := 77) dX12_picks_49 fl_X12_32 sh_69 rfl ?_
        refine J_bipush (v := 30) dX12_picks_52 (by decide) ?_
        refine J_iload (j := 0) dX12_picks_54 rfl ?_
        refine J_iadd dX12_picks_56 ?_
        refine J_iald dX12_picks_57 sh_77 ?_
        refine J_if_ne (tgt := 77) dX12_picks_58 (by decide) ?_ ?_
        · refine J_sub [1, 2, 3, 4, 5] (lv' := [(0, .ref (llAd G 69)), (1, .int v1), (2, .int v2), (3, .int v3), (4, .int s.2)]) rfl ?_
          exact t_X12_picks_69_j77_b3 s.1 v1 v2 v3 s.2
        · refine J_aload_n (j := 1) dX12_picks_61 rfl rfl ?_
          refine J_iload (j := 0) dX12_picks_62 rfl ?_
          refine J_callVip1 dX12_picks_64 (t_X12_may_69 (llL G) (llFx G) d s.1 v5_1) ym_X12_may wd_1557 sh_69 rfl (Nat.le_of_ble_eq_true rfl) (fun r3 => ?_)
          refine J_iload_n (j := 4) dX12_picks_67 rfl rfl ?_
          refine J_icmp_ne (tgt := 77) dX12_picks_68 (by decide) ?_ ?_
          · refine J_sub [1, 2, 3, 4, 5] (lv' := [(0, .ref (llAd G 69)), (1, .int v1), (2, .int v2), (3, .int v3), (4, .int s.2)]) rfl ?_
            exact t_X12_picks_69_j77_b3 s.1 v1 v2 v3 s.2
          · refine J_aload_n (j := 1) dX12_picks_71 rfl rfl ?_
            refine J_iload (j := 0) dX12_picks_72 rfl ?_
            refine J_callVv1 dX12_picks_74 (t_X12_goesUp_69 (llL G) (llFx G) d s.1 v5_1) ym_X12_goesUp wd_1565 sh_69 rfl (Nat.le_of_ble_eq_true rfl) (fun u4 => ?_)
            refine J_sub [1, 2, 3, 4, 5] (lv' := [(0, .ref (llAd G 69)), (1, .int v1), (2, .int v2), (3, .int v3), (4, .int s.2)]) rfl ?_
            exact t_X12_picks_69_j77_b3 u4 v1 v2 v3 s.2
def fx_X12_picks_69 (u : llMem) (a0 : Int32) (a1 : Int32) (a2 : Int32) : Option (llMem × Unit) := (loop (fx_X12_picks_69_l3 a0 a1 a2) llFuel (u, 0)).bind (fun e5 => some (e5, ()))
set_option maxRecDepth 20000 in
theorem tj_X12_picks_69 {G : llG} {d : Nat} (u : llMem) (a0 : Int32) (a1 : Int32) (a2 : Int32) : llJ G RX12 cX12_picks 6 none (d + 1) (fun r => llRet G (llVd r.2) r.1) 0 [(0, .ref (llAd G 69)), (1, .int a0), (2, .int a1), (3, .int a2)] [] u (fx_X12_picks_69 u a0 a1 a2) := by
  unfold fx_X12_picks_69
  refine J_iconst (v := 0) dX12_picks_0 (by decide) ?_
  refine J_istore [(4, .int 0), (0, .ref (llAd G 69)), (1, .int a0), (2, .int a1), (3, .int a2)] dX12_picks_1 (by decide) rfl ?_
  refine J_loopE (fun s' => [(0, .ref (llAd G 69)), (1, .int a0), (2, .int a1), (3, .int a2), (4, .int s'.2)]) (fun s' => s'.1) 83 (fun e => []) (fun e => e) (fun z => t_X12_picks_69_l3 a0 a1 a2 z) [1, 2, 3, 4, 0] rfl rfl (fun e5 => ?_)
  exact J_vret dX12_picks_83 (fun h => h)
theorem t_X12_picks_69 (l : Launch) (F : llFix) (d : Nat) (u : llMem) (a0 : Int32) (a1 : Int32) (a2 : Int32) : llCt l F yX12_picks cX12_picks 6 none (d + 1) [.ref (F.2.2.1 69), .int a0, .int a1, .int a2] u llVd (fx_X12_picks_69 u a0 a1 a2) := llCt.of (by decide +kernel) (by exact Nat.le_of_ble_eq_true rfl) (fun G h1 h2 => by subst h1; subst h2; exact tj_X12_picks_69 u a0 a1 a2)
def fx_X12_ends_69_j200_b92 (u : llMem) (v2 : Int32) (t0 : Int32) : Option ((llMem × Int32 × Int32) ⊕ (llMem × Int32)) := lt (v2 + 1) (fun v2_17 => some (.inl (u, t0, v2_17)))
set_option maxRecDepth 20000 in
theorem t_X12_ends_69_j200_b92 {G : llG} {d : Nat} (u : llMem) (v2 : Int32) (t0 : Int32) : llJ G RX12 cX12_ends 7 (some .boolean) (d + 7) (Sum.elim (fun s' => llJq G 7 92 [(0, .ref (llAd G 69)), (1, .int s'.2.1), (2, .int s'.2.2)] [] s'.1) (fun e => llJq G 7 207 [(0, .ref (llAd G 69)), (1, .int e.2)] [] e.1)) 200 [(0, .ref (llAd G 69)), (2, .int v2)] [.int t0] u (fx_X12_ends_69_j200_b92 u v2 t0) := by
  unfold fx_X12_ends_69_j200_b92
  refine J_istore_n [(1, .int t0), (0, .ref (llAd G 69)), (2, .int v2)] dX12_ends_200 rfl (by decide) rfl ?_
  refine J_iinc (j := 2) (b := 1) (fun v2_17 => [(2, .int v2_17), (1, .int t0), (0, .ref (llAd G 69))]) dX12_ends_201 rfl (by decide) (by decide) (fun _ => rfl) (fun v2_17 => ?_)
  refine J_goto (tgt := 92) dX12_ends_204 (by decide) ?_
  exact J_cut [2, 1, 0] (lv' := [(0, .ref (llAd G 69)), (1, .int t0), (2, .int v2_17)]) rfl (fun h => h)
def fx_X12_ends_69_j199_b92 (u : llMem) (v2 : Int32) : Option ((llMem × Int32 × Int32) ⊕ (llMem × Int32)) := fx_X12_ends_69_j200_b92 u v2 0
set_option maxRecDepth 20000 in
theorem t_X12_ends_69_j199_b92 {G : llG} {d : Nat} (u : llMem) (v2 : Int32) : llJ G RX12 cX12_ends 7 (some .boolean) (d + 7) (Sum.elim (fun s' => llJq G 7 92 [(0, .ref (llAd G 69)), (1, .int s'.2.1), (2, .int s'.2.2)] [] s'.1) (fun e => llJq G 7 207 [(0, .ref (llAd G 69)), (1, .int e.2)] [] e.1)) 199 [(0, .ref (llAd G 69)), (2, .int v2)] [] u (fx_X12_ends_69_j199_b92 u v2) := by
  unfold fx_X12_ends_69_j199_b92
  refine J_iconst (v := 0) dX12_ends_199 (by decide) ?_
  refine J_sub [0, 1] (lv' := [(0, .ref (llAd G 69)), (2, .int v2)]) rfl ?_
  exact t_X12_ends_69_j200_b92 u v2 0
def fx_X12_ends_69_l92  (s : llMem × Int32 × Int32) : Option ((llMem × Int32 × Int32) ⊕ (llMem × Int32)) := (if (s.1.1 69 1) ≤ (s.2.2 + 1) then some (.inr (s.1, s.2.1)) else gI s.2.2 4 (gI ((4 * s.2.2) + 2) 32 (gI s.2.2 4 ((fx_X12_mayFrom_69 s.1 (s.2.2 + 1)).bind (fun r13 => gI s.2.2 4 (lt (llSI s.1 99 (Int32.toNatClampNeg s.2.2) (if (rI s.1 98 s.2.2) < (if r13 < (if (rI s.1 70 ((4 * s.2.2) + 2)) < (rI s.1 98 s.2.2) then (rI s.1 98 s.2.2) else (rI s.1 70 ((4 * s.2.2) + 2))) then r13 else (if (rI s.1 70 ((4 * s.2.2) + 2)) < (rI s.1 98 s.2.2) then (rI s.1 98 s.2.2) else (rI s.1 70 ((4 * s.2.2) + 2)))) then (if r13 < (if (rI s.1 70 ((4 * s.2.2) + 2)) < (rI s.1 98 s.2.2) then (rI s.1 98 s.2.2) else (rI s.1 70 ((4 * s.2.2) + 2))) then r13 else (if (rI s.1 70 ((4 * s.2.2) + 2)) < (rI s.1 98 s.2.2) then (rI s.1 98 s.2.2) else (rI s.1 70 ((4 * s.2.2) + 2)))) else (rI s.1 98 s.2.2))) (fun u14 => gI s.2.2 4 (bd (fx_X12_picks_69 u14 (s.2.2 + 1) (rI u14 99 s.2.2) 1) (fun u15 _ => gI s.2.2 4 (bd (fx_X12_picks_69 u15 (s.2.2 + 1) (rI u15 99 s.2.2) 0) (fun u16 _ => (if s.2.1 = 0 then fx_X12_ends_69_j199_b92 u16 s.2.2 else gI (s.2.2 + 1) 4 (gI s.2.2 4 ((if ¬ (rI u16 97 (s.2.2 + 1)) = (rI u16 99 s.2.2) then fx_X12_ends_69_j199_b92 u16 s.2.2 else fx_X12_ends_69_j200_b92 u16 s.2.2 1)))))))))))))))
set_option maxRecDepth 20000 in
theorem t_X12_ends_69_l92 {G : llG} {d : Nat}  (s : llMem × Int32 × Int32) : llJ G RX12 cX12_ends 7 (some .boolean) (d + 7) (Sum.elim (fun s' => llJq G 7 92 [(0, .ref (llAd G 69)), (1, .int s'.2.1), (2, .int s'.2.2)] [] s'.1) (fun e => llJq G 7 207 [(0, .ref (llAd G 69)), (1, .int e.2)] [] e.1)) 92 [(0, .ref (llAd G 69)), (1, .int s.2.1), (2, .int s.2.2)] [] s.1 (fx_X12_ends_69_l92 s) := by
  unfold fx_X12_ends_69_l92
  refine J_iload_n (j := 2) dX12_ends_92 rfl rfl ?_
  refine J_iconst (v := 1) dX12_ends_93 (by decide) ?_
  refine J_iadd dX12_ends_94 ?_
  refine J_aload_n (j := 0) dX12_ends_95 rfl rfl ?_
  refine J_getI dX12_ends_96 fl_X12_260 sh_69 rfl ?_
  refine J_icmp_ge (tgt := 207) dX12_ends_99 (by decide) ?_ ?_
  · exact J_cut [0, 1] (lv' := [(0, .ref (llAd G 69)), (1, .int s.2.1)]) rfl (fun h => h)
  · refine J_aload_n (j := 0) dX12_ends_102 rfl rfl ?_
    refine J_getR (b := 99) dX12_ends_103 fl_X12_104 sh_69 rfl ?_
    refine J_iload_n (j := 2) dX12_ends_106 rfl rfl ?_
    refine J_aload_n (j := 0) dX12_ends_107 rfl rfl ?_
    refine J_getR (b := 98) dX12_ends_108 fl_X12_101 sh_69 rfl ?_
    refine J_iload_n (j := 2) dX12_ends_111 rfl rfl ?_
    refine J_iald dX12_ends_112 sh_98 ?_
    refine J_aload_n (j := 0) dX12_ends_113 rfl rfl ?_
    refine J_getR (b := 70) dX12_ends_114 fl_X12_7 sh_69 rfl ?_
    refine J_iconst (v := 4) dX12_ends_117 (by decide) ?_
    refine J_iload_n (j := 2) dX12_ends_118 rfl rfl ?_
    refine J_imul dX12_ends_119 ?_
    refine J_iconst (v := 2) dX12_ends_120 (by decide) ?_
    refine J_iadd dX12_ends_121 ?_
    refine J_iald dX12_ends_122 sh_70 ?_
    refine J_aload_n (j := 0) dX12_ends_123 rfl rfl ?_
    refine J_getR (b := 98) dX12_ends_124 fl_X12_101 sh_69 rfl ?_
    refine J_iload_n (j := 2) dX12_ends_127 rfl rfl ?_
    refine J_iald dX12_ends_128 sh_98 ?_
    refine J_mmax dX12_ends_129 wd_1552 wd_758 wd_14 wd_759 (Nat.le_of_ble_eq_true rfl) ?_
    refine J_aload_n (j := 0) dX12_ends_132 rfl rfl ?_
    refine J_iload_n (j := 2) dX12_ends_133 rfl rfl ?_
    refine J_iconst (v := 1) dX12_ends_134 (by decide) ?_
    refine J_iadd dX12_ends_135 ?_
    refine J_callVip1 dX12_ends_136 (t_X12_mayFrom_69 (llL G) (llFx G) (d + 5) s.1 (s.2.2 + 1)) ym_X12_mayFrom wd_1553 sh_69 rfl (Nat.le_of_ble_eq_true rfl) (fun r13 => ?_)
    refine J_mmin dX12_ends_139 wd_1417 wd_561 wd_14 wd_562 (Nat.le_of_ble_eq_true rfl) ?_
    refine J_mmax dX12_ends_142 wd_1552 wd_758 wd_14 wd_759 (Nat.le_of_ble_eq_true rfl) ?_
    refine J_iast dX12_ends_145 sh_99 (fun u14 => ?_)
    refine J_aload_n (j := 0) dX12_ends_146 rfl rfl ?_
    refine J_iload_n (j := 2) dX12_ends_147 rfl rfl ?_
    refine J_iconst (v := 1) dX12_ends_148 (by decide) ?_
    refine J_iadd dX12_ends_149 ?_
    refine J_aload_n (j := 0) dX12_ends_150 rfl rfl ?_
    refine J_getR (b := 99) dX12_ends_151 fl_X12_104 sh_69 rfl ?_
    refine J_iload_n (j := 2) dX12_ends_154 rfl rfl ?_
    refine J_iald dX12_ends_155 sh_99 ?_
    refine J_iconst (v := 1) dX12_ends_156 (by decide) ?_
    refine J_callVv3 dX12_ends_157 (t_X12_picks_69 (llL G) (llFx G) (d + 5) u14 (s.2.2 + 1) (rI u14 99 s.2.2) 1) ym_X12_picks wd_1561 sh_69 rfl (Nat.le_of_ble_eq_true rfl) (fun u15 => ?_)
    refine J_aload_n (j := 0) dX12_ends_160 rfl rfl ?_
    refine J_iload_n (j := 2) dX12_ends_161 rfl rfl ?_
    refine J_iconst (v := 1) dX12_ends_162 (by decide) ?_
    refine J_iadd dX12_ends_163 ?_
    refine J_aload_n (j := 0) dX12_ends_164 rfl rfl ?_
    refine J_getR (b := 99) dX12_ends_165 fl_X12_104 sh_69 rfl ?_
    refine J_iload_n (j := 2) dX12_ends_168 rfl rfl ?_
    refine J_iald dX12_ends_169 sh_99 ?_
    refine J_iconst (v := 0) dX12_ends_170 (by decide) ?_
    refine J_callVv3 dX12_ends_171 (t_X12_picks_69 (llL G) (llFx G) (d + 5) u15 (s.2.2 + 1) (rI u15 99 s.2.2) 0) ym_X12_picks wd_1561 sh_69 rfl (Nat.le_of_ble_eq_true rfl) (fun u16 => ?_)
    refine J_iload_n (j := 1) dX12_ends_174 rfl rfl ?_
    refine J_if_eq (tgt := 199) dX12_ends_175 (by decide) ?_ ?_
    · refine J_sub [0, 2] (lv' := [(0, .ref (llAd G 69)), (2, .int s.2.2)]) rfl ?_
      exact t_X12_ends_69_j199_b92 u16 s.2.2
    · refine J_aload_n (j := 0) dX12_ends_178 rfl rfl ?_
      refine J_getR (b := 97) dX12_ends_179 fl_X12_98 sh_69 rfl ?_
      refine J_iload_n (j := 2) dX12_ends_182 rfl rfl ?_
      refine J_iconst (v := 1) dX12_ends_183 (by decide) ?_
      refine J_iadd dX12_ends_184 ?_
      refine J_iald dX12_ends_185 sh_97 ?_
      refine J_aload_n (j := 0) dX12_ends_186 rfl rfl ?_
      refine J_getR (b := 99) dX12_ends_187 fl_X12_104 sh_69 rfl ?_
      refine J_iload_n (j := 2) dX12_ends_190 rfl rfl ?_
      refine J_iald dX12_ends_191 sh_99 ?_
      refine J_icmp_ne (tgt := 199) dX12_ends_192 (by decide) ?_ ?_
      · refine J_sub [0, 2] (lv' := [(0, .ref (llAd G 69)), (2, .int s.2.2)]) rfl ?_
        exact t_X12_ends_69_j199_b92 u16 s.2.2
      · refine J_iconst (v := 1) dX12_ends_195 (by decide) ?_
        refine J_goto (tgt := 200) dX12_ends_196 (by decide) ?_
        refine J_sub [0, 2] (lv' := [(0, .ref (llAd G 69)), (2, .int s.2.2)]) rfl ?_
        exact t_X12_ends_69_j200_b92 u16 s.2.2 1
def fx_X12_ends_69_j344_b255_b209 (u : llMem) (v1 : Int32) (v2 : Int32) (v3 : Int32) (v4 : Int32) (v5 : Int32) : Option ((llMem × Int32 × Int32 × Int32) ⊕ (llMem × Int32)) := lt (v5 + (-1)) (fun v5_23 => some (.inl (u, v3, v4, v5_23)))
set_option maxRecDepth 20000 in
theorem t_X12_ends_69_j344_b255_b209 {G : llG} {d : Nat} (u : llMem) (v1 : Int32) (v2 : Int32) (v3 : Int32) (v4 : Int32) (v5 : Int32) : llJ G RX12 cX12_ends 7 (some .boolean) (d + 7) (Sum.elim (fun s' => llJq G 7 255 [(0, .ref (llAd G 69)), (1, .int v1), (2, .int v2), (3, .int s'.2.1), (4, .int s'.2.2.1), (5, .int s'.2.2.2)] [] s'.1) (fun e => llJq G 7 350 [(0, .ref (llAd G 69)), (1, .int v1), (2, .int v2), (3, .int e.2)] [] e.1)) 344 [(0, .ref (llAd G 69)), (1, .int v1), (2, .int v2), (3, .int v3), (4, .int v4), (5, .int v5)] [] u (fx_X12_ends_69_j344_b255_b209 u v1 v2 v3 v4 v5) := by
  unfold fx_X12_ends_69_j344_b255_b209
  refine J_iinc (j := 5) (b := (-1)) (fun v5_23 => [(5, .int v5_23), (0, .ref (llAd G 69)), (1, .int v1), (2, .int v2), (3, .int v3), (4, .int v4)]) dX12_ends_344 rfl (by decide) (by decide) (fun _ => rfl) (fun v5_23 => ?_)
  refine J_goto (tgt := 255) dX12_ends_347 (by decide) ?_
  exact J_cut [1, 2, 3, 4, 5, 0] (lv' := [(0, .ref (llAd G 69)), (1, .int v1), (2, .int v2), (3, .int v3), (4, .int v4), (5, .int v5_23)]) rfl (fun h => h)
def fx_X12_ends_69_j337_b255_b209 (u : llMem) (v1 : Int32) (v2 : Int32) (v3 : Int32) (v4 : Int32) (v5 : Int32) (t1 : Int32) (t2 : Int32) : Option ((llMem × Int32 × Int32 × Int32) ⊕ (llMem × Int32)) := gI t1 30 (lt (llSI u 95 (Int32.toNatClampNeg t1) (vp_nar .boolean t2)) (fun u25 => lt (v3 + (-1)) (fun v3_26 => lt (v4 + (-1)) (fun v4_27 => fx_X12_ends_69_j344_b255_b209 u25 v1 v2 v3_26 v4_27 v5))))
set_option maxRecDepth 20000 in
theorem t_X12_ends_69_j337_b255_b209 {G : llG} {d : Nat} (u : llMem) (v1 : Int32) (v2 : Int32) (v3 : Int32) (v4 : Int32) (v5 : Int32) (t1 : Int32) (t2 : Int32) : llJ G RX12 cX12_ends 7 (some .boolean) (d + 7) (Sum.elim (fun s' => llJq G 7 255 [(0, .ref (llAd G 69)), (1, .int v1), (2, .int v2), (3, .int s'.2.1), (4, .int s'.2.2.1), (5, .int s'.2.2.2)] [] s'.1) (fun e => llJq G 7 350 [(0, .ref (llAd G 69)), (1, .int v1), (2, .int v2), (3, .int e.2)] [] e.1)) 337 [(0, .ref (llAd G 69)), (1, .int v1), (2, .int v2), (3, .int v3), (4, .int v4), (5, .int v5)] [.int t2, .int t1, .ref (llAd G 95)] u (fx_X12_ends_69_j337_b255_b209 u v1 v2 v3 v4 v5 t1 t2) := by
  unfold fx_X12_ends_69_j337_b255_b209
  refine J_zast dX12_ends_337 sh_95 (fun u25 => ?_)
  refine J_iinc (j := 3) (b := (-1)) (fun v3_26 => [(3, .int v3_26), (0, .ref (llAd G 69)), (1, .int v1), (2, .int v2), (4, .int v4), (5, .int v5)]) dX12_ends_338 rfl (by decide) (by decide) (fun _ => rfl) (fun v3_26 => ?_)
  refine J_iinc (j := 4) (b := (-1)) (fun v4_27 => [(4, .int v4_27), (3, .int v3_26), (0, .ref (llAd G 69)), (1, .int v1), (2, .int v2), (5, .int v5)]) dX12_ends_341 rfl (by decide) (by decide) (fun _ => rfl) (fun v4_27 => ?_)
  refine J_sub [2, 3, 4, 1, 0, 5] (lv' := [(0, .ref (llAd G 69)), (1, .int v1), (2, .int v2), (3, .int v3_26), (4, .int v4_27), (5, .int v5)]) rfl ?_
  exact t_X12_ends_69_j344_b255_b209 u25 v1 v2 v3_26 v4_27 v5
def fx_X12_ends_69_j336_b255_b209 (u : llMem) (v1 : Int32) (v2 : Int32) (v3 : Int32) (v4 : Int32) (v5 : Int32) (t1 : Int32) : Option ((llMem × Int32 × Int32 × Int32) ⊕ (llMem × Int32)) := fx_X12_ends_69_j337_b255_b209 u v1 v2 v3 v4 v5 t1 0
set_option maxRecDepth 20000 in
theorem t_X12_ends_69_j336_b255_b209 {G : llG} {d : Nat} (u : llMem) (v1 : Int32) (v2 : Int32) (v3 : Int32) (v4 : Int32) (v5 : Int32) (t1 : Int32) : llJ G RX12 cX12_ends 7 (some .boolean) (d + 7) (Sum.elim (fun s' => llJq G 7 255 [(0, .ref (llAd G 69)), (1, .int v1), (2, .int v2), (3, .int s'.2.1), (4, .int s'.2.2.1), (5, .int s'.2.2.2)] [] s'.1) (fun e => llJq G 7 350 [(0, .ref (llAd G 69)), (1, .int v1), (2, .int v2), (3, .int e.2)] [] e.1)) 336 [(0, .ref (llAd G 69)), (1, .int v1), (2, .int v2), (3, .int v3), (4, .int v4), (5, .int v5)] [.int t1, .ref (llAd G 95)] u (fx_X12_ends_69_j336_b255_b209 u v1 v2 v3 v4 v5 t1) := by
  unfold fx_X12_ends_69_j336_b255_b209
  refine J_iconst (v := 0) dX12_ends_336 (by decide) ?_
  refine J_sub [0, 1, 2, 3, 4, 5] (lv' := [(0, .ref (llAd G 69)), (1, .int v1), (2, .int v2), (3, .int v3), (4, .int v4), (5, .int v5)]) rfl ?_
  exact t_X12_ends_69_j337_b255_b209 u v1 v2 v3 v4 v5 t1 0
def fx_X12_ends_69_j316_b255_b209 (u : llMem) (v1 : Int32) (v2 : Int32) (v3 : Int32) (v4 : Int32) (v5 : Int32) (v6 : Int32) (t1 : Int32) (t2 : Int32) : Option ((llMem × Int32 × Int32 × Int32) ⊕ (llMem × Int32)) := gI t1 30 (lt (llSI u 93 (Int32.toNatClampNeg t1) (vp_nar .boolean t2)) (fun u24 => (if 0 < v3 then fx_X12_ends_69_j336_b255_b209 u24 v1 v2 v3 v4 v5 v6 else (if v4 ≤ 0 then fx_X12_ends_69_j336_b255_b209 u24 v1 v2 v3 v4 v5 v6 else fx_X12_ends_69_j337_b255_b209 u24 v1 v2 v3 v4 v5 v6 1))))
set_option maxRecDepth 20000 in
theorem t_X12_ends_69_j316_b255_b209 {G : llG} {d : Nat} (u : llMem) (v1 : Int32) (v2 : Int32) (v3 : Int32) (v4 : Int32) (v5 : Int32) (v6 : Int32) (t1 : Int32) (t2 : Int32) : llJ G RX12 cX12_ends 7 (some .boolean) (d + 7) (Sum.elim (fun s' => llJq G 7 255 [(0, .ref (llAd G 69)), (1, .int v1), (2, .int v2), (3, .int s'.2.1), (4, .int s'.2.2.1), (5, .int s'.2.2.2)] [] s'.1) (fun e => llJq G 7 350 [(0, .ref (llAd G 69)), (1, .int v1), (2, .int v2), (3, .int e.2)] [] e.1)) 316 [(0, .ref (llAd G 69)), (1, .int v1), (2, .int v2), (3, .int v3), (4, .int v4), (5, .int v5), (6, .int v6)] [.int t2, .int t1, .ref (llAd G 93)] u (fx_X12_ends_69_j316_b255_b209 u v1 v2 v3 v4 v5 v6 t1 t2) := by
  unfold fx_X12_ends_69_j316_b255_b209
  refine J_zast dX12_ends_316 sh_93 (fun u24 => ?_)
  refine J_aload_n (j := 0) dX12_ends_317 rfl rfl ?_
  refine J_getR (b := 95) dX12_ends_318 fl_X12_92 sh_69 rfl ?_
  refine J_iload (j := 6) dX12_ends_321 rfl ?_
  refine J_iload_n (j := 3) dX12_ends_323 rfl rfl ?_
  refine J_if_gt (tgt := 336) dX12_ends_324 (by decide) ?_ ?_
  · refine J_sub [0, 1, 2, 3, 4, 5] (lv' := [(0, .ref (llAd G 69)), (1, .int v1), (2, .int v2), (3, .int v3), (4, .int v4), (5, .int v5)]) rfl ?_
    exact t_X12_ends_69_j336_b255_b209 u24 v1 v2 v3 v4 v5 v6
  · refine J_iload (j := 4) dX12_ends_327 rfl ?_
    refine J_if_le (tgt := 336) dX12_ends_329 (by decide) ?_ ?_
    · refine J_sub [0, 1, 2, 3, 4, 5] (lv' := [(0, .ref (llAd G 69)), (1, .int v1), (2, .int v2), (3, .int v3), (4, .int v4), (5, .int v5)]) rfl ?_
      exact t_X12_ends_69_j336_b255_b209 u24 v1 v2 v3 v4 v5 v6
    · refine J_iconst (v := 1) dX12_ends_332 (by decide) ?_
      refine J_goto (tgt := 337) dX12_ends_333 (by decide) ?_
      refine J_sub [0, 1, 2, 3, 4, 5] (lv' := [(0, .ref (llAd G 69)), (1, .int v1), (2, .int v2), (3, .int v3), (4, .int v4), (5, .int v5)]) rfl ?_
      exact t_X12_ends_69_j337_b255_b209 u24 v1 v2 v3 v4 v5 v6 1
def fx_X12_ends_69_l255_b209 (v1 : Int32) (v2 : Int32) (s : llMem × Int32 × Int32 × Int32) : Option ((llMem × Int32 × Int32 × Int32) ⊕ (llMem × Int32)) := (if s.2.2.2 < 0 then some (.inr (s.1, s.2.1)) else gI ((12 * v2) + s.2.2.2) 48 (lt (rI s.1 86 ((12 * v2) + s.2.2.2)) (fun v6_22 => gI v6_22 30 ((if ¬ (rI s.1 92 v6_22) = 0 then fx_X12_ends_69_j344_b255_b209 s.1 v1 v2 s.2.1 s.2.2.1 s.2.2.2 else gI (30 + v6_22) 1020 ((if ¬ (rI s.1 77 (30 + v6_22)) = 1 then (if s.2.1 ≤ 0 then fx_X12_ends_69_j316_b255_b209 s.1 v1 v2 s.2.1 s.2.2.1 s.2.2.2 v6_22 v6_22 0 else fx_X12_ends_69_j316_b255_b209 s.1 v1 v2 s.2.1 s.2.2.1 s.2.2.2 v6_22 v6_22 1) else fx_X12_ends_69_j344_b255_b209 s.1 v1 v2 s.2.1 s.2.2.1 s.2.2.2)))))))
set_option maxRecDepth 20000 in
theorem t_X12_ends_69_l255_b209 {G : llG} {d : Nat} (v1 : Int32) (v2 : Int32) (s : llMem × Int32 × Int32 × Int32) : llJ G RX12 cX12_ends 7 (some .boolean) (d + 7) (Sum.elim (fun s' => llJq G 7 255 [(0, .ref (llAd G 69)), (1, .int v1), (2, .int v2), (3, .int s'.2.1), (4, .int s'.2.2.1), (5, .int s'.2.2.2)] [] s'.1) (fun e => llJq G 7 350 [(0, .ref (llAd G 69)), (1, .int v1), (2, .int v2), (3, .int e.2)] [] e.1)) 255 [(0, .ref (llAd G 69)), (1, .int v1), (2, .int v2), (3, .int s.2.1), (4, .int s.2.2.1), (5, .int s.2.2.2)] [] s.1 (fx_X12_ends_69_l255_b209 v1 v2 s) := by
  unfold fx_X12_ends_69_l255_b209
  refine J_iload (j := 5) dX12_ends_255 rfl ?_
  refine J_if_lt (tgt := 350) dX12_ends_257 (by decide) ?_ ?_
  · exact J_cut [0, 1, 2, 3] (lv' := [(0, .ref (llAd G 69)), (1, .int v1), (2, .int v2), (3, .int s.2.1)]) rfl (fun h => h)
  · refine J_aload_n (j := 0) dX12_ends_260 rfl rfl ?_
    refine J_getR (b := 86) dX12_ends_261 fl_X12_64 sh_69 rfl ?_
    refine J_bipush (v := 12) dX12_ends_264 (by decide) ?_
    refine J_iload_n (j := 2) dX12_ends_266 rfl rfl ?_
    refine J_imul dX12_ends_267 ?_
    refine J_iload (j := 5) dX12_ends_268 rfl ?_
    refine J_iadd dX12_ends_270 ?_
    refine J_iald dX12_ends_271 sh_86 ?_
    refine J_istoreL (fun v6_22 => [(6, .int v6_22), (0, .ref (llAd G 69)), (1, .int v1), (2, .int v2), (3, .int s.2.1), (4, .int s.2.2.1), (5, .int s.2.2.2)]) dX12_ends_272 (by decide) (fun _ => rfl) (fun v6_22 => ?_)
    refine J_aload_n (j := 1) dX12_ends_274 rfl rfl ?_
    refine J_getR (b := 92) dX12_ends_275 fl_X12_82 sh_69 rfl ?_
    refine J_iload (j := 0) dX12_ends_278 rfl ?_
    refine J_zald dX12_ends_280 sh_92 ?_
    refine J_if_ne (tgt := 344) dX12_ends_281 (by decide) ?_ ?_
    · refine J_sub [1, 2, 3, 4, 5, 6] (lv' := [(0, .ref (llAd G 69)), (1, .int v1), (2, .int v2), (3, .int s.2.1), (4, .int s.2.2.1), (5, .int s.2.2.2)]) rfl ?_
      exact t_X12_ends_69_j344_b255_b209 s.1 v1 v2 s.2.1 s.2.2.1 s.2.2.2
    · refine J_aload_n (j := 1) dX12_ends_284 rfl rfl ?_
      refine J_getR (b := 77) dX12_ends_285 fl_X12_32 sh_69 rfl ?_
      refine J_bipush (v := 30) dX12_ends_288 (by decide) ?_
      refine J_iload (j := 0) dX12_ends_290 rfl ?_
      refine J_iadd dX12_ends_292 ?_
      refine J_iald dX12_ends_293 sh_77 ?_
      refine J_iconst (v := 1) dX12_ends_294 (by decide) ?_
      refine J_icmp_ne (tgt := 301) dX12_ends_295 (by decide) ?_ ?_
      · refine J_aload_n (j := 1) dX12_ends_301 rfl rfl ?_
        refine J_getR (b := 93) dX12_ends_302 fl_X12_86 sh_69 rfl ?_
        refine J_iload (j := 0) dX12_ends_305 rfl ?_
        refine J_iload_n (j := 4) dX12_ends_307 rfl rfl ?_
        refine J_if_le (tgt := 315) dX12_ends_308 (by decide) ?_ ?_
        · refine J_iconst (v := 0) dX12_ends_315 (by decide) ?_
          refine J_sub [1, 2, 3, 4, 5, 6, 0] (lv' := [(0, .ref (llAd G 69)), (1, .int v1), (2, .int v2), (3, .int s.2.1), (4, .int s.2.2.1), (5, .int s.2.2.2), (6, .int v6_22)]) rfl ?_
          exact t_X12_ends_69_j316_b255_b209 s.1 v1 v2 s.2.1 s.2.2.1 s.2.2.2 v6_22 v6_22 0
        · refine J_iconst (v := 1) dX12_ends_311 (by decide) ?_
          refine J_goto (tgt := 316) dX12_ends_312 (by decide) ?_
          refine J_sub [1, 2, 3, 4, 5, 6, 0] (lv' := [(0, .ref (llAd G 69)), (1, .int v1), (2, .int v2), (3, .int s.2.1), (4, .int s.2.2.1), (5, .int s.2.2.2), (6, .int v6_22)]) rfl ?_
          exact t_X12_ends_69_j316_b255_b209 s.1 v1 v2 s.2.1 s.2.2.1 s.2.2.2 v6_22 v6_22 1
      · refine J_goto (tgt := 344) dX12_ends_298 (by decide) ?_
        refine J_sub [1, 2, 3, 4, 5, 6] (lv' := [(0, .ref (llAd G 69)), (1, .int v1), (2, .int v2), (3, .int s.2.1), (4, .int s.2.2.1), (5, .int s.2.2.2)]) rfl ?_
        exact t_X12_ends_69_j344_b255_b209 s.1 v1 v2 s.2.1 s.2.2.1 s.2.2.2
def fx_X12_ends_69_j363_b209 (u : llMem) (v2 : Int32) (t0 : Int32) : Option ((llMem × Int32 × Int32) ⊕ (llMem × Int32)) := lt (v2 + 1) (fun v2_29 => some (.inl (u, t0, v2_29)))
set_option maxRecDepth 20000 in
theorem t_X12_ends_69_j363_b209 {G : llG} {d : Nat} (u : llMem) (v2 : Int32) (t0 : Int32) : llJ G RX12 cX12_ends 7 (some .boolean) (d + 7) (Sum.elim (fun s' => llJq G 7 209 [(0, .ref (llAd G 69)), (1, .int s'.2.1), (2, .int s'.2.2)] [] s'.1) (fun e => llJq G 7 370 [(0, .ref (llAd G 69)), (1, .int e.2)] [] e.1)) 363 [(0, .ref (llAd G 69)), (2, .int v2)] [.int t0] u (fx_X12_ends_69_j363_b209 u v2 t0) := by
  unfold fx_X12_ends_69_j363_b209
  refine J_istore_n [(1, .int t0), (0, .ref (llAd G 69)), (2, .int v2)] dX12_ends_363 rfl (by decide) rfl ?_
  refine J_iinc (j := 2) (b := 1) (fun v2_29 => [(2, .int v2_29), (1, .int t0), (0, .ref (llAd G 69))]) dX12_ends_364 rfl (by decide) (by decide) (fun _ => rfl) (fun v2_29 => ?_)
  refine J_goto (tgt := 209) dX12_ends_367 (by decide) ?_
  exact J_cut [2, 1, 0] (lv' := [(0, .ref (llAd G 69)), (1, .int t0), (2, .int v2_29)]) rfl (fun h => h)
def fx_X12_ends_69_j362_b209 (u : llMem) (v2 : Int32) : Option ((llMem × Int32 × Int32) ⊕ (llMem × Int32)) := fx_X12_ends_69_j363_b209 u v2 0
set_option maxRecDepth 20000 in
theorem t_X12_ends_69_j362_b209 {G : llG} {d : Nat} (u : llMem) (v2 : Int32) : llJ G RX12 cX12_ends 7 (some .boolean) (d + 7) (Sum.elim (fun s' => llJq G 7 209 [(0, .ref (llAd G 69)), (1, .int s'.2.1), (2, .int s'.2.2)] [] s'.1) (fun e => llJq G 7 370 [(0, .ref (llAd G 69)), (1, .int e.2)] [] e.1)) 362 [(0, .ref (llAd G 69)), (2, .int v2)] [] u (fx_X12_ends_69_j362_b209 u v2) := by
  unfold fx_X12_ends_69_j362_b209
  refine J_iconst (v := 0) dX12_ends_362 (by decide) ?_
  refine J_sub [0, 1] (lv' := [(0, .ref (llAd G 69)), (2, .int v2)]) rfl ?_
  exact t_X12_ends_69_j363_b209 u v2 0
def fx_X12_ends_69_l209  (s : llMem × Int32 × Int32) : Option ((llMem × Int32 × Int32) ⊕ (llMem × Int32)) := (if (s.1.1 69 1) ≤ (s.2.2 + 1) then some (.inr (s.1, s.2.1)) else gI s.2.2 4 (gI s.2.2 4 (lt ((rI s.1 99 s.2.2) - (rI s.1 98 s.2.2)) (fun v3_19 => gI ((4 * s.2.2) + 2) 32 (lt (rI s.1 70 ((4 * s.2.2) + 2)) (fun v4_20 => gI s.2.2 4 (lt ((rI s.1 87 s.2.2) - 1) (fun v5_21 => (loop (fx_X12_ends_69_l255_b209 s.2.1 s.2.2) llFuel (s.1, v3_19, v4_20, v5_21)).bind (fun e28 => (if s.2.1 = 0 then fx_X12_ends_69_j362_b209 e28.1 s.2.2 else (if 0 < e28.2 then fx_X12_ends_69_j362_b209 e28.1 s.2.2 else fx_X12_ends_69_j363_b209 e28.1 s.2.2 1)))))))))))
set_option maxRecDepth 20000 in
theorem t_X12_ends_69_l209 {G : llG} {d : Nat}  (s : llMem × Int32 × Int32) : llJ G RX12 cX12_ends 7 (some .boolean) (d + 7) (Sum.elim (fun s' => llJq G 7 209 [(0, .ref (llAd G 69)), (1, .int s'.2.1), (2, .int s'.2.2)] [] s'.1) (fun e => llJq G 7 370 [(0, .ref (llAd G 69)), (1, .int e.2)] [] e.1)) 209 [(0, .ref (llAd G 69)), (1, .int s.2.1), (2, .int s.2.2)] [] s.1 (fx_X12_ends_69_l209 s) := by
  unfold fx_X12_ends_69_l209
  refine J_iload_n (j := 2) dX12_ends_209 rfl rfl ?_
  refine J_iconst (v := 1) dX12_ends_210 (by decide) ?_
  refine J_iadd dX12_ends_211 ?_
  refine J_aload_n (j := 0) dX12_ends_212 rfl rfl ?_
  refine J_getI dX12_ends_213 fl_X12_260 sh_69 rfl ?_
  refine J_icmp_ge (tgt := 370) dX12_ends_216 (by decide) ?_ ?_
  · exact J_cut [0, 1] (lv' := [(0, .ref (llAd G 69)), (1, .int s.2.1)]) rfl (fun h => h)
  · refine J_aload_n (j := 0) dX12_ends_219 rfl rfl ?_
    refine J_getR (b := 99) dX12_ends_220 fl_X12_104 sh_69 rfl ?_
    refine J_iload_n (j := 2) dX12_ends_223 rfl rfl ?_
    refine J_iald dX12_ends_224 sh_99 ?_
    refine J_aload_n (j := 0) dX12_ends_225 rfl rfl ?_
    refine J_getR (b := 98) dX12_ends_226 fl_X12_101 sh_69 rfl ?_
    refine J_iload_n (j := 2) dX12_ends_229 rfl rfl ?_
    refine J_iald dX12_ends_230 sh_98 ?_
    refine J_isub dX12_ends_231 ?_
    refine J_istore_nL (fun v3_19 => [(3, .int v3_19), (0, .ref (llAd G 69)), (1, .int s.2.1), (2, .int s.2.2)]) dX12_ends_232 rfl (by decide) (fun _ => rfl) (fun v3_19 => ?_)
    refine J_aload_n (j := 1) dX12_ends_233 rfl rfl ?_
    refine J_getR (b := 70) dX12_ends_234 fl_X12_7 sh_69 rfl ?_
    refine J_iconst (v := 4) dX12_ends_237 (by decide) ?_
    refine J_iload_n (j := 3) dX12_ends_238 rfl rfl ?_
    refine J_imul dX12_ends_239 ?_
    refine J_iconst (v := 2) dX12_ends_240 (by decide) ?_
    refine J_iadd dX12_ends_241 ?_
    refine J_iald dX12_ends_242 sh_70 ?_
    refine J_istoreL (fun v4_20 => [(4, .int v4_20), (3, .int v3_19), (0, .ref (llAd G 69)), (1, .int s.2.1), (2, .int s.2.2)]) dX12_ends_243 (by decide) (fun _ => rfl) (fun v4_20 => ?_)
    refine J_aload_n (j := 2) dX12_ends_245 rfl rfl ?_
    refine J_getR (b := 87) dX12_ends_246 fl_X12_67 sh_69 rfl ?_
    refine J_iload_n (j := 4) dX12_ends_249 rfl rfl ?_
    refine J_iald dX12_ends_250 sh_87 ?_
    refine J_iconst (v := 1) dX12_ends_251 (by decide) ?_
    refine J_isub dX12_ends_252 ?_
    refine J_istoreL (fun v5_21 => [(5, .int v5_21), (4, .int v4_20), (3, .int v3_19), (0, .ref (llAd G 69)), (1, .int s.2.1), (2, .int s.2.2)]) dX12_ends_253 (by decide) (fun _ => rfl) (fun v5_21 => ?_)
    refine J_loopE (fun s' => [(0, .ref (llAd G 69)), (1, .int s.2.1), (2, .int s.2.2), (3, .int s'.2.1), (4, .int s'.2.2.1), (5, .int s'.2.2.2)]) (fun s' => s'.1) 350 (fun e => [(0, .ref (llAd G 69)), (1, .int s.2.1), (2, .int s.2.2), (3, .int e.2)]) (fun e => e.1) (fun z => t_X12_ends_69_l255_b209 s.2.1 s.2.2 z) [3, 4, 5, 2, 1, 0] rfl rfl (fun e28 => ?_)
    refine J_iload_n (j := 1) dX12_ends_350 rfl rfl ?_
    refine J_if_eq (tgt := 362) dX12_ends_351 (by decide) ?_ ?_
    · refine J_sub [0, 2] (lv' := [(0, .ref (llAd G 69)), (2, .int s.2.2)]) rfl ?_
      exact t_X12_ends_69_j362_b209 e28.1 s.2.2
    · refine J_iload_n (j := 3) dX12_ends_354 rfl rfl ?_
      refine J_if_gt (tgt := 362) dX12_ends_355 (by decide) ?_ ?_
      · refine J_sub [0, 2] (lv' := [(0, .ref (llAd G 69)), (2, .int s.2.2)]) rfl ?_
        exact t_X12_ends_69_j362_b209 e28.1 s.2.2
      · refine J_iconst (v := 1) dX12_ends_358 (by decide) ?_
        refine J_goto (tgt := 363) dX12_ends_359 (by decide) ?_
        refine J_sub [0, 2] (lv' := [(0, .ref (llAd G 69)), (2, .int s.2.2)]) rfl ?_
        exact t_X12_ends_69_j363_b209 e28.1 s.2.2 1
def fx_X12_ends_69_j419_b384 (u : llMem) (v1 : Int32) (v2 : Int32) (v3 : Int32) : Option ((llMem × Int32 × Int32) ⊕ (llMem × Int32)) := lt (v3 + 1) (fun v3_34 => some (.inl (u, v2, v3_34)))
set_option maxRecDepth 20000 in
theorem t_X12_ends_69_j419_b384 {G : llG} {d : Nat} (u : llMem) (v1 : Int32) (v2 : Int32) (v3 : Int32) : llJ G RX12 cX12_ends 7 (some .boolean) (d + 7) (Sum.elim (fun s' => llJq G 7 384 [(0, .ref (llAd G 69)), (1, .int v1), (2, .int s'.2.1), (3, .int s'.2.2)] [] s'.1) (fun e => llJq G 7 425 [(1, .int v1), (2, .int e.2)] [] e.1)) 419 [(0, .ref (llAd G 69)), (1, .int v1), (2, .int v2), (3, .int v3)] [] u (fx_X12_ends_69_j419_b384 u v1 v2 v3) := by
  unfold fx_X12_ends_69_j419_b384
  refine J_iinc (j := 3) (b := 1) (fun v3_34 => [(3, .int v3_34), (0, .ref (llAd G 69)), (1, .int v1), (2, .int v2)]) dX12_ends_419 rfl (by decide) (by decide) (fun _ => rfl) (fun v3_34 => ?_)
  refine J_goto (tgt := 384) dX12_ends_422 (by decide) ?_
  exact J_cut [1, 2, 3, 0] (lv' := [(0, .ref (llAd G 69)), (1, .int v1), (2, .int v2), (3, .int v3_34)]) rfl (fun h => h)
def fx_X12_ends_69_l384 (v1 : Int32) (s : llMem × Int32 × Int32) : Option ((llMem × Int32 × Int32) ⊕ (llMem × Int32)) := (if (s.1.1 69 9) ≤ s.2.2 then some (.inr (s.1, s.2.1)) else (if s.2.1 ≤ 0 then some (.inr (s.1, s.2.1)) else gI s.2.2 60 ((if (rI s.1 74 s.2.2) = ((-1)) then gI s.2.2 30 (lt (llSI s.1 94 (Int32.toNatClampNeg s.2.2) (vp_nar .boolean 1)) (fun u32 => lt (s.2.1 + (-1)) (fun v2_33 => fx_X12_ends_69_j419_b384 u32 v1 v2_33 s.2.2))) else fx_X12_ends_69_j419_b384 s.1 v1 s.2.1 s.2.2))))
set_option maxRecDepth 20000 in
theorem t_X12_ends_69_l384 {G : llG} {d : Nat} (v1 : Int32) (s : llMem × Int32 × Int32) : llJ G RX12 cX12_ends 7 (some .boolean) (d + 7) (Sum.elim (fun s' => llJq G 7 384 [(0, .ref (llAd G 69)), (1, .int v1), (2, .int s'.2.1), (3, .int s'.2.2)] [] s'.1) (fun e => llJq G 7 425 [(1, .int v1), (2, .int e.2)] [] e.1)) 384 [(0, .ref (llAd G 69)), (1, .int v1), (2, .int s.2.1), (3, .int s.2.2)] [] s.1 (fx_X12_ends_69_l384 v1 s) := by
  unfold fx_X12_ends_69_l384
  refine J_iload_n (j := 3) dX12_ends_384 rfl rfl ?_
  refine J_aload_n (j := 0) dX12_ends_385 rfl rfl ?_
  refine J_getI dX12_ends_386 fl_X12_263 sh_69 rfl ?_
  refine J_icmp_ge (tgt := 425) dX12_ends_389 (by decide) ?_ ?_
  · exact J_cut [1, 2] (lv' := [(1, .int v1), (2, .int s.2.1)]) rfl (fun h => h)
  · refine J_iload_n (j := 2) dX12_ends_392 rfl rfl ?_
    refine J_if_le (tgt := 425) dX12_ends_393 (by decide) ?_ ?_
    · exact J_cut [1, 2] (lv' := [(1, .int v1), (2, .int s.2.1)]) rfl (fun h => h)
    · refine J_aload_n (j := 0) dX12_ends_396 rfl rfl ?_
      refine J_getR (b := 74) dX12_ends_397 fl_X12_23 sh_69 rfl ?_
      refine J_iload_n (j := 3) dX12_ends_400 rfl rfl ?_
      refine J_iald dX12_ends_401 sh_74 ?_
      refine J_iconst (v := (-1)) dX12_ends_402 (by decide) ?_
      refine J_icmp_eq (tgt := 409) dX12_ends_403 (by decide) ?_ ?_
      · refine J_aload_n (j := 0) dX12_ends_409 rfl rfl ?_
        refine J_getR (b := 94) dX12_ends_410 fl_X12_89 sh_69 rfl ?_
        refine J_iload_n (j := 3) dX12_ends_413 rfl rfl ?_
        refine J_iconst (v := 1) dX12_ends_414 (by decide) ?_
        refine J_zast dX12_ends_415 sh_94 (fun u32 => ?_)
        refine J_iinc (j := 2) (b := (-1)) (fun v2_33 => [(2, .int v2_33), (0, .ref (llAd G 69)), (1, .int v1), (3, .int s.2.2)]) dX12_ends_416 rfl (by decide) (by decide) (fun _ => rfl) (fun v2_33 => ?_)
        refine J_sub [1, 2, 0, 3] (lv' := [(0, .ref (llAd G 69)), (1, .int v1), (2, .int v2_33), (3, .int s.2.2)]) rfl ?_
        exact t_X12_ends_69_j419_b384 u32 v1 v2_33 s.2.2
      · refine J_goto (tgt := 419) dX12_ends_406 (by decide) ?_
        refine J_sub [0, 1, 2, 3] (lv' := [(0, .ref (llAd G 69)), (1, .int v1), (2, .int s.2.1), (3, .int s.2.2)]) rfl ?_
        exact t_X12_ends_69_j419_b384 s.1 v1 s.2.1 s.2.2
def fx_X12_ends_69 (u : llMem)  : Option (llMem × Int32) := (if ¬ (u.1 69 1) = 0 then bd (fx_X12_laysOrders_69 u ) (fun u1 _ => bd (fx_X12_laysWanting_69 u1 ) (fun u2 _ => (loop (fx_X12_ends_69_l19) llFuel (u2, 0)).bind (fun e8 => (loop (fx_X12_ends_69_l65 1) llFuel (e8, 0)).bind (fun e12 => (loop (fx_X12_ends_69_l92) llFuel (e12, 1, 0)).bind (fun e18 => (loop (fx_X12_ends_69_l209) llFuel (e18.1, e18.2, 0)).bind (fun e30 => gI ((e30.1.1 69 1) - 1) 4 (lt (rI e30.1 98 ((e30.1.1 69 1) - 1)) (fun v2_31 => (loop (fx_X12_ends_69_l384 e30.2) llFuel (e30.1, v2_31, 0)).bind (fun e35 => (if e30.2 = 0 then gB 0 (some (e35.1, 0)) else (if ¬ e35.2 = 0 then gB 0 (some (e35.1, 0)) else gB 1 (some (e35.1, 1))))))))))))) else gB 0 (some (u, 0)))
set_option maxRecDepth 20000 in
theorem tj_X12_ends_69 {G : llG} {d : Nat} (u : llMem)  : llJ G RX12 cX12_ends 7 (some .boolean) (d + 7) (fun r => llRet G (llI r.2) r.1) 0 [(0, .ref (llAd G 69))] [] u (fx_X12_ends_69 u ) := by
  unfold fx_X12_ends_69
  refine J_aload_n (j := 0) dX12_ends_0 rfl rfl ?_
  refine J_getI dX12_ends_1 fl_X12_260 sh_69 rfl ?_
  refine J_if_ne (tgt := 9) dX12_ends_4 (by decide) ?_ ?_
  · refine J_aload_n (j := 0) dX12_ends_9 rfl rfl ?_
    refine J_callVv0 dX12_ends_10 (t_X12_laysOrders_69 (llL G) (llFx G) d u ) ym_X12_laysOrders wd_1513 sh_69 rfl (Nat.le_of_ble_eq_true rfl) (fun u1 => ?_)
    refine J_aload_n (j := 0) dX12_ends_13 rfl rfl ?_
    refine J_callVv0 dX12_ends_14 (t_X12_laysWanting_69 (llL G) (llFx G) (d + 5) u1 ) ym_X12_laysWanting wd_1548 sh_69 rfl (Nat.le_of_ble_eq_true rfl) (fun u2 => ?_)
    refine J_iconst (v := 0) dX12_ends_17 (by decide) ?_
    refine J_istore_n [(1, .int 0), (0, .ref (llAd G 69))] dX12_ends_18 rfl (by decide) rfl ?_
    refine J_loopE (fun s' => [(0, .ref (llAd G 69)), (1, .int s'.2)]) (fun s' => s'.1) 61 (fun e => [(0, .ref (llAd G 69))]) (fun e => e) (fun z => t_X12_ends_69_l19 z) [1, 0] rfl rfl (fun e8 => ?_)
    refine J_iconst (v := 1) dX12_ends_61 (by decide) ?_
    refine J_istore_n [(1, .int 1), (0, .ref (llAd G 69))] dX12_ends_62 rfl (by decide) rfl ?_
    refine J_iconst (v := 0) dX12_ends_63 (by decide) ?_
    refine J_istore_n [(2, .int 0), (1, .int 1), (0, .ref (llAd G 69))] dX12_ends_64 rfl (by decide) rfl ?_
    refine J_loopE (fun s' => [(0, .ref (llAd G 69)), (1, .int 1), (2, .int s'.2)]) (fun s' => s'.1) 90 (fun e => [(0, .ref (llAd G 69)), (1, .int 1)]) (fun e => e) (fun z => t_X12_ends_69_l65 1 z) [2, 1, 0] rfl rfl (fun e12 => ?_)
    refine J_iconst (v := 0) dX12_ends_90 (by decide) ?_
    refine J_istore_n [(2, .int 0), (0, .ref (llAd G 69)), (1, .int 1)] dX12_ends_91 rfl (by decide) rfl ?_
    refine J_loopE (fun s' => [(0, .ref (llAd G 69)), (1, .int s'.2.1), (2, .int s'.2.2)]) (fun s' => s'.1) 207 (fun e => [(0, .ref (llAd G 69)), (1, .int e.2)]) (fun e => e.1) (fun z => t_X12_ends_69_l92 z) [1, 2, 0] rfl rfl (fun e18 => ?_)
    refine J_iconst (v := 0) dX12_ends_207 (by decide) ?_
    refine J_istore_n [(2, .int 0), (0, .ref (llAd G 69)), (1, .int e18.2)] dX12_ends_208 rfl (by decide) rfl ?_
    refine J_loopE (fun s' => [(0, .ref (llAd G 69)), (1, .int s'.2.1), (2, .int s'.2.2)]) (fun s' => s'.1) 370 (fun e => [(0, .ref (llAd G 69)), (1, .int e.2)]) (fun e => e.1) (fun z => t_X12_ends_69_l209 z) [1, 2, 0] rfl rfl (fun e30 => ?_)
    refine J_aload_n (j := 0) dX12_ends_370 rfl rfl ?_
    refine J_getR (b := 98) dX12_ends_371 fl_X12_101 sh_69 rfl ?_
    refine J_aload_n (j := 0) dX12_ends_374 rfl rfl ?_
    refine J_getI dX12_ends_375 fl_X12_260 sh_69 rfl ?_
    refine J_iconst (v := 1) dX12_ends_378 (by decide) ?_
    refine J_isub dX12_ends_379 ?_
    refine J_iald dX12_ends_380 sh_98 ?_
    refine J_istore_nL (fun v2_31 => [(2, .int v2_31), (0, .ref (llAd G 69)), (1, .int e30.2)]) dX12_ends_381 rfl (by decide) (fun _ => rfl) (fun v2_31 => ?_)
    refine J_iconst (v := 0) dX12_ends_382 (by decide) ?_
    refine J_istore_n [(3, .int 0), (2, .int v2_31), (0, .ref (llAd G 69)), (1, .int e30.2)] dX12_ends_383 rfl (by decide) rfl ?_
    refine J_loopE (fun s' => [(0, .ref (llAd G 69)), (1, .int e30.2), (2, .int s'.2.1), (3, .int s'.2.2)]) (fun s' => s'.1) 425 (fun e => [(1, .int e30.2), (2, .int e.2)]) (fun e => e.1) (fun z => t_X12_ends_69_l384 e30.2 z) [2, 3, 1, 0] rfl rfl (fun e35 => ?_)
    refine J_iload_n (j := 0) dX12_ends_425 rfl rfl ?_
    refine J_if_eq (tgt := 437) dX12_ends_426 (by decide) ?_ ?_
    · refine J_iconst (v := 0) dX12_ends_437 (by decide) ?_
      exact J_zret dX12_ends_438 (fun h => h)
    · refine J_iload_n (j := 1) dX12_ends_429 rfl rfl ?_
      refine J_if_ne (tgt := 437) dX12_ends_430 (by decide) ?_ ?_
      · refine J_iconst (v := 0) dX12_ends_437 (by decide) ?_
        exact J_zret dX12_ends_438 (fun h => h)
      · refine J_iconst (v := 1) dX12_ends_433 (by decide) ?_
        refine J_goto (tgt := 438) dX12_ends_434 (by decide) ?_
        exact J_zret dX12_ends_438 (fun h => h)
  · refine J_iconst (v := 0) dX12_ends_7 (by decide) ?_
    exact J_zret dX12_ends_8 (fun h => h)
theorem t_X12_ends_69 (l : Launch) (F : llFix) (d : Nat) (u : llMem)  : llCt l F yX12_ends cX12_ends 7 (some .boolean) (d + 7) [.ref (F.2.2.1 69)] u llI (fx_X12_ends_69 u ) := llCt.of (by decide +kernel) (by exact Nat.le_of_ble_eq_true rfl) (fun G h1 h2 => by subst h1; subst h2; exact tj_X12_ends_69 u )
