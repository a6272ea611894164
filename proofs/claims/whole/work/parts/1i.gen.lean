def fx_X11_show_0 (u : llMem) (a0 : Int32) (a1 : Int32) : Option (llMem × Int32) := (fx_X5_hasDivision_3 u a0 a1).bind (fun r1 => (if ¬ r1 = 0 then bd (fx_X8_arrange_43 u a0) (fun u2 _ => bd (fx_X8_write_43 u2 a1) (fun u3 _ => some (u3, u3.1 43 6))) else some (u, (-1))))
set_option maxRecDepth 20000 in
theorem tj_X11_show_0 {G : llG} {d : Nat} (u : llMem) (a0 : Int32) (a1 : Int32) : llJ G RX11 cX11_show 3 (some .int) (d + 4) (fun r => llRet G (llI r.2) r.1) 0 [(0, .ref (llAd G 0)), (1, .int a0), (2, .int a1)] [] u (fx_X11_show_0 u a0 a1) := by
  unfold fx_X11_show_0
  refine J_aload_n (j := 0) dX11_show_0 rfl rfl ?_
  refine J_getR (b := 3) dX11_show_1 fl_X11_19 sh_0 rfl ?_
  refine J_iload_n (j := 1) dX11_show_4 rfl rfl ?_
  refine J_iload_n (j := 2) dX11_show_5 rfl rfl ?_
  refine J_callVip2 dX11_show_6 (t_X5_hasDivision_3 (llL G) (llFx G) (d + 2) u a0 a1) ym_X5_hasDivision wd_944 sh_3 rfl (Nat.le_of_ble_eq_true rfl) (fun r1 => ?_)
  refine J_if_ne (tgt := 14) dX11_show_9 (by decide) ?_ ?_
  · refine J_aload_n (j := 0) dX11_show_14 rfl rfl ?_
    refine J_getR (b := 43) dX11_show_15 fl_X11_60 sh_0 rfl ?_
    refine J_iload_n (j := 1) dX11_show_18 rfl rfl ?_
    refine J_callVv1 dX11_show_19 (t_X8_arrange_43 (llL G) (llFx G) d u a0) ym_X8_arrange wd_907 sh_43 rfl (Nat.le_of_ble_eq_true rfl) (fun u2 => ?_)
    refine J_aload_n (j := 0) dX11_show_22 rfl rfl ?_
    refine J_getR (b := 43) dX11_show_23 fl_X11_60 sh_0 rfl ?_
    refine J_iload_n (j := 2) dX11_show_26 rfl rfl ?_
    refine J_callVv1 dX11_show_27 (t_X8_write_43 (llL G) (llFx G) d u2 a1) ym_X8_write wd_1097 sh_43 rfl (Nat.le_of_ble_eq_true rfl) (fun u3 => ?_)
    refine J_aload_n (j := 0) dX11_show_30 rfl rfl ?_
    refine J_getR (b := 43) dX11_show_31 fl_X11_60 sh_0 rfl ?_
    refine J_getI dX11_show_34 fl_X11_367 sh_43 rfl ?_
    exact J_iret dX11_show_37 (fun h => h)
  · refine J_iconst (v := (-1)) dX11_show_12 (by decide) ?_
    exact J_iret dX11_show_13 (fun h => h)
theorem t_X11_show_0 (l : Launch) (F : llFix) (d : Nat) (u : llMem) (a0 : Int32) (a1 : Int32) : llCt l F yX11_show cX11_show 3 (some .int) (d + 4) [.ref (F.2.2.1 0), .int a0, .int a1] u llI (fx_X11_show_0 u a0 a1) := llCt.of (by decide +kernel) (by exact Nat.le_of_ble_eq_true rfl) (fun G h1 h2 => by subst h1; subst h2; exact tj_X11_show_0 u a0 a1)
def fx_X12_show_69_j91_b45_b18 (u : llMem) (v1 : Int32) (v2 : Int32) (v3 : Int32) (v4 : Int32) (v5 : Int32) : Option ((llMem × Int32) ⊕ (llMem)) := lt (v5 + (-5)) (fun v5_5 => some (.inl (u, v5_5)))
set_option maxRecDepth 20000 in
theorem t_X12_show_69_j91_b45_b18 {G : llG} {d : Nat} (u : llMem) (v1 : Int32) (v2 : Int32) (v3 : Int32) (v4 : Int32) (v5 : Int32) : llJ G RX12 cX12_show 6 (some .int) (d + 7) (Sum.elim (fun s' => llJq G 6 45 [(0, .ref (llAd G 69)), (1, .int v1), (2, .int v2), (3, .int v3), (4, .int v4), (5, .int s'.2)] [] s'.1) (fun e => llJq G 6 97 [(0, .ref (llAd G 69)), (1, .int v1), (2, .int v2), (3, .int v3), (4, .int v4)] [] e)) 91 [(0, .ref (llAd G 69)), (1, .int v1), (2, .int v2), (3, .int v3), (4, .int v4), (5, .int v5)] [] u (fx_X12_show_69_j91_b45_b18 u v1 v2 v3 v4 v5) := by
  unfold fx_X12_show_69_j91_b45_b18
  refine J_iinc (j := 5) (b := (-5)) (fun v5_5 => [(5, .int v5_5), (0, .ref (llAd G 69)), (1, .int v1), (2, .int v2), (3, .int v3), (4, .int v4)]) dX12_show_91 rfl (by decide) (by decide) (fun _ => rfl) (fun v5_5 => ?_)
  refine J_goto (tgt := 45) dX12_show_94 (by decide) ?_
  exact J_cut [1, 2, 3, 4, 5, 0] (lv' := [(0, .ref (llAd G 69)), (1, .int v1), (2, .int v2), (3, .int v3), (4, .int v4), (5, .int v5_5)]) rfl (fun h => h)
def fx_X12_says_69 (u : llMem) (a0 : Int32) : Option (llMem × Unit) := gI (u.1 69 53) 200 (lt (llSI u 100 (Int32.toNatClampNeg (u.1 69 53)) a0) (fun u1 => lt (llSI u1 69 53 ((u1.1 69 53) + 1)) (fun u2 => some (u2, ()))))
set_option maxRecDepth 20000 in
theorem tj_X12_says_69 {G : llG} {d : Nat} (u : llMem) (a0 : Int32) : llJ G RX12 cX12_says 2 none d (fun r => llRet G (llVd r.2) r.1) 0 [(0, .ref (llAd G 69)), (1, .int a0)] [] u (fx_X12_says_69 u a0) := by
  unfold fx_X12_says_69
  refine J_aload_n (j := 0) dX12_says_0 rfl rfl ?_
  refine J_getR (b := 100) dX12_says_1 fl_X12_107 sh_69 rfl ?_
  refine J_aload_n (j := 0) dX12_says_4 rfl rfl ?_
  refine J_getI dX12_says_5 fl_X12_408 sh_69 rfl ?_
  refine J_iload_n (j := 1) dX12_says_8 rfl rfl ?_
  refine J_iast dX12_says_9 sh_100 (fun u1 => ?_)
  refine J_aload_n (j := 0) dX12_says_10 rfl rfl ?_
  refine J_dup dX12_says_11 rfl ?_
  refine J_getI dX12_says_12 fl_X12_408 sh_69 rfl ?_
  refine J_iconst (v := 1) dX12_says_15 (by decide) ?_
  refine J_iadd dX12_says_16 ?_
  refine J_putI dX12_says_17 fl_X12_408 sh_69 rfl (fun u2 => ?_)
  exact J_vret dX12_says_20 (fun h => h)
theorem t_X12_says_69 (l : Launch) (F : llFix) (d : Nat) (u : llMem) (a0 : Int32) : llCt l F yX12_says cX12_says 2 none d [.ref (F.2.2.1 69), .int a0] u llVd (fx_X12_says_69 u a0) := llCt.of (by decide +kernel) (by exact Nat.le_of_ble_eq_true rfl) (fun G h1 h2 => by subst h1; subst h2; exact tj_X12_says_69 u a0)
def fx_X12_show_69_l45_b18 (v1 : Int32) (v2 : Int32) (v3 : Int32) (v4 : Int32) (s : llMem × Int32) : Option ((llMem × Int32) ⊕ (llMem)) := (if s.2 < 0 then some (.inr s.1) else gI v4 60 ((if (lg_cmp (((rL s.1 71 v4) >>> (Int32.toInt64 s.2 &&& 63)) &&& 31) 0) = 0 then fx_X12_show_69_j91_b45_b18 s.1 v1 v2 v3 v4 s.2 else gI v4 60 (bd (fx_X12_says_69 s.1 (96 + (Int64.toInt32 (((rL s.1 71 v4) >>> (Int32.toInt64 s.2 &&& 63)) &&& 31)))) (fun u6 _ => fx_X12_show_69_j91_b45_b18 u6 v1 v2 v3 v4 s.2)))))
set_option maxRecDepth 20000 in
theorem t_X12_show_69_l45_b18 {G : llG} {d : Nat} (v1 : Int32) (v2 : Int32) (v3 : Int32) (v4 : Int32) (s : llMem × Int32) : llJ G RX12 cX12_show 6 (some .int) (d + 7) (Sum.elim (fun s' => llJq G 6 45 [(0, .ref (llAd G 69)), (1, .int v1), (2, .int v2), (3, .int v3), (4, .int v4), (5, .int s'.2)] [] s'.1) (fun e => llJq G 6 97 [(0, .ref (llAd G 69)), (1, .int v1), (2, .int v2), (3, .int v3), (4, .int v4)] [] e)) 45 [(0, .ref (llAd G 69)), (1, .int v1), (2, .int v2), (3, .int v3), (4, .int v4), (5, .int s.2)] [] s.1 (fx_X12_show_69_l45_b18 v1 v2 v3 v4 s) := by
  unfold fx_X12_show_69_l45_b18
  refine J_iload (j := 5) dX12_show_45 rfl ?_
  refine J_if_lt (tgt := 97) dX12_show_47 (by decide) ?_ ?_
  · exact J_cut [0, 1, 2, 3, 4] (lv' := [(0, .ref (llAd G 69)), (1, .int v1), (2, .int v2), (3, .int v3), (4, .int v4)]) rfl (fun h => h)
  · refine J_aload_n (j := 0) dX12_show_50 rfl rfl ?_
    refine J_getR (b := 71) dX12_show_51 fl_X12_13 sh_69 rfl ?_
    refine J_iload (j := 4) dX12_show_54 rfl ?_
    refine J_lald dX12_show_56 sh_71 ?_
    refine J_iload (j := 5) dX12_show_57 rfl ?_
    refine J_lshr dX12_show_59 ?_
    refine J_ldc2 (v := 31) dX12_show_60 wd_1718 ?_
    refine J_land dX12_show_63 ?_
    refine J_lconst (v := 0) dX12_show_64 (by decide) ?_
    refine J_lcmp dX12_show_65 ?_
    refine J_if_eq (tgt := 91) dX12_show_66 (by decide) ?_ ?_
    · refine J_sub [0, 1, 2, 3, 4, 5] (lv' := [(0, .ref (llAd G 69)), (1, .int v1), (2, .int v2), (3, .int v3), (4, .int v4), (5, .int s.2)]) rfl ?_
      exact t_X12_show_69_j91_b45_b18 s.1 v1 v2 v3 v4 s.2
    · refine J_aload_n (j := 0) dX12_show_69 rfl rfl ?_
      refine J_bipush (v := 96) dX12_show_70 (by decide) ?_
      refine J_aload_n (j := 0) dX12_show_72 rfl rfl ?_
      refine J_getR (b := 71) dX12_show_73 fl_X12_13 sh_69 rfl ?_
      refine J_iload (j := 4) dX12_show_76 rfl ?_
      refine J_lald dX12_show_78 sh_71 ?_
      refine J_iload (j := 5) dX12_show_79 rfl ?_
      refine J_lshr dX12_show_81 ?_
      refine J_ldc2 (v := 31) dX12_show_82 wd_1718 ?_
      refine J_land dX12_show_85 ?_
      refine J_l2i dX12_show_86 ?_
      refine J_iadd dX12_show_87 ?_
      refine J_callVv1 dX12_show_88 (t_X12_says_69 (llL G) (llFx G) (d + 6) s.1 (96 + (Int64.toInt32 (((rL s.1 71 v4) >>> (Int32.toInt64 s.2 &&& 63)) &&& 31)))) ym_X12_says wd_1719 sh_69 rfl (Nat.le_of_ble_eq_true rfl) (fun u6 => ?_)
      refine J_sub [0, 1, 2, 3, 4, 5] (lv' := [(0, .ref (llAd G 69)), (1, .int v1), (2, .int v2), (3, .int v3), (4, .int v4), (5, .int s.2)]) rfl ?_
      exact t_X12_show_69_j91_b45_b18 u6 v1 v2 v3 v4 s.2
def fx_X12_saysNumber_69_l23 (u : llMem) (v2 : Int32) (s : Int32) : Option ((Int32) ⊕ (Int32)) := gZ s ((if (v2 / s) ≤ 9 then some (.inr s) else lt (s * 10) (fun v3_1 => some (.inl v3_1))))
set_option maxRecDepth 20000 in
theorem t_X12_saysNumber_69_l23 {G : llG} {d : Nat} (u : llMem) (v2 : Int32) (s : Int32) : llJ G RX12 cX12_saysNumber 4 none (d + 1) (Sum.elim (fun s' => llJq G 4 23 [(0, .ref (llAd G 69)), (2, .int v2), (3, .int s')] [] u) (fun e => llJq G 4 39 [(0, .ref (llAd G 69)), (2, .int v2), (3, .int e)] [] u)) 23 [(0, .ref (llAd G 69)), (2, .int v2), (3, .int s)] [] u (fx_X12_saysNumber_69_l23 u v2 s) := by
  unfold fx_X12_saysNumber_69_l23
  refine J_iload_n (j := 1) dX12_saysNumber_23 rfl rfl ?_
  refine J_iload_n (j := 2) dX12_saysNumber_24 rfl rfl ?_
  refine J_idiv dX12_saysNumber_25 ?_
  refine J_bipush (v := 9) dX12_saysNumber_26 (by decide) ?_
  refine J_icmp_le (tgt := 39) dX12_saysNumber_28 (by decide) ?_ ?_
  · exact J_cut [0, 1, 2] (lv' := [(0, .ref (llAd G 69)), (2, .int v2), (3, .int s)]) rfl (fun h => h)
  · refine J_iload_n (j := 2) dX12_saysNumber_31 rfl rfl ?_
    refine J_bipush (v := 10) dX12_saysNumber_32 (by decide) ?_
    refine J_imul dX12_saysNumber_34 ?_
    refine J_istore_nL (fun v3_1 => [(3, .int v3_1), (0, .ref (llAd G 69)), (2, .int v2)]) dX12_saysNumber_35 rfl (by decide) (fun _ => rfl) (fun v3_1 => ?_)
    refine J_goto (tgt := 23) dX12_saysNumber_36 (by decide) ?_
    exact J_cut [1, 2, 0] (lv' := [(0, .ref (llAd G 69)), (2, .int v2), (3, .int v3_1)]) rfl (fun h => h)
def fx_X12_saysNumber_69_l39 (v2 : Int32) (s : llMem × Int32) : Option ((llMem × Int32) ⊕ (llMem)) := (if s.2 ≤ 0 then some (.inr s.1) else gZ s.2 (gZ 10 (bd (fx_X12_says_69 s.1 (48 + ((v2 / s.2) - (v2 / s.2) / 10 * 10))) (fun u3 _ => gZ 10 (lt (s.2 / 10) (fun v3_4 => some (.inl (u3, v3_4))))))))
set_option maxRecDepth 20000 in
theorem t_X12_saysNumber_69_l39 {G : llG} {d : Nat} (v2 : Int32) (s : llMem × Int32) : llJ G RX12 cX12_saysNumber 4 none (d + 1) (Sum.elim (fun s' => llJq G 4 39 [(0, .ref (llAd G 69)), (2, .int v2), (3, .int s'.2)] [] s'.1) (fun e => llJq G 4 64 [] [] e)) 39 [(0, .ref (llAd G 69)), (2, .int v2), (3, .int s.2)] [] s.1 (fx_X12_saysNumber_69_l39 v2 s) := by
  unfold fx_X12_saysNumber_69_l39
  refine J_iload_n (j := 2) dX12_saysNumber_39 rfl rfl ?_
  refine J_if_le (tgt := 64) dX12_saysNumber_40 (by decide) ?_ ?_
  · exact J_cut [] (lv' := []) rfl (fun h => h)
  · refine J_aload_n (j := 0) dX12_saysNumber_43 rfl rfl ?_
    refine J_bipush (v := 48) dX12_saysNumber_44 (by decide) ?_
    refine J_iload_n (j := 1) dX12_saysNumber_46 rfl rfl ?_
    refine J_iload_n (j := 2) dX12_saysNumber_47 rfl rfl ?_
    refine J_idiv dX12_saysNumber_48 ?_
    refine J_bipush (v := 10) dX12_saysNumber_49 (by decide) ?_
    refine J_irem dX12_saysNumber_51 ?_
    refine J_iadd dX12_saysNumber_52 ?_
    refine J_callVv1 dX12_saysNumber_53 (t_X12_says_69 (llL G) (llFx G) d s.1 (48 + ((v2 / s.2) - (v2 / s.2) / 10 * 10))) ym_X12_says wd_1719 sh_69 rfl (Nat.le_of_ble_eq_true rfl) (fun u3 => ?_)
    refine J_iload_n (j := 2) dX12_saysNumber_56 rfl rfl ?_
    refine J_bipush (v := 10) dX12_saysNumber_57 (by decide) ?_
    refine J_idiv dX12_saysNumber_59 ?_
    refine J_istore_nL (fun v3_4 => [(3, .int v3_4), (0, .ref (llAd G 69)), (2, .int v2)]) dX12_saysNumber_60 rfl (by decide) (fun _ => rfl) (fun v3_4 => ?_)
    refine J_goto (tgt := 39) dX12_saysNumber_61 (by decide) ?_
    exact J_cut [1, 2, 0] (lv' := [(0, .ref (llAd G 69)), (2, .int v2), (3, .int v3_4)]) rfl (fun h => h)
def fx_X12_saysNumber_69_j20 (u : llMem) (t0 : Int32) : Option ((llMem × Unit)) := (loop (fx_X12_saysNumber_69_l23 u t0) llFuel 1).bind (fun e2 => (loop (fx_X12_saysNumber_69_l39 t0) llFuel (u, e2)).bind (fun e5 => some (e5, ())))
set_option maxRecDepth 20000 in
theorem t_X12_saysNumber_69_j20 {G : llG} {d : Nat} (u : llMem) (t0 : Int32) : llJ G RX12 cX12_saysNumber 4 none (d + 1) (fun r => llRet G (llVd r.2) r.1) 20 [(0, .ref (llAd G 69))] [.int t0] u (fx_X12_saysNumber_69_j20 u t0) := by
  unfold fx_X12_saysNumber_69_j20
  refine J_istore_n [(2, .int t0), (0, .ref (llAd G 69))] dX12_saysNumber_20 rfl (by decide) rfl ?_
  refine J_iconst (v := 1) dX12_saysNumber_21 (by decide) ?_
  refine J_istore_n [(3, .int 1), (2, .int t0), (0, .ref (llAd G 69))] dX12_saysNumber_22 rfl (by decide) rfl ?_
  refine J_loopE (fun s' => [(0, .ref (llAd G 69)), (2, .int t0), (3, .int s')]) (fun s' => u) 39 (fun e => [(0, .ref (llAd G 69)), (2, .int t0), (3, .int e)]) (fun e => u) (fun z => t_X12_saysNumber_69_l23 u t0 z) [2, 1, 0] rfl rfl (fun e2 => ?_)
  refine J_loopE (fun s' => [(0, .ref (llAd G 69)), (2, .int t0), (3, .int s'.2)]) (fun s' => s'.1) 64 (fun e => []) (fun e => e) (fun z => t_X12_saysNumber_69_l39 t0 z) [0, 1, 2] rfl rfl (fun e5 => ?_)
  exact J_vret dX12_saysNumber_64 (fun h => h)
def fx_X12_saysNumber_69_j10 (u : llMem) (v1 : Int32) : Option ((llMem × Unit)) := (if 0 ≤ v1 then fx_X12_saysNumber_69_j20 u v1 else fx_X12_saysNumber_69_j20 u (-v1))
set_option maxRecDepth 20000 in
theorem t_X12_saysNumber_69_j10 {G : llG} {d : Nat} (u : llMem) (v1 : Int32) : llJ G RX12 cX12_saysNumber 4 none (d + 1) (fun r => llRet G (llVd r.2) r.1) 10 [(0, .ref (llAd G 69)), (1, .int v1)] [] u (fx_X12_saysNumber_69_j10 u v1) := by
  unfold fx_X12_saysNumber_69_j10
  refine J_iload_n (j := 1) dX12_saysNumber_10 rfl rfl ?_
  refine J_if_ge (tgt := 19) dX12_saysNumber_11 (by decide) ?_ ?_
  · refine J_iload_n (j := 1) dX12_saysNumber_19 rfl rfl ?_
    refine J_sub [0] (lv' := [(0, .ref (llAd G 69))]) rfl ?_
    exact t_X12_saysNumber_69_j20 u v1
  · refine J_iload_n (j := 1) dX12_saysNumber_14 rfl rfl ?_
    refine J_ineg dX12_saysNumber_15 ?_
    refine J_goto (tgt := 20) dX12_saysNumber_16 (by decide) ?_
    refine J_sub [0] (lv' := [(0, .ref (llAd G 69))]) rfl ?_
    exact t_X12_saysNumber_69_j20 u (-v1)
def fx_X12_saysNumber_69 (u : llMem) (a0 : Int32) : Option (llMem × Unit) := (if 0 ≤ a0 then fx_X12_saysNumber_69_j10 u a0 else bd (fx_X12_says_69 u 45) (fun u6 _ => fx_X12_saysNumber_69_j10 u6 a0))
set_option maxRecDepth 20000 in
theorem tj_X12_saysNumber_69 {G : llG} {d : Nat} (u : llMem) (a0 : Int32) : llJ G RX12 cX12_saysNumber 4 none (d + 1) (fun r => llRet G (llVd r.2) r.1) 0 [(0, .ref (llAd G 69)), (1, .int a0)] [] u (fx_X12_saysNumber_69 u a0) := by
  unfold fx_X12_saysNumber_69
  refine J_iload_n (j := 1) dX12_saysNumber_0 rfl rfl ?_
  refine J_if_ge (tgt := 10) dX12_saysNumber_1 (by decide) ?_ ?_
  · refine J_sub [0, 1] (lv' := [(0, .ref (llAd G 69)), (1, .int a0)]) rfl ?_
    exact t_X12_saysNumber_69_j10 u a0
  · refine J_aload_n (j := 0) dX12_saysNumber_4 rfl rfl ?_
    refine J_bipush (v := 45) dX12_saysNumber_5 (by decide) ?_
    refine J_callVv1 dX12_saysNumber_7 (t_X12_says_69 (llL G) (llFx G) d u 45) ym_X12_says wd_1719 sh_69 rfl (Nat.le_of_ble_eq_true rfl) (fun u6 => ?_)
    refine J_sub [0, 1] (lv' := [(0, .ref (llAd G 69)), (1, .int a0)]) rfl ?_
    exact t_X12_saysNumber_69_j10 u6 a0
theorem t_X12_saysNumber_69 (l : Launch) (F : llFix) (d : Nat) (u : llMem) (a0 : Int32) : llCt l F yX12_saysNumber cX12_saysNumber 4 none (d + 1) [.ref (F.2.2.1 69), .int a0] u llVd (fx_X12_saysNumber_69 u a0) := llCt.of (by decide +kernel) (by exact Nat.le_of_ble_eq_true rfl) (fun G h1 h2 => by subst h1; subst h2; exact tj_X12_saysNumber_69 u a0)
def fx_X12_show_69_l18 (v1 : Int32) (v2 : Int32) (s : llMem × Int32) : Option ((llMem × Int32) ⊕ (llMem)) := gI ((4 * v1) + 1) 32 ((if (rI s.1 70 ((4 * v1) + 1)) < s.2 then some (.inr s.1) else bd (fx_X12_ranked_69 s.1 v1 v2 s.2) (fun u3 r4 => (loop (fx_X12_show_69_l45_b18 v1 v2 s.2 r4) llFuel (u3, 30)).bind (fun e7 => bd (fx_X12_says_69 e7 32) (fun u8 _ => (fx_X12_pointsOf_69 u8 r4).bind (fun r9 => bd (fx_X12_saysNumber_69 u8 r9) (fun u10 _ => bd (fx_X12_says_69 u10 32) (fun u11 _ => (fx_X12_sumOf_69 u11 r4 0).bind (fun r12 => bd (fx_X12_saysNumber_69 u11 r12) (fun u13 _ => bd (fx_X12_says_69 u13 59) (fun u14 _ => lt (s.2 + 1) (fun v3_15 => some (.inl (u14, v3_15))))))))))))))
set_option maxRecDepth 20000 in
theorem t_X12_show_69_l18 {G : llG} {d : Nat} (v1 : Int32) (v2 : Int32) (s : llMem × Int32) : llJ G RX12 cX12_show 6 (some .int) (d + 7) (Sum.elim (fun s' => llJq G 6 18 [(0, .ref (llAd G 69)), (1, .int v1), (2, .int v2), (3, .int s'.2)] [] s'.1) (fun e => llJq G 6 142 [(0, .ref (llAd G 69))] [] e)) 18 [(0, .ref (llAd G 69)), (1, .int v1), (2, .int v2), (3, .int s.2)] [] s.1 (fx_X12_show_69_l18 v1 v2 s) := by
  unfold fx_X12_show_69_l18
  refine J_iload_n (j := 3) dX12_show_18 rfl rfl ?_
  refine J_aload_n (j := 0) dX12_show_19 rfl rfl ?_
  refine J_getR (b := 70) dX12_show_20 fl_X12_7 sh_69 rfl ?_
  refine J_iconst (v := 4) dX12_show_23 (by decide) ?_
  refine J_iload_n (j := 1) dX12_show_24 rfl rfl ?_
  refine J_imul dX12_show_25 ?_
  refine J_iconst (v := 1) dX12_show_26 (by decide) ?_
  refine J_iadd dX12_show_27 ?_
  refine J_iald dX12_show_28 sh_70 ?_
  refine J_icmp_gt (tgt := 142) dX12_show_29 (by decide) ?_ ?_
  · exact J_cut [0] (lv' := [(0, .ref (llAd G 69))]) rfl (fun h => h)
  · refine J_aload_n (j := 0) dX12_show_32 rfl rfl ?_
    refine J_iload_n (j := 1) dX12_show_33 rfl rfl ?_
    refine J_iload_n (j := 2) dX12_show_34 rfl rfl ?_
    refine J_iload_n (j := 3) dX12_show_35 rfl rfl ?_
    refine J_callVi3 dX12_show_36 (t_X12_ranked_69 (llL G) (llFx G) d s.1 v1 v2 s.2) ym_X12_ranked wd_1717 sh_69 rfl (Nat.le_of_ble_eq_true rfl) (fun u3 r4 => ?_)
    refine J_istore [(4, .int r4), (0, .ref (llAd G 69)), (1, .int v1), (2, .int v2), (3, .int s.2)] dX12_show_39 (by decide) rfl ?_
    refine J_bipush (v := 30) dX12_show_41 (by decide) ?_
    refine J_istore [(5, .int 30), (4, .int r4), (0, .ref (llAd G 69)), (1, .int v1), (2, .int v2), (3, .int s.2)] dX12_show_43 (by decide) rfl ?_
    refine J_loopE (fun s' => [(0, .ref (llAd G 69)), (1, .int v1), (2, .int v2), (3, .int s.2), (4, .int r4), (5, .int s'.2)]) (fun s' => s'.1) 97 (fun e => [(0, .ref (llAd G 69)), (1, .int v1), (2, .int v2), (3, .int s.2), (4, .int r4)]) (fun e => e) (fun z => t_X12_show_69_l45_b18 v1 v2 s.2 r4 z) [2, 3, 4, 5, 1, 0] rfl rfl (fun e7 => ?_)
    refine J_aload_n (j := 0) dX12_show_97 rfl rfl ?_
    refine J_bipush (v := 32) dX12_show_98 (by decide) ?_
    refine J_callVv1 dX12_show_100 (t_X12_says_69 (llL G) (llFx G) (d + 6) e7 32) ym_X12_says wd_1719 sh_69 rfl (Nat.le_of_ble_eq_true rfl) (fun u8 => ?_)
    refine J_aload_n (j := 0) dX12_show_103 rfl rfl ?_
    refine J_aload_n (j := 0) dX12_show_104 rfl rfl ?_
    refine J_iload (j := 4) dX12_show_105 rfl ?_
    refine J_callVip1 dX12_show_107 (t_X12_pointsOf_69 (llL G) (llFx G) (d + 3) u8 r4) ym_X12_pointsOf wd_1521 sh_69 rfl (Nat.le_of_ble_eq_true rfl) (fun r9 => ?_)
    refine J_callVv1 dX12_show_110 (t_X12_saysNumber_69 (llL G) (llFx G) (d + 5) u8 r9) ym_X12_saysNumber wd_1723 sh_69 rfl (Nat.le_of_ble_eq_true rfl) (fun u10 => ?_)
    refine J_aload_n (j := 0) dX12_show_113 rfl rfl ?_
    refine J_bipush (v := 32) dX12_show_114 (by decide) ?_
    refine J_callVv1 dX12_show_116 (t_X12_says_69 (llL G) (llFx G) (d + 6) u10 32) ym_X12_says wd_1719 sh_69 rfl (Nat.le_of_ble_eq_true rfl) (fun u11 => ?_)
    refine J_aload_n (j := 0) dX12_show_119 rfl rfl ?_
    refine J_aload_n (j := 0) dX12_show_120 rfl rfl ?_
    refine J_iload (j := 4) dX12_show_121 rfl ?_
    refine J_iconst (v := 0) dX12_show_123 (by decide) ?_
    refine J_callVip2 dX12_show_124 (t_X12_sumOf_69 (llL G) (llFx G) (d + 4) u11 r4 0) ym_X12_sumOf wd_1525 sh_69 rfl (Nat.le_of_ble_eq_true rfl) (fun r12 => ?_)
    refine J_callVv1 dX12_show_127 (t_X12_saysNumber_69 (llL G) (llFx G) (d + 5) u11 r12) ym_X12_saysNumber wd_1723 sh_69 rfl (Nat.le_of_ble_eq_true rfl) (fun u13 => ?_)
    refine J_aload_n (j := 0) dX12_show_130 rfl rfl ?_
    refine J_bipush (v := 59) dX12_show_131 (by decide) ?_
    refine J_callVv1 dX12_show_133 (t_X12_says_69 (llL G) (llFx G) (d + 6) u13 59) ym_X12_says wd_1719 sh_69 rfl (Nat.le_of_ble_eq_true rfl) (fun u14 => ?_)
    refine J_iinc (j := 3) (b := 1) (fun v3_15 => [(3, .int v3_15), (0, .ref (llAd G 69)), (1, .int v1), (2, .int v2), (4, .int r4)]) dX12_show_136 rfl (by decide) (by decide) (fun _ => rfl) (fun v3_15 => ?_)
    refine J_goto (tgt := 18) dX12_show_139 (by decide) ?_
    exact J_cut [1, 2, 3, 0] (lv' := [(0, .ref (llAd G 69)), (1, .int v1), (2, .int v2), (3, .int v3_15)]) rfl (fun h => h)
def fx_X12_show_69 (u : llMem) (a0 : Int32) (a1 : Int32) : Option (llMem × Int32) := (fx_X12_isDivision_69 u a0 a1).bind (fun r1 => (if ¬ r1 = 0 then lt (llSI u 69 53 0) (fun u2 => (loop (fx_X12_show_69_l18 a0 a1) llFuel (u2, 1)).bind (fun e16 => some (e16, e16.1 69 53))) else some (u, (-1))))
set_option maxRecDepth 20000 in
theorem tj_X12_show_69 {G : llG} {d : Nat} (u : llMem) (a0 : Int32) (a1 : Int32) : llJ G RX12 cX12_show 6 (some .int) (d + 7) (fun r => llRet G (llI r.2) r.1) 0 [(0, .ref (llAd G 69)), (1, .int a0), (2, .int a1)] [] u (fx_X12_show_69 u a0 a1) := by
  unfold fx_X12_show_69
  refine J_aload_n (j := 0) dX12_show_0 rfl rfl ?_
  refine J_iload_n (j := 1) dX12_show_1 rfl rfl ?_
  refine J_iload_n (j := 2) dX12_show_2 rfl rfl ?_
  refine J_callVip2 dX12_show_3 (t_X12_isDivision_69 (llL G) (llFx G) (d + 4) u a0 a1) ym_X12_isDivision wd_1621 sh_69 rfl (Nat.le_of_ble_eq_true rfl) (fun r1 => ?_)
  refine J_if_ne (tgt := 11) dX12_show_6 (by decide) ?_ ?_
  · refine J_aload_n (j := 0) dX12_show_11 rfl rfl ?_
    refine J_iconst (v := 0) dX12_show_12 (by decide) ?_
    refine J_putI dX12_show_13 fl_X12_408 sh_69 rfl (fun u2 => ?_)
    refine J_iconst (v := 1) dX12_show_16 (by decide) ?_
    refine J_istore_n [(3, .int 1), (0, .ref (llAd G 69)), (1, .int a0), (2, .int a1)] dX12_show_17 rfl (by decide) rfl ?_
    refine J_loopE (fun s' => [(0, .ref (llAd G 69)), (1, .int a0), (2, .int a1), (3, .int s'.2)]) (fun s' => s'.1) 142 (fun e => [(0, .ref (llAd G 69))]) (fun e => e) (fun z => t_X12_show_69_l18 a0 a1 z) [1, 2, 3, 0] rfl rfl (fun e16 => ?_)
    refine J_aload_n (j := 0) dX12_show_142 rfl rfl ?_
    refine J_getI dX12_show_143 fl_X12_408 sh_69 rfl ?_
    exact J_iret dX12_show_146 (fun h => h)
  · refine J_iconst (v := (-1)) dX12_show_9 (by decide) ?_
    exact J_iret dX12_show_10 (fun h => h)
theorem t_X12_show_69 (l : Launch) (F : llFix) (d : Nat) (u : llMem) (a0 : Int32) (a1 : Int32) : llCt l F yX12_show cX12_show 6 (some .int) (d + 7) [.ref (F.2.2.1 69), .int a0, .int a1] u llI (fx_X12_show_69 u a0 a1) := llCt.of (by decide +kernel) (by exact Nat.le_of_ble_eq_true rfl) (fun G h1 h2 => by subst h1; subst h2; exact tj_X12_show_69 u a0 a1)
def fx_X11_out_0 (u : llMem) (a0 : Int32) : Option Int32 := (if a0 < 0 then some ((-1)) else (if (u.1 43 6) ≤ a0 then some ((-1)) else gI a0 96 (some (rI u 47 a0))))
set_option maxRecDepth 20000 in
theorem tj_X11_out_0 {G : llG} {d : Nat} (u : llMem) (a0 : Int32) : llJ G RX11 cX11_out 2 (some .int) d (fun r => llRet G (llI r) u) 0 [(0, .ref (llAd G 0)), (1, .int a0)] [] u (fx_X11_out_0 u a0) := by
  unfold fx_X11_out_0
  refine J_iload_n (j := 1) dX11_out_0 rfl rfl ?_
  refine J_if_lt (tgt := 27) dX11_out_1 (by decide) ?_ ?_
  · refine J_iconst (v := (-1)) dX11_out_27 (by decide) ?_
    exact J_iret dX11_out_28 (fun h => h)
  · refine J_iload_n (j := 1) dX11_out_4 rfl rfl ?_
    refine J_aload_n (j := 0) dX11_out_5 rfl rfl ?_
    refine J_getR (b := 43) dX11_out_6 fl_X11_60 sh_0 rfl ?_
    refine J_getI dX11_out_9 fl_X11_367 sh_43 rfl ?_
    refine J_icmp_ge (tgt := 27) dX11_out_12 (by decide) ?_ ?_
    · refine J_iconst (v := (-1)) dX11_out_27 (by decide) ?_
      exact J_iret dX11_out_28 (fun h => h)
    · refine J_aload_n (j := 0) dX11_out_15 rfl rfl ?_
      refine J_getR (b := 43) dX11_out_16 fl_X11_60 sh_0 rfl ?_
      refine J_getR (b := 47) dX11_out_19 fl_X11_370 sh_43 rfl ?_
      refine J_iload_n (j := 1) dX11_out_22 rfl rfl ?_
      refine J_iald dX11_out_23 sh_47 ?_
      refine J_goto (tgt := 28) dX11_out_24 (by decide) ?_
      exact J_iret dX11_out_28 (fun h => h)
theorem t_X11_out_0 (l : Launch) (F : llFix) (d : Nat) (u : llMem) (a0 : Int32) : llCp l F yX11_out cX11_out 2 (some .int) d [.ref (F.2.2.1 0), .int a0] u llI (fx_X11_out_0 u a0) := llCp.of (by decide +kernel) (by exact Nat.le_of_ble_eq_true rfl) (fun G h1 h2 => by subst h1; subst h2; exact tj_X11_out_0 u a0)
def fx_X12_out_69 (u : llMem) (a0 : Int32) : Option Int32 := (fx_X12_isIn u (Int32.toInt64 a0) 0 (Int32.toInt64 ((u.1 69 53) - 1))).bind (fun r1 => (if r1 = 0 then some ((-1)) else gI a0 200 (some (rI u 100 a0))))
set_option maxRecDepth 20000 in
theorem tj_X12_out_69 {G : llG} {d : Nat} (u : llMem) (a0 : Int32) : llJ G RX12 cX12_out 2 (some .int) (d + 1) (fun r => llRet G (llI r) u) 0 [(0, .ref (llAd G 69)), (1, .int a0)] [] u (fx_X12_out_69 u a0) := by
  unfold fx_X12_out_69
  refine J_iload_n (j := 1) dX12_out_0 rfl rfl ?_
  refine J_i2l dX12_out_1 ?_
  refine J_lconst (v := 0) dX12_out_2 (by decide) ?_
  refine J_aload_n (j := 0) dX12_out_3 rfl rfl ?_
  refine J_getI dX12_out_4 fl_X12_408 sh_69 rfl ?_
  refine J_iconst (v := 1) dX12_out_7 (by decide) ?_
  refine J_isub dX12_out_8 ?_
  refine J_i2l dX12_out_9 ?_
  refine J_callSip3 dX12_out_10 (t_X12_isIn (llL G) (llFx G) d u (Int32.toInt64 a0) 0 (Int32.toInt64 ((u.1 69 53) - 1))) ym_X12_isIn wd_1313 (Nat.le_of_ble_eq_true rfl) (fun r1 => ?_)
  refine J_if_eq (tgt := 25) dX12_out_13 (by decide) ?_ ?_
  · refine J_iconst (v := (-1)) dX12_out_25 (by decide) ?_
    exact J_iret dX12_out_26 (fun h => h)
  · refine J_aload_n (j := 0) dX12_out_16 rfl rfl ?_
    refine J_getR (b := 100) dX12_out_17 fl_X12_107 sh_69 rfl ?_
    refine J_iload_n (j := 1) dX12_out_20 rfl rfl ?_
    refine J_iald dX12_out_21 sh_100 ?_
    refine J_goto (tgt := 26) dX12_out_22 (by decide) ?_
    exact J_iret dX12_out_26 (fun h => h)
theorem t_X12_out_69 (l : Launch) (F : llFix) (d : Nat) (u : llMem) (a0 : Int32) : llCp l F yX12_out cX12_out 2 (some .int) (d + 1) [.ref (F.2.2.1 69), .int a0] u llI (fx_X12_out_69 u a0) := llCp.of (by decide +kernel) (by exact Nat.le_of_ble_eq_true rfl) (fun G h1 h2 => by subst h1; subst h2; exact tj_X12_out_69 u a0)
def fx_X5_howMany_3_j25_b4 (u : llMem) (v1 : Int32) (v2 : Int32) (v3 : Int32) : Option ((Int32 × Int32) ⊕ (Int32)) := lt (v3 + 1) (fun v3_1 => some (.inl (v2, v3_1)))
set_option maxRecDepth 20000 in
theorem t_X5_howMany_3_j25_b4 {G : llG} {d : Nat} (u : llMem) (v1 : Int32) (v2 : Int32) (v3 : Int32) : llJ G RX5 cX5_howMany 4 (some .int) d (Sum.elim (fun s' => llJq G 4 4 [(0, .ref (llAd G 3)), (1, .int v1), (2, .int s'.1), (3, .int s'.2)] [] u) (fun e => llJq G 4 31 [(2, .int e)] [] u)) 25 [(0, .ref (llAd G 3)), (1, .int v1), (2, .int v2), (3, .int v3)] [] u (fx_X5_howMany_3_j25_b4 u v1 v2 v3) := by
  unfold fx_X5_howMany_3_j25_b4
  refine J_iinc (j := 3) (b := 1) (fun v3_1 => [(3, .int v3_1), (0, .ref (llAd G 3)), (1, .int v1), (2, .int v2)]) dX5_howMany_25 rfl (by decide) (by decide) (fun _ => rfl) (fun v3_1 => ?_)
  refine J_goto (tgt := 4) dX5_howMany_28 (by decide) ?_
  exact J_cut [1, 2, 3, 0] (lv' := [(0, .ref (llAd G 3)), (1, .int v1), (2, .int v2), (3, .int v3_1)]) rfl (fun h => h)
def fx_X5_howMany_3_l4 (u : llMem) (v1 : Int32) (s : Int32 × Int32) : Option ((Int32 × Int32) ⊕ (Int32)) := (if (u.1 3 5) ≤ s.2 then some (.inr s.1) else gI s.2 30 ((if ¬ (rI u 12 s.2) = v1 then fx_X5_howMany_3_j25_b4 u v1 s.1 s.2 else lt (s.1 + 1) (fun v2_2 => fx_X5_howMany_3_j25_b4 u v1 v2_2 s.2))))
set_option maxRecDepth 20000 in
theorem t_X5_howMany_3_l4 {G : llG} {d : Nat} (u : llMem) (v1 : Int32) (s : Int32 × Int32) : llJ G RX5 cX5_howMany 4 (some .int) d (Sum.elim (fun s' => llJq G 4 4 [(0, .ref (llAd G 3)), (1, .int v1), (2, .int s'.1), (3, .int s'.2)] [] u) (fun e => llJq G 4 31 [(2, .int e)] [] u)) 4 [(0, .ref (llAd G 3)), (1, .int v1), (2, .int s.1), (3, .int s.2)] [] u (fx_X5_howMany_3_l4 u v1 s) := by
  unfold fx_X5_howMany_3_l4
  refine J_iload_n (j := 3) dX5_howMany_4 rfl rfl ?_
  refine J_aload_n (j := 0) dX5_howMany_5 rfl rfl ?_
  refine J_getI dX5_howMany_6 fl_X5_53 sh_3 rfl ?_
  refine J_icmp_ge (tgt := 31) dX5_howMany_9 (by decide) ?_ ?_
  · exact J_cut [2] (lv' := [(2, .int s.1)]) rfl (fun h => h)
  · refine J_aload_n (j := 0) dX5_howMany_12 rfl rfl ?_
    refine J_getR (b := 12) dX5_howMany_13 fl_X5_37 sh_3 rfl ?_
    refine J_iload_n (j := 3) dX5_howMany_16 rfl rfl ?_
    refine J_iald dX5_howMany_17 sh_12 ?_
    refine J_iload_n (j := 1) dX5_howMany_18 rfl rfl ?_
    refine J_icmp_ne (tgt := 25) dX5_howMany_19 (by decide) ?_ ?_
    · refine J_sub [0, 1, 2, 3] (lv' := [(0, .ref (llAd G 3)), (1, .int v1), (2, .int s.1), (3, .int s.2)]) rfl ?_
      exact t_X5_howMany_3_j25_b4 u v1 s.1 s.2
    · refine J_iinc (j := 2) (b := 1) (fun v2_2 => [(2, .int v2_2), (0, .ref (llAd G 3)), (1, .int v1), (3, .int s.2)]) dX5_howMany_22 rfl (by decide) (by decide) (fun _ => rfl) (fun v2_2 => ?_)
      refine J_sub [1, 2, 0, 3] (lv' := [(0, .ref (llAd G 3)), (1, .int v1), (2, .int v2_2), (3, .int s.2)]) rfl ?_
      exact t_X5_howMany_3_j25_b4 u v1 v2_2 s.2
def fx_X5_howMany_3 (u : llMem) (a0 : Int32) : Option Int32 := (loop (fx_X5_howMany_3_l4 u a0) llFuel (0, 0)).bind (fun e3 => some e3)
set_option maxRecDepth 20000 in
theorem tj_X5_howMany_3 {G : llG} {d : Nat} (u : llMem) (a0 : Int32) : llJ G RX5 cX5_howMany 4 (some .int) d (fun r => llRet G (llI r) u) 0 [(0, .ref (llAd G 3)), (1, .int a0)] [] u (fx_X5_howMany_3 u a0) := by
  unfold fx_X5_howMany_3
  refine J_iconst (v := 0) dX5_howMany_0 (by decide) ?_
  refine J_istore_n [(2, .int 0), (0, .ref (llAd G 3)), (1, .int a0)] dX5_howMany_1 rfl (by decide) rfl ?_
  refine J_iconst (v := 0) dX5_howMany_2 (by decide) ?_
  refine J_istore_n [(3, .int 0), (2, .int 0), (0, .ref (llAd G 3)), (1, .int a0)] dX5_howMany_3 rfl (by decide) rfl ?_
  refine J_loopE (fun s' => [(0, .ref (llAd G 3)), (1, .int a0), (2, .int s'.1), (3, .int s'.2)]) (fun s' => u) 31 (fun e => [(2, .int e)]) (fun e => u) (fun z => t_X5_howMany_3_l4 u a0 z) [2, 3, 1, 0] rfl rfl (fun e3 => ?_)
  refine J_iload_n (j := 0) dX5_howMany_31 rfl rfl ?_
  exact J_iret dX5_howMany_32 (fun h => h)
theorem t_X5_howMany_3 (l : Launch) (F : llFix) (d : Nat) (u : llMem) (a0 : Int32) : llCp l F yX5_howMany cX5_howMany 4 (some .int) d [.ref (F.2.2.1 3), .int a0] u llI (fx_X5_howMany_3 u a0) := llCp.of (by decide +kernel) (by exact Nat.le_of_ble_eq_true rfl) (fun G h1 h2 => by subst h1; subst h2; exact tj_X5_howMany_3 u a0)
def fx_X11_look_0 (u : llMem) (a0 : Int32) : Option Int32 := (if a0 = 0 then some (u.1 3 0) else if a0 = 1 then some (u.1 3 5) else if a0 = 2 then (fx_X5_howMany_3 u ((-1))).bind (fun r1 => some r1) else if a0 = 3 then (fx_X5_howMany_3 u ((-2))).bind (fun r2 => some r2) else if a0 = 4 then some (u.1 14 0) else if a0 = 5 then some (u.1 14 1) else if a0 = 6 then some (u.1 26 2) else if a0 = 7 then some (u.1 1 1) else some ((-1)))
set_option maxRecDepth 20000 in
theorem tj_X11_look_0 {G : llG} {d : Nat} (u : llMem) (a0 : Int32) : llJ G RX11 cX11_look 2 (some .int) (d + 1) (fun r => llRet G (llI r) u) 0 [(0, .ref (llAd G 0)), (1, .int a0)] [] u (fx_X11_look_0 u a0) := by
  unfold fx_X11_look_0
  refine J_iload_n (j := 1) dX11_look_0 rfl rfl ?_
  refine J_case (fun hq0 => ?_) (fun hn0 => ?_)
  · refine J_tableIn (tgt := 48) hq0 dX11_look_1 (by decide) (by decide) rfl (by decide) ?_
    refine J_aload_n (j := 0) dX11_look_48 rfl rfl ?_
    refine J_getR (b := 3) dX11_look_49 fl_X11_19 sh_0 rfl ?_
    refine J_getI dX11_look_52 fl_X11_373 sh_3 rfl ?_
    exact J_iret dX11_look_55 (fun h => h)
  refine J_case (fun hq1 => ?_) (fun hn1 => ?_)
  · refine J_tableIn (tgt := 56) hq1 dX11_look_1 (by decide) (by decide) rfl (by decide) ?_
    refine J_aload_n (j := 0) dX11_look_56 rfl rfl ?_
    refine J_getR (b := 3) dX11_look_57 fl_X11_19 sh_0 rfl ?_
    refine J_getI dX11_look_60 fl_X11_124 sh_3 rfl ?_
    exact J_iret dX11_look_63 (fun h => h)
  refine J_case (fun hq2 => ?_) (fun hn2 => ?_)
  · refine J_tableIn (tgt := 64) hq2 dX11_look_1 (by decide) (by decide) rfl (by decide) ?_
    refine J_aload_n (j := 0) dX11_look_64 rfl rfl ?_
    refine J_getR (b := 3) dX11_look_65 fl_X11_19 sh_0 rfl ?_
    refine J_iconst (v := (-1)) dX11_look_68 (by decide) ?_
    refine J_callVip1 dX11_look_69 (t_X5_howMany_3 (llL G) (llFx G) d u ((-1))) ym_X5_howMany wd_1125 sh_3 rfl (Nat.le_of_ble_eq_true rfl) (fun r1 => ?_)
    exact J_iret dX11_look_72 (fun h => h)
  refine J_case (fun hq3 => ?_) (fun hn3 => ?_)
  · refine J_tableIn (tgt := 73) hq3 dX11_look_1 (by decide) (by decide) rfl (by decide) ?_
    refine J_aload_n (j := 0) dX11_look_73 rfl rfl ?_
    refine J_getR (b := 3) dX11_look_74 fl_X11_19 sh_0 rfl ?_
    refine J_bipush (v := (-2)) dX11_look_77 (by decide) ?_
    refine J_callVip1 dX11_look_79 (t_X5_howMany_3 (llL G) (llFx G) d u ((-2))) ym_X5_howMany wd_1125 sh_3 rfl (Nat.le_of_ble_eq_true rfl) (fun r2 => ?_)
    exact J_iret dX11_look_82 (fun h => h)
  refine J_case (fun hq4 => ?_) (fun hn4 => ?_)
  · refine J_tableIn (tgt := 83) hq4 dX11_look_1 (by decide) (by decide) rfl (by decide) ?_
    refine J_aload_n (j := 0) dX11_look_83 rfl rfl ?_
    refine J_getR (b := 14) dX11_look_84 fl_X11_26 sh_0 rfl ?_
    refine J_getI dX11_look_87 fl_X11_118 sh_14 rfl ?_
    exact J_iret dX11_look_90 (fun h => h)
  refine J_case (fun hq5 => ?_) (fun hn5 => ?_)
  · refine J_tableIn (tgt := 91) hq5 dX11_look_1 (by decide) (by decide) rfl (by decide) ?_
    refine J_aload_n (j := 0) dX11_look_91 rfl rfl ?_
    refine J_getR (b := 14) dX11_look_92 fl_X11_26 sh_0 rfl ?_
    refine J_getI dX11_look_95 fl_X11_127 sh_14 rfl ?_
    exact J_iret dX11_look_98 (fun h => h)
  refine J_case (fun hq6 => ?_) (fun hn6 => ?_)
  · refine J_tableIn (tgt := 99) hq6 dX11_look_1 (by decide) (by decide) rfl (by decide) ?_
    refine J_aload_n (j := 0) dX11_look_99 rfl rfl ?_
    refine J_getR (b := 26) dX11_look_100 fl_X11_35 sh_0 rfl ?_
    refine J_getI dX11_look_103 fl_X11_121 sh_26 rfl ?_
    exact J_iret dX11_look_106 (fun h => h)
  refine J_case (fun hq7 => ?_) (fun hn7 => ?_)
  · refine J_tableIn (tgt := 107) hq7 dX11_look_1 (by decide) (by decide) rfl (by decide) ?_
    refine J_aload_n (j := 0) dX11_look_107 rfl rfl ?_
    refine J_getR (b := 1) dX11_look_108 fl_X11_10 sh_0 rfl ?_
    refine J_getI dX11_look_111 fl_X11_91 sh_1 rfl ?_
    exact J_iret dX11_look_114 (fun h => h)
  refine J_tableOut (tgt := 115) dX11_look_1 (llTabG (by decide) (by decide) (fun k hk1 hk2 => by rcases (show k = 0 ∨ k = 1 ∨ k = 2 ∨ k = 3 ∨ k = 4 ∨ k = 5 ∨ k = 6 ∨ k = 7 by omega) with rfl | rfl | rfl | rfl | rfl | rfl | rfl | rfl <;> assumption)) (by decide) ?_
  refine J_iconst (v := (-1)) dX11_look_115 (by decide) ?_
  exact J_iret dX11_look_116 (fun h => h)
theorem t_X11_look_0 (l : Launch) (F : llFix) (d : Nat) (u : llMem) (a0 : Int32) : llCp l F yX11_look cX11_look 2 (some .int) (d + 1) [.ref (F.2.2.1 0), .int a0] u llI (fx_X11_look_0 u a0) := llCp.of (by decide +kernel) (by exact Nat.le_of_ble_eq_true rfl) (fun G h1 h2 => by subst h1; subst h2; exact tj_X11_look_0 u a0)
def fx_X12_look_69_j59_b10 (u : llMem) (v1 : Int32) (v2 : Int32) (v4 : Int32) (v5 : Int32) (t0 : Int32) (t1 : Int32) : Option ((Int32 × Int32 × Int32) ⊕ (Int32 × Int32)) := (fx_X12_one u t1).bind (fun r3 => lt (t0 + r3) (fun v3_4 => lt (v5 + 1) (fun v5_5 => some (.inl (v2, v3_4, v5_5)))))
set_option maxRecDepth 20000 in
theorem t_X12_look_69_j59_b10 {G : llG} {d : Nat} (u : llMem) (v1 : Int32) (v2 : Int32) (v4 : Int32) (v5 : Int32) (t0 : Int32) (t1 : Int32) : llJ G RX12 cX12_look 6 (some .int) (d + 1) (Sum.elim (fun s' => llJq G 6 10 [(0, .ref (llAd G 69)), (1, .int v1), (2, .int s'.1), (3, .int s'.2.1), (4, .int v4), (5, .int s'.2.2)] [] u) (fun e => llJq G 6 70 [(0, .ref (llAd G 69)), (1, .int v1), (2, .int e.1), (3, .int e.2), (4, .int v4)] [] u)) 59 [(0, .ref (llAd G 69)), (1, .int v1), (2, .int v2), (4, .int v4), (5, .int v5)] [.int t1, .int t0] u (fx_X12_look_69_j59_b10 u v1 v2 v4 v5 t0 t1) := by
  unfold fx_X12_look_69_j59_b10
  refine J_callSip1 dX12_look_59 (t_X12_one (llL G) (llFx G) d u t1) ym_X12_one wd_1439 (Nat.le_of_ble_eq_true rfl) (fun r3 => ?_)
  refine J_iadd dX12_look_62 ?_
  refine J_istore_nL (fun v3_4 => [(3, .int v3_4), (0, .ref (llAd G 69)), (1, .int v1), (2, .int v2), (4, .int v4), (5, .int v5)]) dX12_look_63 rfl (by decide) (fun _ => rfl) (fun v3_4 => ?_)
  refine J_iinc (j := 5) (b := 1) (fun v5_5 => [(5, .int v5_5), (3, .int v3_4), (0, .ref (llAd G 69)), (1, .int v1), (2, .int v2), (4, .int v4)]) dX12_look_64 rfl (by decide) (by decide) (fun _ => rfl) (fun v5_5 => ?_)
  refine J_goto (tgt := 10) dX12_look_67 (by decide) ?_
  exact J_cut [2, 3, 4, 1, 5, 0] (lv' := [(0, .ref (llAd G 69)), (1, .int v1), (2, .int v2), (3, .int v3_4), (4, .int v4), (5, .int v5_5)]) rfl (fun h => h)
def fx_X12_look_69_j36_b10 (u : llMem) (v1 : Int32) (v3 : Int32) (v4 : Int32) (v5 : Int32) (t0 : Int32) (t1 : Int32) : Option ((Int32 × Int32 × Int32) ⊕ (Int32 × Int32)) := (fx_X12_one u t1).bind (fun r1 => lt (t0 + r1) (fun v2_2 => gI v5 60 ((if ¬ (rI u 74 v5) = ((-2)) then fx_X12_look_69_j59_b10 u v1 v2_2 v4 v5 v3 0 else fx_X12_look_69_j59_b10 u v1 v2_2 v4 v5 v3 1))))
set_option maxRecDepth 20000 in
theorem t_X12_look_69_j36_b10 {G : llG} {d : Nat} (u : llMem) (v1 : Int32) (v3 : Int32) (v4 : Int32) (v5 : Int32) (t0 : Int32) (t1 : Int32) : llJ G RX12 cX12_look 6 (some .int) (d + 1) (Sum.elim (fun s' => llJq G 6 10 [(0, .ref (llAd G 69)), (1, .int v1), (2, .int s'.1), (3, .int s'.2.1), (4, .int v4), (5, .int s'.2.2)] [] u) (fun e => llJq G 6 70 [(0, .ref (llAd G 69)), (1, .int v1), (2, .int e.1), (3, .int e.2), (4, .int v4)] [] u)) 36 [(0, .ref (llAd G 69)), (1, .int v1), (3, .int v3), (4, .int v4), (5, .int v5)] [.int t1, .int t0] u (fx_X12_look_69_j36_b10 u v1 v3 v4 v5 t0 t1) := by
  unfold fx_X12_look_69_j36_b10
  refine J_callSip1 dX12_look_36 (t_X12_one (llL G) (llFx G) d u t1) ym_X12_one wd_1439 (Nat.le_of_ble_eq_true rfl) (fun r1 => ?_)
  refine J_iadd dX12_look_39 ?_
  refine J_istore_nL (fun v2_2 => [(2, .int v2_2), (0, .ref (llAd G 69)), (1, .int v1), (3, .int v3), (4, .int v4), (5, .int v5)]) dX12_look_40 rfl (by decide) (fun _ => rfl) (fun v2_2 => ?_)
  refine J_iload_n (j := 3) dX12_look_41 rfl rfl ?_
  refine J_aload_n (j := 1) dX12_look_42 rfl rfl ?_
  refine J_getR (b := 74) dX12_look_43 fl_X12_23 sh_69 rfl ?_
  refine J_iload (j := 5) dX12_look_46 rfl ?_
  refine J_iald dX12_look_48 sh_74 ?_
  refine J_bipush (v := (-2)) dX12_look_49 (by decide) ?_
  refine J_icmp_ne (tgt := 58) dX12_look_51 (by decide) ?_ ?_
  · refine J_iconst (v := 0) dX12_look_58 (by decide) ?_
    refine J_sub [1, 2, 0, 4, 5] (lv' := [(0, .ref (llAd G 69)), (1, .int v1), (2, .int v2_2), (4, .int v4), (5, .int v5)]) rfl ?_
    exact t_X12_look_69_j59_b10 u v1 v2_2 v4 v5 v3 0
  · refine J_iconst (v := 1) dX12_look_54 (by decide) ?_
    refine J_goto (tgt := 59) dX12_look_55 (by decide) ?_
    refine J_sub [1, 2, 0, 4, 5] (lv' := [(0, .ref (llAd G 69)), (1, .int v1), (2, .int v2_2), (4, .int v4), (5, .int v5)]) rfl ?_
    exact t_X12_look_69_j59_b10 u v1 v2_2 v4 v5 v3 1
def fx_X12_look_69_l10 (u : llMem) (v1 : Int32) (v4 : Int32) (s : Int32 × Int32 × Int32) : Option ((Int32 × Int32 × Int32) ⊕ (Int32 × Int32)) := (if (u.1 69 9) ≤ s.2.2 then some (.inr (s.1, s.2.1)) else gI s.2.2 60 ((if ¬ (rI u 74 s.2.2) = ((-1)) then fx_X12_look_69_j36_b10 u v1 s.2.1 v4 s.2.2 s.1 0 else fx_X12_look_69_j36_b10 u v1 s.2.1 v4 s.2.2 s.1 1)))
set_option maxRecDepth 20000 in
theorem t_X12_look_69_l10 {G : llG} {d : Nat} (u : llMem) (v1 : Int32) (v4 : Int32) (s : Int32 × Int32 × Int32) : llJ G RX12 cX12_look 6 (some .int) (d + 1) (Sum.elim (fun s' => llJq G 6 10 [(0, .ref (llAd G 69)), (1, .int v1), (2, .int s'.1), (3, .int s'.2.1), (4, .int v4), (5, .int s'.2.2)] [] u) (fun e => llJq G 6 70 [(0, .ref (llAd G 69)), (1, .int v1), (2, .int e.1), (3, .int e.2), (4, .int v4)] [] u)) 10 [(0, .ref (llAd G 69)), (1, .int v1), (2, .int s.1), (3, .int s.2.1), (4, .int v4), (5, .int s.2.2)] [] u (fx_X12_look_69_l10 u v1 v4 s) := by
  unfold fx_X12_look_69_l10
  refine J_iload (j := 5) dX12_look_10 rfl ?_
  refine J_aload_n (j := 0) dX12_look_12 rfl rfl ?_
  refine J_getI dX12_look_13 fl_X12_263 sh_69 rfl ?_
  refine J_icmp_ge (tgt := 70) dX12_look_16 (by decide) ?_ ?_
  · exact J_cut [0, 1, 2, 3, 4] (lv' := [(0, .ref (llAd G 69)), (1, .int v1), (2, .int s.1), (3, .int s.2.1), (4, .int v4)]) rfl (fun h => h)
  · refine J_iload_n (j := 2) dX12_look_19 rfl rfl ?_
    refine J_aload_n (j := 0) dX12_look_20 rfl rfl ?_
    refine J_getR (b := 74) dX12_look_21 fl_X12_23 sh_69 rfl ?_
    refine J_iload (j := 5) dX12_look_24 rfl ?_
    refine J_iald dX12_look_26 sh_74 ?_
    refine J_iconst (v := (-1)) dX12_look_27 (by decide) ?_
    refine J_icmp_ne (tgt := 35) dX12_look_28 (by decide) ?_ ?_
    · refine J_iconst (v := 0) dX12_look_35 (by decide) ?_
      refine J_sub [0, 1, 3, 4, 5] (lv' := [(0, .ref (llAd G 69)), (1, .int v1), (3, .int s.2.1), (4, .int v4), (5, .int s.2.2)]) rfl ?_
      exact t_X12_look_69_j36_b10 u v1 s.2.1 v4 s.2.2 s.1 0
    · refine J_iconst (v := 1) dX12_look_31 (by decide) ?_
      refine J_goto (tgt := 36) dX12_look_32 (by decide) ?_
      refine J_sub [0, 1, 3, 4, 5] (lv' := [(0, .ref (llAd G 69)), (1, .int v1), (3, .int s.2.1), (4, .int v4), (5, .int s.2.2)]) rfl ?_
      exact t_X12_look_69_j36_b10 u v1 s.2.1 v4 s.2.2 s.1 1
def fx_X12_look_69_j102_b73 (u : llMem) (v1 : Int32) (v2 : Int32) (v3 : Int32) (v5 : Int32) (t0 : Int32) (t1 : Int32) : Option ((Int32 × Int32) ⊕ (Int32)) := (fx_X12_one u t1).bind (fun r7 => lt (t0 + r7) (fun v4_8 => lt (v5 + 1) (fun v5_9 => some (.inl (v4_8, v5_9)))))
set_option maxRecDepth 20000 in
theorem t_X12_look_69_j102_b73 {G : llG} {d : Nat} (u : llMem) (v1 : Int32) (v2 : Int32) (v3 : Int32) (v5 : Int32) (t0 : Int32) (t1 : Int32) : llJ G RX12 cX12_look 6 (some .int) (d + 1) (Sum.elim (fun s' => llJq G 6 73 [(0, .ref (llAd G 69)), (1, .int v1), (2, .int v2), (3, .int v3), (4, .int s'.1), (5, .int s'.2)] [] u) (fun e => llJq G 6 114 [(0, .ref (llAd G 69)), (1, .int v1), (2, .int v2), (3, .int v3), (4, .int e)] [] u)) 102 [(0, .ref (llAd G 69)), (1, .int v1), (2, .int v2), (3, .int v3), (5, .int v5)] [.int t1, .int t0] u (fx_X12_look_69_j102_b73 u v1 v2 v3 v5 t0 t1) := by
  unfold fx_X12_look_69_j102_b73
  refine J_callSip1 dX12_look_102 (t_X12_one (llL G) (llFx G) d u t1) ym_X12_one wd_1439 (Nat.le_of_ble_eq_true rfl) (fun r7 => ?_)
  refine J_iadd dX12_look_105 ?_
  refine J_istoreL (fun v4_8 => [(4, .int v4_8), (0, .ref (llAd G 69)), (1, .int v1), (2, .int v2), (3, .int v3), (5, .int v5)]) dX12_look_106 (by decide) (fun _ => rfl) (fun v4_8 => ?_)
  refine J_iinc (j := 5) (b := 1) (fun v5_9 => [(5, .int v5_9), (4, .int v4_8), (0, .ref (llAd G 69)), (1, .int v1), (2, .int v2), (3, .int v3)]) dX12_look_108 rfl (by decide) (by decide) (fun _ => rfl) (fun v5_9 => ?_)
  refine J_goto (tgt := 73) dX12_look_111 (by decide) ?_
  exact J_cut [2, 3, 4, 5, 1, 0] (lv' := [(0, .ref (llAd G 69)), (1, .int v1), (2, .int v2), (3, .int v3), (4, .int v4_8), (5, .int v5_9)]) rfl (fun h => h)
def fx_X12_look_69_l73 (u : llMem) (v1 : Int32) (v2 : Int32) (v3 : Int32) (s : Int32 × Int32) : Option ((Int32 × Int32) ⊕ (Int32)) := (if 900 ≤ s.2 then some (.inr s.1) else gI (120 + s.2) 1020 ((if (rI u 77 (120 + s.2)) = ((-1)) then fx_X12_look_69_j102_b73 u v1 v2 v3 s.2 s.1 0 else fx_X12_look_69_j102_b73 u v1 v2 v3 s.2 s.1 1)))
set_option maxRecDepth 20000 in
theorem t_X12_look_69_l73 {G : llG} {d : Nat} (u : llMem) (v1 : Int32) (v2 : Int32) (v3 : Int32) (s : Int32 × Int32) : llJ G RX12 cX12_look 6 (some .int) (d + 1) (Sum.elim (fun s' => llJq G 6 73 [(0, .ref (llAd G 69)), (1, .int v1), (2, .int v2), (3, .int v3), (4, .int s'.1), (5, .int s'.2)] [] u) (fun e => llJq G 6 114 [(0, .ref (llAd G 69)), (1, .int v1), (2, .int v2), (3, .int v3), (4, .int e)] [] u)) 73 [(0, .ref (llAd G 69)), (1, .int v1), (2, .int v2), (3, .int v3), (4, .int s.1), (5, .int s.2)] [] u (fx_X12_look_69_l73 u v1 v2 v3 s) := by
  unfold fx_X12_look_69_l73
  refine J_iload (j := 5) dX12_look_73 rfl ?_
  refine J_sipush (v := 900) dX12_look_75 (by decide) ?_
  refine J_icmp_ge (tgt := 114) dX12_look_78 (by decide) ?_ ?_
  · exact J_cut [0, 1, 2, 3, 4] (lv' := [(0, .ref (llAd G 69)), (1, .int v1), (2, .int v2), (3, .int v3), (4, .int s.1)]) rfl (fun h => h)
  · refine J_iload (j := 4) dX12_look_81 rfl ?_
    refine J_aload_n (j := 0) dX12_look_83 rfl rfl ?_
    refine J_getR (b := 77) dX12_look_84 fl_X12_32 sh_69 rfl ?_
    refine J_bipush (v := 120) dX12_look_87 (by decide) ?_
    refine J_iload (j := 5) dX12_look_89 rfl ?_
    refine J_iadd dX12_look_91 ?_
    refine J_iald dX12_look_92 sh_77 ?_
    refine J_iconst (v := (-1)) dX12_look_93 (by decide) ?_
    refine J_icmp_eq (tgt := 101) dX12_look_94 (by decide) ?_ ?_
    · refine J_iconst (v := 0) dX12_look_101 (by decide) ?_
      refine J_sub [0, 1, 2, 3, 5] (lv' := [(0, .ref (llAd G 69)), (1, .int v1), (2, .int v2), (3, .int v3), (5, .int s.2)]) rfl ?_
      exact t_X12_look_69_j102_b73 u v1 v2 v3 s.2 s.1 0
    · refine J_iconst (v := 1) dX12_look_97 (by decide) ?_
      refine J_goto (tgt := 102) dX12_look_98 (by decide) ?_
      refine J_sub [0, 1, 2, 3, 5] (lv' := [(0, .ref (llAd G 69)), (1, .int v1), (2, .int v2), (3, .int v3), (5, .int s.2)]) rfl ?_
      exact t_X12_look_69_j102_b73 u v1 v2 v3 s.2 s.1 1
def fx_X12_look_69 (u : llMem) (a0 : Int32) : Option Int32 := (loop (fx_X12_look_69_l10 u a0 0) llFuel (0, 0, 0)).bind (fun e6 => (loop (fx_X12_look_69_l73 u a0 e6.1 e6.2) llFuel (0, 0)).bind (fun e10 => (if a0 = 0 then some (u.1 69 1) else if a0 = 1 then some (u.1 69 9) else if a0 = 2 then some e6.1 else if a0 = 3 then some e6.2 else if a0 = 4 then some (u.1 69 11) else if a0 = 5 then some e10 else if a0 = 6 then some (u.1 69 14) else if a0 = 7 then some (u.1 69 16) else some ((-1)))))
set_option maxRecDepth 20000 in
theorem tj_X12_look_69 {G : llG} {d : Nat} (u : llMem) (a0 : Int32) : llJ G RX12 cX12_look 6 (some .int) (d + 1) (fun r => llRet G (llI r) u) 0 [(0, .ref (llAd G 69)), (1, .int a0)] [] u (fx_X12_look_69 u a0) := by
  unfold fx_X12_look_69
  refine J_iconst (v := 0) dX12_look_0 (by decide) ?_
  refine J_istore_n [(2, .int 0), (0, .ref (llAd G 69)), (1, .int a0)] dX12_look_1 rfl (by decide) rfl ?_
  refine J_iconst (v := 0) dX12_look_2 (by decide) ?_
  refine J_istore_n [(3, .int 0), (2, .int 0), (0, .ref (llAd G 69)), (1, .int a0)] dX12_look_3 rfl (by decide) rfl ?_
  refine J_iconst (v := 0) dX12_look_4 (by decide) ?_
  refine J_istore [(4, .int 0), (3, .int 0), (2, .int 0), (0, .ref (llAd G 69)), (1, .int a0)] dX12_look_5 (by decide) rfl ?_
  refine J_iconst (v := 0) dX12_look_7 (by decide) ?_
  refine J_istore [(5, .int 0), (4, .int 0), (3, .int 0), (2, .int 0), (0, .ref (llAd G 69)), (1, .int a0)] dX12_look_8 (by decide) rfl ?_
  refine J_loopE (fun s' => [(0, .ref (llAd G 69)), (1, .int a0), (2, .int s'.1), (3, .int s'.2.1), (4, .int 0), (5, .int s'.2.2)]) (fun s' => u) 70 (fun e => [(0, .ref (llAd G 69)), (1, .int a0), (2, .int e.1), (3, .int e.2), (4, .int 0)]) (fun e => u) (fun z => t_X12_look_69_l10 u a0 0 z) [4, 5, 3, 2, 1, 0] rfl rfl (fun e6 => ?_)
  refine J_iconst (v := 0) dX12_look_70 (by decide) ?_
  refine J_istore [(5, .int 0), (0, .ref (llAd G 69)), (1, .int a0), (2, .int e6.1), (3, .int e6.2), (4, .int 0)] dX12_look_71 (by decide) rfl ?_
  refine J_loopE (fun s' => [(0, .ref (llAd G 69)), (1, .int a0), (2, .int e6.1), (3, .int e6.2), (4, .int s'.1), (5, .int s'.2)]) (fun s' => u) 114 (fun e => [(0, .ref (llAd G 69)), (1, .int a0), (2, .int e6.1), (3, .int e6.2), (4, .int e)]) (fun e => u) (fun z => t_X12_look_69_l73 u a0 e6.1 e6.2 z) [1, 2, 3, 4, 5, 0] rfl rfl (fun e10 => ?_)
  refine J_iload_n (j := 1) dX12_look_114 rfl rfl ?_
  refine J_case (fun hq0 => ?_) (fun hn0 => ?_)
  · refine J_tableIn (tgt := 160) hq0 dX12_look_115 (by decide) (by decide) rfl (by decide) ?_
    refine J_aload_n (j := 0) dX12_look_160 rfl rfl ?_
    refine J_getI dX12_look_161 fl_X12_260 sh_69 rfl ?_
    exact J_iret dX12_look_164 (fun h => h)
  refine J_case (fun hq1 => ?_) (fun hn1 => ?_)
  · refine J_tableIn (tgt := 165) hq1 dX12_look_115 (by decide) (by decide) rfl (by decide) ?_
    refine J_aload_n (j := 0) dX12_look_165 rfl rfl ?_
    refine J_getI dX12_look_166 fl_X12_263 sh_69 rfl ?_
    exact J_iret dX12_look_169 (fun h => h)
  refine J_case (fun hq2 => ?_) (fun hn2 => ?_)
  · refine J_tableIn (tgt := 170) hq2 dX12_look_115 (by decide) (by decide) rfl (by decide) ?_
    refine J_iload_n (j := 2) dX12_look_170 rfl rfl ?_
    exact J_iret dX12_look_171 (fun h => h)
  refine J_case (fun hq3 => ?_) (fun hn3 => ?_)
  · refine J_tableIn (tgt := 172) hq3 dX12_look_115 (by decide) (by decide) rfl (by decide) ?_
    refine J_iload_n (j := 3) dX12_look_172 rfl rfl ?_
    exact J_iret dX12_look_173 (fun h => h)
  refine J_case (fun hq4 => ?_) (fun hn4 => ?_)
  · refine J_tableIn (tgt := 174) hq4 dX12_look_115 (by decide) (by decide) rfl (by decide) ?_
    refine J_aload_n (j := 0) dX12_look_174 rfl rfl ?_
    refine J_getI dX12_look_175 fl_X12_266 sh_69 rfl ?_
    exact J_iret dX12_look_178 (fun h => h)
  refine J_case (fun hq5 => ?_) (fun hn5 => ?_)
  · refine J_tableIn (tgt := 179) hq5 dX12_look_115 (by decide) (by decide) rfl (by decide) ?_
    refine J_iload (j := 4) dX12_look_179 rfl ?_
    exact J_iret dX12_look_181 (fun h => h)
  refine J_case (fun hq6 => ?_) (fun hn6 => ?_)
  · refine J_tableIn (tgt := 182) hq6 dX12_look_115 (by decide) (by decide) rfl (by decide) ?_
    refine J_aload_n (j := 0) dX12_look_182 rfl rfl ?_
    refine J_getI dX12_look_183 fl_X12_110 sh_69 rfl ?_
    exact J_iret dX12_look_186 (fun h => h)
  refine J_case (fun hq7 => ?_) (fun hn7 => ?_)
  · refine J_tableIn (tgt := 187) hq7 dX12_look_115 (by decide) (by decide) rfl (by decide) ?_
    refine J_aload_n (j := 0) dX12_look_187 rfl rfl ?_
    refine J_getI dX12_look_188 fl_X12_113 sh_69 rfl ?_
    exact J_iret dX12_look_191 (fun h => h)
  refine J_tableOut (tgt := 192) dX12_look_115 (llTabG (by decide) (by decide) (fun k hk1 hk2 => by rcases (show k = 0 ∨ k = 1 ∨ k = 2 ∨ k = 3 ∨ k = 4 ∨ k = 5 ∨ k = 6 ∨ k = 7 by omega) with rfl | rfl | rfl | rfl | rfl | rfl | rfl | rfl <;> assumption)) (by decide) ?_
  refine J_iconst (v := (-1)) dX12_look_192 (by decide) ?_
  exact J_iret dX12_look_193 (fun h => h)
theorem t_X12_look_69 (l : Launch) (F : llFix) (d : Nat) (u : llMem) (a0 : Int32) : llCp l F yX12_look cX12_look 6 (some .int) (d + 1) [.ref (F.2.2.1 69), .int a0] u llI (fx_X12_look_69 u a0) := llCp.of (by decide +kernel) (by exact Nat.le_of_ble_eq_true rfl) (fun G h1 h2 => by subst h1; subst h2; exact tj_X12_look_69 u a0)
def fx_J7_fill_53178_17_l5 (v1 : Int32) (v3 : Int32) (s : llMem × Int32) : Option ((llMem × Int32) ⊕ (llMem)) := (if v3 ≤ s.2 then some (.inr s.1) else gI s.2 900 (lt (llSI s.1 17 (Int32.toNatClampNeg s.2) v1) (fun u1 => lt (s.2 + 1) (fun v2_2 => some (.inl (u1, v2_2))))))
set_option maxRecDepth 20000 in
theorem t_J7_fill_53178_17_l5 {G : llG} {d : Nat} (v1 : Int32) (v3 : Int32) (s : llMem × Int32) : llJ G RJ7 cJ7_fill_53178 4 none d (Sum.elim (fun s' => llJq G 4 5 [(0, .ref (llAd G 17)), (1, .int v1), (2, .int s'.2), (3, .int v3)] [] s'.1) (fun e => llJq G 4 20 [] [] e)) 5 [(0, .ref (llAd G 17)), (1, .int v1), (2, .int s.2), (3, .int v3)] [] s.1 (fx_J7_fill_53178_17_l5 v1 v3 s) := by
  unfold fx_J7_fill_53178_17_l5
  refine J_iload_n (j := 2) dJ7_fill_53178_5 rfl rfl ?_
  refine J_iload_n (j := 3) dJ7_fill_53178_6 rfl rfl ?_
  refine J_icmp_ge (tgt := 20) dJ7_fill_53178_7 (by decide) ?_ ?_
  · exact J_cut [] (lv' := []) rfl (fun h => h)
  · refine J_aload_n (j := 0) dJ7_fill_53178_10 rfl rfl ?_
    refine J_iload_n (j := 2) dJ7_fill_53178_11 rfl rfl ?_
    refine J_iload_n (j := 1) dJ7_fill_53178_12 rfl rfl ?_
    refine J_iast dJ7_fill_53178_13 sh_17 (fun u1 => ?_)
    refine J_iinc (j := 2) (b := 1) (fun v2_2 => [(2, .int v2_2), (0, .ref (llAd G 17)), (1, .int v1), (3, .int v3)]) dJ7_fill_53178_14 rfl (by decide) (by decide) (fun _ => rfl) (fun v2_2 => ?_)
    refine J_goto (tgt := 5) dJ7_fill_53178_17 (by decide) ?_
    exact J_cut [1, 2, 0, 3] (lv' := [(0, .ref (llAd G 17)), (1, .int v1), (2, .int v2_2), (3, .int v3)]) rfl (fun h => h)
def fx_J7_fill_53178_17 (u : llMem) (a1 : Int32) : Option (llMem × Unit) := (loop (fx_J7_fill_53178_17_l5 a1 900) llFuel (u, 0)).bind (fun e3 => some (e3, ()))
set_option maxRecDepth 20000 in
theorem tj_J7_fill_53178_17 {G : llG} {d : Nat} (u : llMem) (a1 : Int32) : llJ G RJ7 cJ7_fill_53178 4 none d (fun r => llRet G (llVd r.2) r.1) 0 [(0, .ref (llAd G 17)), (1, .int a1)] [] u (fx_J7_fill_53178_17 u a1) := by
  unfold fx_J7_fill_53178_17
  refine J_iconst (v := 0) dJ7_fill_53178_0 (by decide) ?_
  refine J_istore_n [(2, .int 0), (0, .ref (llAd G 17)), (1, .int a1)] dJ7_fill_53178_1 rfl (by decide) rfl ?_
  refine J_aload_n (j := 1) dJ7_fill_53178_2 rfl rfl ?_
  refine J_alen (v := 900) dJ7_fill_53178_3 sh_17 (by decide) (by decide) ?_
  refine J_istore_n [(3, .int 900), (2, .int 0), (0, .ref (llAd G 17)), (1, .int a1)] dJ7_fill_53178_4 rfl (by decide) rfl ?_
  refine J_loopE (fun s' => [(0, .ref (llAd G 17)), (1, .int a1), (2, .int s'.2), (3, .int 900)]) (fun s' => s'.1) 20 (fun e => []) (fun e => e) (fun z => t_J7_fill_53178_17_l5 a1 900 z) [2, 3, 1, 0] rfl rfl (fun e3 => ?_)
  exact J_vret dJ7_fill_53178_20 (fun h => h)
theorem t_J7_fill_53178_17 (l : Launch) (F : llFix) (d : Nat) (u : llMem) (a1 : Int32) : llCt l F yJ7_fill_53178 cJ7_fill_53178 4 none d [.ref (F.2.2.1 17), .int a1] u llVd (fx_J7_fill_53178_17 u a1) := llCt.of (by decide +kernel) (by exact Nat.le_of_ble_eq_true rfl) (fun G h1 h2 => by subst h1; subst h2; exact tj_J7_fill_53178_17 u a1)
