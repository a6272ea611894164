def fx_X9_put_1_j43_b3 (u : llMem) (v1 : Int32) (v2 : Int32) : Option ((llMem × Int32) ⊕ (llMem)) := lt (v2 + (-8)) (fun v2_1 => some (.inl (u, v2_1)))
set_option maxRecDepth 20000 in
theorem t_X9_put_1_j43_b3 {G : llG} {d : Nat} (u : llMem) (v1 : Int32) (v2 : Int32) : llJ G RX9 cX9_put 3 none d (Sum.elim (fun s' => llJq G 3 3 [(0, .ref (llAd G 1)), (1, .int v1), (2, .int s'.2)] [] s'.1) (fun e => llJq G 3 49 [] [] e)) 43 [(0, .ref (llAd G 1)), (1, .int v1), (2, .int v2)] [] u (fx_X9_put_1_j43_b3 u v1 v2) := by
  unfold fx_X9_put_1_j43_b3
  refine J_iinc (j := 2) (b := (-8)) (fun v2_1 => [(2, .int v2_1), (0, .ref (llAd G 1)), (1, .int v1)]) dX9_put_43 rfl (by decide) (by decide) (fun _ => rfl) (fun v2_1 => ?_)
  refine J_goto (tgt := 3) dX9_put_46 (by decide) ?_
  exact J_cut [1, 2, 0] (lv' := [(0, .ref (llAd G 1)), (1, .int v1), (2, .int v2_1)]) rfl (fun h => h)
def fx_X9_put_1_l3 (v1 : Int32) (s : llMem × Int32) : Option ((llMem × Int32) ⊕ (llMem)) := (if s.2 < 0 then some (.inr s.1) else (if 700 ≤ (s.1.1 1 1) then fx_X9_put_1_j43_b3 s.1 v1 s.2 else gI (s.1.1 1 1) 700 (lt (llSI s.1 2 (Int32.toNatClampNeg (s.1.1 1 1)) (((Int32.toUInt32 v1 >>> (Int32.toUInt32 s.2 &&& Int32.toUInt32 31)).toInt32) &&& 255)) (fun u2 => lt (llSI u2 1 1 ((u2.1 1 1) + 1)) (fun u3 => fx_X9_put_1_j43_b3 u3 v1 s.2)))))
set_option maxRecDepth 20000 in
theorem t_X9_put_1_l3 {G : llG} {d : Nat} (v1 : Int32) (s : llMem × Int32) : llJ G RX9 cX9_put 3 none d (Sum.elim (fun s' => llJq G 3 3 [(0, .ref (llAd G 1)), (1, .int v1), (2, .int s'.2)] [] s'.1) (fun e => llJq G 3 49 [] [] e)) 3 [(0, .ref (llAd G 1)), (1, .int v1), (2, .int s.2)] [] s.1 (fx_X9_put_1_l3 v1 s) := by
  unfold fx_X9_put_1_l3
  refine J_iload_n (j := 2) dX9_put_3 rfl rfl ?_
  refine J_if_lt (tgt := 49) dX9_put_4 (by decide) ?_ ?_
  · exact J_cut [] (lv' := []) rfl (fun h => h)
  · refine J_aload_n (j := 0) dX9_put_7 rfl rfl ?_
    refine J_getI dX9_put_8 fl_X9_19 sh_1 rfl ?_
    refine J_sipush (v := 700) dX9_put_11 (by decide) ?_
    refine J_icmp_ge (tgt := 43) dX9_put_14 (by decide) ?_ ?_
    · refine J_sub [0, 1, 2] (lv' := [(0, .ref (llAd G 1)), (1, .int v1), (2, .int s.2)]) rfl ?_
      exact t_X9_put_1_j43_b3 s.1 v1 s.2
    · refine J_aload_n (j := 0) dX9_put_17 rfl rfl ?_
      refine J_getR (b := 2) dX9_put_18 fl_X9_11 sh_1 rfl ?_
      refine J_aload_n (j := 0) dX9_put_21 rfl rfl ?_
      refine J_getI dX9_put_22 fl_X9_19 sh_1 rfl ?_
      refine J_iload_n (j := 1) dX9_put_25 rfl rfl ?_
      refine J_iload_n (j := 2) dX9_put_26 rfl rfl ?_
      refine J_iushr dX9_put_27 ?_
      refine J_sipush (v := 255) dX9_put_28 (by decide) ?_
      refine J_iand dX9_put_31 ?_
      refine J_iast dX9_put_32 sh_2 (fun u2 => ?_)
      refine J_aload_n (j := 0) dX9_put_33 rfl rfl ?_
      refine J_dup dX9_put_34 rfl ?_
      refine J_getI dX9_put_35 fl_X9_19 sh_1 rfl ?_
      refine J_iconst (v := 1) dX9_put_38 (by decide) ?_
      refine J_iadd dX9_put_39 ?_
      refine J_putI dX9_put_40 fl_X9_19 sh_1 rfl (fun u3 => ?_)
      refine J_sub [0, 1, 2] (lv' := [(0, .ref (llAd G 1)), (1, .int v1), (2, .int s.2)]) rfl ?_
      exact t_X9_put_1_j43_b3 u3 v1 s.2
def fx_X9_put_1 (u : llMem) (a0 : Int32) : Option (llMem × Unit) := (loop (fx_X9_put_1_l3 a0) llFuel (u, 24)).bind (fun e4 => some (e4, ()))
set_option maxRecDepth 20000 in
theorem tj_X9_put_1 {G : llG} {d : Nat} (u : llMem) (a0 : Int32) : llJ G RX9 cX9_put 3 none d (fun r => llRet G (llVd r.2) r.1) 0 [(0, .ref (llAd G 1)), (1, .int a0)] [] u (fx_X9_put_1 u a0) := by
  unfold fx_X9_put_1
  refine J_bipush (v := 24) dX9_put_0 (by decide) ?_
  refine J_istore_n [(2, .int 24), (0, .ref (llAd G 1)), (1, .int a0)] dX9_put_2 rfl (by decide) rfl ?_
  refine J_loopE (fun s' => [(0, .ref (llAd G 1)), (1, .int a0), (2, .int s'.2)]) (fun s' => s'.1) 49 (fun e => []) (fun e => e) (fun z => t_X9_put_1_l3 a0 z) [1, 2, 0] rfl rfl (fun e4 => ?_)
  exact J_vret dX9_put_49 (fun h => h)
theorem t_X9_put_1 (l : Launch) (F : llFix) (d : Nat) (u : llMem) (a0 : Int32) : llCt l F yX9_put cX9_put 3 none d [.ref (F.2.2.1 1), .int a0] u llVd (fx_X9_put_1 u a0) := llCt.of (by decide +kernel) (by exact Nat.le_of_ble_eq_true rfl) (fun G h1 h2 => by subst h1; subst h2; exact tj_X9_put_1 u a0)
def fx_X11_feed_0 (u : llMem) (a0 : Int32) (a1 : Int32) (a2 : Int32) (a3 : Int32) (a4 : Int32) : Option (llMem × Int32) := (if (u.1 1 1) ≤ 680 then bd (fx_X9_put_1 u a0) (fun u1 _ => bd (fx_X9_put_1 u1 a1) (fun u2 _ => bd (fx_X9_put_1 u2 a2) (fun u3 _ => bd (fx_X9_put_1 u3 a3) (fun u4 _ => bd (fx_X9_put_1 u4 a4) (fun u5 _ => some (u5, u5.1 1 1)))))) else some (u, (-1)))
set_option maxRecDepth 20000 in
theorem tj_X11_feed_0 {G : llG} {d : Nat} (u : llMem) (a0 : Int32) (a1 : Int32) (a2 : Int32) (a3 : Int32) (a4 : Int32) : llJ G RX11 cX11_feed 6 (some .int) (d + 1) (fun r => llRet G (llI r.2) r.1) 0 [(0, .ref (llAd G 0)), (1, .int a0), (2, .int a1), (3, .int a2), (4, .int a3), (5, .int a4)] [] u (fx_X11_feed_0 u a0 a1 a2 a3 a4) := by
  unfold fx_X11_feed_0
  refine J_aload_n (j := 0) dX11_feed_0 rfl rfl ?_
  refine J_getR (b := 1) dX11_feed_1 fl_X11_10 sh_0 rfl ?_
  refine J_getI dX11_feed_4 fl_X11_91 sh_1 rfl ?_
  refine J_sipush (v := 680) dX11_feed_7 (by decide) ?_
  refine J_icmp_le (tgt := 15) dX11_feed_10 (by decide) ?_ ?_
  · refine J_aload_n (j := 0) dX11_feed_15 rfl rfl ?_
    refine J_getR (b := 1) dX11_feed_16 fl_X11_10 sh_0 rfl ?_
    refine J_iload_n (j := 1) dX11_feed_19 rfl rfl ?_
    refine J_callVv1 dX11_feed_20 (t_X9_put_1 (llL G) (llFx G) d u a0) ym_X9_put wd_495 sh_1 rfl (Nat.le_of_ble_eq_true rfl) (fun u1 => ?_)
    refine J_aload_n (j := 0) dX11_feed_23 rfl rfl ?_
    refine J_getR (b := 1) dX11_feed_24 fl_X11_10 sh_0 rfl ?_
    refine J_iload_n (j := 2) dX11_feed_27 rfl rfl ?_
    refine J_callVv1 dX11_feed_28 (t_X9_put_1 (llL G) (llFx G) d u1 a1) ym_X9_put wd_495 sh_1 rfl (Nat.le_of_ble_eq_true rfl) (fun u2 => ?_)
    refine J_aload_n (j := 0) dX11_feed_31 rfl rfl ?_
    refine J_getR (b := 1) dX11_feed_32 fl_X11_10 sh_0 rfl ?_
    refine J_iload_n (j := 3) dX11_feed_35 rfl rfl ?_
    refine J_callVv1 dX11_feed_36 (t_X9_put_1 (llL G) (llFx G) d u2 a2) ym_X9_put wd_495 sh_1 rfl (Nat.le_of_ble_eq_true rfl) (fun u3 => ?_)
    refine J_aload_n (j := 0) dX11_feed_39 rfl rfl ?_
    refine J_getR (b := 1) dX11_feed_40 fl_X11_10 sh_0 rfl ?_
    refine J_iload (j := 4) dX11_feed_43 rfl ?_
    refine J_callVv1 dX11_feed_45 (t_X9_put_1 (llL G) (llFx G) d u3 a3) ym_X9_put wd_495 sh_1 rfl (Nat.le_of_ble_eq_true rfl) (fun u4 => ?_)
    refine J_aload_n (j := 0) dX11_feed_48 rfl rfl ?_
    refine J_getR (b := 1) dX11_feed_49 fl_X11_10 sh_0 rfl ?_
    refine J_iload (j := 5) dX11_feed_52 rfl ?_
    refine J_callVv1 dX11_feed_54 (t_X9_put_1 (llL G) (llFx G) d u4 a4) ym_X9_put wd_495 sh_1 rfl (Nat.le_of_ble_eq_true rfl) (fun u5 => ?_)
    refine J_aload_n (j := 0) dX11_feed_57 rfl rfl ?_
    refine J_getR (b := 1) dX11_feed_58 fl_X11_10 sh_0 rfl ?_
    refine J_getI dX11_feed_61 fl_X11_91 sh_1 rfl ?_
    exact J_iret dX11_feed_64 (fun h => h)
  · refine J_iconst (v := (-1)) dX11_feed_13 (by decide) ?_
    exact J_iret dX11_feed_14 (fun h => h)
theorem t_X11_feed_0 (l : Launch) (F : llFix) (d : Nat) (u : llMem) (a0 : Int32) (a1 : Int32) (a2 : Int32) (a3 : Int32) (a4 : Int32) : llCt l F yX11_feed cX11_feed 6 (some .int) (d + 1) [.ref (F.2.2.1 0), .int a0, .int a1, .int a2, .int a3, .int a4] u llI (fx_X11_feed_0 u a0 a1 a2 a3 a4) := llCt.of (by decide +kernel) (by exact Nat.le_of_ble_eq_true rfl) (fun G h1 h2 => by subst h1; subst h2; exact tj_X11_feed_0 u a0 a1 a2 a3 a4)
def fx_X12_four_69_l3 (v1 : Int32) (s : llMem × Int32) : Option ((llMem × Int32) ⊕ (llMem)) := (if s.2 < 0 then some (.inr s.1) else gI (s.1.1 69 16) 700 (lt (llSI s.1 79 (Int32.toNatClampNeg (s.1.1 69 16)) ((v1 >>> (s.2 &&& 31)) &&& 255)) (fun u1 => lt (llSI u1 69 16 ((u1.1 69 16) + 1)) (fun u2 => lt (s.2 + (-8)) (fun v2_3 => some (.inl (u2, v2_3)))))))
set_option maxRecDepth 20000 in
theorem t_X12_four_69_l3 {G : llG} {d : Nat} (v1 : Int32) (s : llMem × Int32) : llJ G RX12 cX12_four 3 none d (Sum.elim (fun s' => llJq G 3 3 [(0, .ref (llAd G 69)), (1, .int v1), (2, .int s'.2)] [] s'.1) (fun e => llJq G 3 39 [] [] e)) 3 [(0, .ref (llAd G 69)), (1, .int v1), (2, .int s.2)] [] s.1 (fx_X12_four_69_l3 v1 s) := by
  unfold fx_X12_four_69_l3
  refine J_iload_n (j := 2) dX12_four_3 rfl rfl ?_
  refine J_if_lt (tgt := 39) dX12_four_4 (by decide) ?_ ?_
  · exact J_cut [] (lv' := []) rfl (fun h => h)
  · refine J_aload_n (j := 0) dX12_four_7 rfl rfl ?_
    refine J_getR (b := 79) dX12_four_8 fl_X12_38 sh_69 rfl ?_
    refine J_aload_n (j := 0) dX12_four_11 rfl rfl ?_
    refine J_getI dX12_four_12 fl_X12_113 sh_69 rfl ?_
    refine J_iload_n (j := 1) dX12_four_15 rfl rfl ?_
    refine J_iload_n (j := 2) dX12_four_16 rfl rfl ?_
    refine J_ishr dX12_four_17 ?_
    refine J_sipush (v := 255) dX12_four_18 (by decide) ?_
    refine J_iand dX12_four_21 ?_
    refine J_iast dX12_four_22 sh_79 (fun u1 => ?_)
    refine J_aload_n (j := 0) dX12_four_23 rfl rfl ?_
    refine J_dup dX12_four_24 rfl ?_
    refine J_getI dX12_four_25 fl_X12_113 sh_69 rfl ?_
    refine J_iconst (v := 1) dX12_four_28 (by decide) ?_
    refine J_iadd dX12_four_29 ?_
    refine J_putI dX12_four_30 fl_X12_113 sh_69 rfl (fun u2 => ?_)
    refine J_iinc (j := 2) (b := (-8)) (fun v2_3 => [(2, .int v2_3), (0, .ref (llAd G 69)), (1, .int v1)]) dX12_four_33 rfl (by decide) (by decide) (fun _ => rfl) (fun v2_3 => ?_)
    refine J_goto (tgt := 3) dX12_four_36 (by decide) ?_
    exact J_cut [1, 2, 0] (lv' := [(0, .ref (llAd G 69)), (1, .int v1), (2, .int v2_3)]) rfl (fun h => h)
def fx_X12_four_69 (u : llMem) (a0 : Int32) : Option (llMem × Unit) := (loop (fx_X12_four_69_l3 a0) llFuel (u, 24)).bind (fun e4 => some (e4, ()))
set_option maxRecDepth 20000 in
theorem tj_X12_four_69 {G : llG} {d : Nat} (u : llMem) (a0 : Int32) : llJ G RX12 cX12_four 3 none d (fun r => llRet G (llVd r.2) r.1) 0 [(0, .ref (llAd G 69)), (1, .int a0)] [] u (fx_X12_four_69 u a0) := by
  unfold fx_X12_four_69
  refine J_bipush (v := 24) dX12_four_0 (by decide) ?_
  refine J_istore_n [(2, .int 24), (0, .ref (llAd G 69)), (1, .int a0)] dX12_four_2 rfl (by decide) rfl ?_
  refine J_loopE (fun s' => [(0, .ref (llAd G 69)), (1, .int a0), (2, .int s'.2)]) (fun s' => s'.1) 39 (fun e => []) (fun e => e) (fun z => t_X12_four_69_l3 a0 z) [1, 2, 0] rfl rfl (fun e4 => ?_)
  exact J_vret dX12_four_39 (fun h => h)
theorem t_X12_four_69 (l : Launch) (F : llFix) (d : Nat) (u : llMem) (a0 : Int32) : llCt l F yX12_four cX12_four 3 none d [.ref (F.2.2.1 69), .int a0] u llVd (fx_X12_four_69 u a0) := llCt.of (by decide +kernel) (by exact Nat.le_of_ble_eq_true rfl) (fun G h1 h2 => by subst h1; subst h2; exact tj_X12_four_69 u a0)
def fx_X12_feed_69 (u : llMem) (a0 : Int32) (a1 : Int32) (a2 : Int32) (a3 : Int32) (a4 : Int32) : Option (llMem × Int32) := (if ((u.1 69 16) + 20) ≤ 700 then bd (fx_X12_four_69 u a0) (fun u1 _ => bd (fx_X12_four_69 u1 a1) (fun u2 _ => bd (fx_X12_four_69 u2 a2) (fun u3 _ => bd (fx_X12_four_69 u3 a3) (fun u4 _ => bd (fx_X12_four_69 u4 a4) (fun u5 _ => some (u5, u5.1 69 16)))))) else some (u, (-1)))
set_option maxRecDepth 20000 in
theorem tj_X12_feed_69 {G : llG} {d : Nat} (u : llMem) (a0 : Int32) (a1 : Int32) (a2 : Int32) (a3 : Int32) (a4 : Int32) : llJ G RX12 cX12_feed 6 (some .int) (d + 1) (fun r => llRet G (llI r.2) r.1) 0 [(0, .ref (llAd G 69)), (1, .int a0), (2, .int a1), (3, .int a2), (4, .int a3), (5, .int a4)] [] u (fx_X12_feed_69 u a0 a1 a2 a3 a4) := by
  unfold fx_X12_feed_69
  refine J_aload_n (j := 0) dX12_feed_0 rfl rfl ?_
  refine J_getI dX12_feed_1 fl_X12_113 sh_69 rfl ?_
  refine J_bipush (v := 20) dX12_feed_4 (by decide) ?_
  refine J_iadd dX12_feed_6 ?_
  refine J_sipush (v := 700) dX12_feed_7 (by decide) ?_
  refine J_icmp_le (tgt := 15) dX12_feed_10 (by decide) ?_ ?_
  · refine J_aload_n (j := 0) dX12_feed_15 rfl rfl ?_
    refine J_iload_n (j := 1) dX12_feed_16 rfl rfl ?_
    refine J_callVv1 dX12_feed_17 (t_X12_four_69 (llL G) (llFx G) d u a0) ym_X12_four wd_1305 sh_69 rfl (Nat.le_of_ble_eq_true rfl) (fun u1 => ?_)
    refine J_aload_n (j := 0) dX12_feed_20 rfl rfl ?_
    refine J_iload_n (j := 2) dX12_feed_21 rfl rfl ?_
    refine J_callVv1 dX12_feed_22 (t_X12_four_69 (llL G) (llFx G) d u1 a1) ym_X12_four wd_1305 sh_69 rfl (Nat.le_of_ble_eq_true rfl) (fun u2 => ?_)
    refine J_aload_n (j := 0) dX12_feed_25 rfl rfl ?_
    refine J_iload_n (j := 3) dX12_feed_26 rfl rfl ?_
    refine J_callVv1 dX12_feed_27 (t_X12_four_69 (llL G) (llFx G) d u2 a2) ym_X12_four wd_1305 sh_69 rfl (Nat.le_of_ble_eq_true rfl) (fun u3 => ?_)
    refine J_aload_n (j := 0) dX12_feed_30 rfl rfl ?_
    refine J_iload (j := 4) dX12_feed_31 rfl ?_
    refine J_callVv1 dX12_feed_33 (t_X12_four_69 (llL G) (llFx G) d u3 a3) ym_X12_four wd_1305 sh_69 rfl (Nat.le_of_ble_eq_true rfl) (fun u4 => ?_)
    refine J_aload_n (j := 0) dX12_feed_36 rfl rfl ?_
    refine J_iload (j := 5) dX12_feed_37 rfl ?_
    refine J_callVv1 dX12_feed_39 (t_X12_four_69 (llL G) (llFx G) d u4 a4) ym_X12_four wd_1305 sh_69 rfl (Nat.le_of_ble_eq_true rfl) (fun u5 => ?_)
    refine J_aload_n (j := 0) dX12_feed_42 rfl rfl ?_
    refine J_getI dX12_feed_43 fl_X12_113 sh_69 rfl ?_
    exact J_iret dX12_feed_46 (fun h => h)
  · refine J_iconst (v := (-1)) dX12_feed_13 (by decide) ?_
    exact J_iret dX12_feed_14 (fun h => h)
theorem t_X12_feed_69 (l : Launch) (F : llFix) (d : Nat) (u : llMem) (a0 : Int32) (a1 : Int32) (a2 : Int32) (a3 : Int32) (a4 : Int32) : llCt l F yX12_feed cX12_feed 6 (some .int) (d + 1) [.ref (F.2.2.1 69), .int a0, .int a1, .int a2, .int a3, .int a4] u llI (fx_X12_feed_69 u a0 a1 a2 a3 a4) := llCt.of (by decide +kernel) (by exact Nat.le_of_ble_eq_true rfl) (fun G h1 h2 => by subst h1; subst h2; exact tj_X12_feed_69 u a0 a1 a2 a3 a4)
def fx_X11_end_0 (u : llMem) (a0 : Int32) : Option (llMem × Int32) := (if a0 < 0 then gB 0 (some (u, 0)) else (if a0 ≤ (u.1 1 1) then lt (llSI u 1 1 a0) (fun u1 => gB 1 (some (u1, 1))) else gB 0 (some (u, 0))))
set_option maxRecDepth 20000 in
theorem tj_X11_end_0 {G : llG} {d : Nat} (u : llMem) (a0 : Int32) : llJ G RX11 cX11_end 2 (some .boolean) d (fun r => llRet G (llI r.2) r.1) 0 [(0, .ref (llAd G 0)), (1, .int a0)] [] u (fx_X11_end_0 u a0) := by
  unfold fx_X11_end_0
  refine J_iload_n (j := 1) dX11_end_0 rfl rfl ?_
  refine J_if_lt (tgt := 15) dX11_end_1 (by decide) ?_ ?_
  · refine J_iconst (v := 0) dX11_end_15 (by decide) ?_
    exact J_zret dX11_end_16 (fun h => h)
  · refine J_iload_n (j := 1) dX11_end_4 rfl rfl ?_
    refine J_aload_n (j := 0) dX11_end_5 rfl rfl ?_
    refine J_getR (b := 1) dX11_end_6 fl_X11_10 sh_0 rfl ?_
    refine J_getI dX11_end_9 fl_X11_91 sh_1 rfl ?_
    refine J_icmp_le (tgt := 17) dX11_end_12 (by decide) ?_ ?_
    · refine J_aload_n (j := 0) dX11_end_17 rfl rfl ?_
      refine J_getR (b := 1) dX11_end_18 fl_X11_10 sh_0 rfl ?_
      refine J_iload_n (j := 1) dX11_end_21 rfl rfl ?_
      refine J_putI dX11_end_22 fl_X11_91 sh_1 rfl (fun u1 => ?_)
      refine J_iconst (v := 1) dX11_end_25 (by decide) ?_
      exact J_zret dX11_end_26 (fun h => h)
    · refine J_iconst (v := 0) dX11_end_15 (by decide) ?_
      exact J_zret dX11_end_16 (fun h => h)
theorem t_X11_end_0 (l : Launch) (F : llFix) (d : Nat) (u : llMem) (a0 : Int32) : llCt l F yX11_end cX11_end 2 (some .boolean) d [.ref (F.2.2.1 0), .int a0] u llI (fx_X11_end_0 u a0) := llCt.of (by decide +kernel) (by exact Nat.le_of_ble_eq_true rfl) (fun G h1 h2 => by subst h1; subst h2; exact tj_X11_end_0 u a0)
def fx_X12_isIn (u : llMem) (a0 : Int64) (a1 : Int64) (a2 : Int64) : Option Int32 := (if (lg_cmp a0 a1) < 0 then gB 0 (some 0) else (if 0 < (lg_cmp a0 a2) then gB 0 (some 0) else gB 1 (some 1)))
set_option maxRecDepth 20000 in
theorem tj_X12_isIn {G : llG} {d : Nat} (u : llMem) (a0 : Int64) (a1 : Int64) (a2 : Int64) : llJ G RX12 cX12_isIn 6 (some .boolean) d (fun r => llRet G (llI r) u) 0 [(0, .long a0), (2, .long a1), (4, .long a2)] [] u (fx_X12_isIn u a0 a1 a2) := by
  unfold fx_X12_isIn
  refine J_lload_n (j := 0) dX12_isIn_0 rfl rfl ?_
  refine J_lload_n (j := 1) dX12_isIn_1 rfl rfl ?_
  refine J_lcmp dX12_isIn_2 ?_
  refine J_if_lt (tgt := 17) dX12_isIn_3 (by decide) ?_ ?_
  · refine J_iconst (v := 0) dX12_isIn_17 (by decide) ?_
    exact J_zret dX12_isIn_18 (fun h => h)
  · refine J_lload_n (j := 0) dX12_isIn_6 rfl rfl ?_
    refine J_lload (j := 2) dX12_isIn_7 rfl ?_
    refine J_lcmp dX12_isIn_9 ?_
    refine J_if_gt (tgt := 17) dX12_isIn_10 (by decide) ?_ ?_
    · refine J_iconst (v := 0) dX12_isIn_17 (by decide) ?_
      exact J_zret dX12_isIn_18 (fun h => h)
    · refine J_iconst (v := 1) dX12_isIn_13 (by decide) ?_
      refine J_goto (tgt := 18) dX12_isIn_14 (by decide) ?_
      exact J_zret dX12_isIn_18 (fun h => h)
theorem t_X12_isIn (l : Launch) (F : llFix) (d : Nat) (u : llMem) (a0 : Int64) (a1 : Int64) (a2 : Int64) : llCp l F yX12_isIn cX12_isIn 6 (some .boolean) d [.long a0, .long a1, .long a2] u llI (fx_X12_isIn u a0 a1 a2) := llCp.of (by decide +kernel) (by exact Nat.le_of_ble_eq_true rfl) (fun G h1 h2 => by subst h1; subst h2; exact tj_X12_isIn u a0 a1 a2)
def fx_X12_end_69 (u : llMem) (a0 : Int32) : Option (llMem × Int32) := (fx_X12_isIn u (Int32.toInt64 a0) 0 (Int32.toInt64 (u.1 69 16))).bind (fun r1 => (if ¬ r1 = 0 then lt (llSI u 69 16 a0) (fun u2 => gB 1 (some (u2, 1))) else gB 0 (some (u, 0))))
set_option maxRecDepth 20000 in
theorem tj_X12_end_69 {G : llG} {d : Nat} (u : llMem) (a0 : Int32) : llJ G RX12 cX12_end 2 (some .boolean) (d + 1) (fun r => llRet G (llI r.2) r.1) 0 [(0, .ref (llAd G 69)), (1, .int a0)] [] u (fx_X12_end_69 u a0) := by
  unfold fx_X12_end_69
  refine J_iload_n (j := 1) dX12_end_0 rfl rfl ?_
  refine J_i2l dX12_end_1 ?_
  refine J_lconst (v := 0) dX12_end_2 (by decide) ?_
  refine J_aload_n (j := 0) dX12_end_3 rfl rfl ?_
  refine J_getI dX12_end_4 fl_X12_113 sh_69 rfl ?_
  refine J_i2l dX12_end_7 ?_
  refine J_callSip3 dX12_end_8 (t_X12_isIn (llL G) (llFx G) d u (Int32.toInt64 a0) 0 (Int32.toInt64 (u.1 69 16))) ym_X12_isIn wd_1313 (Nat.le_of_ble_eq_true rfl) (fun r1 => ?_)
  refine J_if_ne (tgt := 16) dX12_end_11 (by decide) ?_ ?_
  · refine J_aload_n (j := 0) dX12_end_16 rfl rfl ?_
    refine J_iload_n (j := 1) dX12_end_17 rfl rfl ?_
    refine J_putI dX12_end_18 fl_X12_113 sh_69 rfl (fun u2 => ?_)
    refine J_iconst (v := 1) dX12_end_21 (by decide) ?_
    exact J_zret dX12_end_22 (fun h => h)
  · refine J_iconst (v := 0) dX12_end_14 (by decide) ?_
    exact J_zret dX12_end_15 (fun h => h)
theorem t_X12_end_69 (l : Launch) (F : llFix) (d : Nat) (u : llMem) (a0 : Int32) : llCt l F yX12_end cX12_end 2 (some .boolean) (d + 1) [.ref (F.2.2.1 69), .int a0] u llI (fx_X12_end_69 u a0) := llCt.of (by decide +kernel) (by exact Nat.le_of_ble_eq_true rfl) (fun G h1 h2 => by subst h1; subst h2; exact tj_X12_end_69 u a0)
def fx_X9_startText_1 (u : llMem)  : Option (llMem × Unit) := lt (llSI u 1 9 0) (fun u1 => lt (llSI u1 1 7 0) (fun u2 => lt (llSI u2 1 8 ((-1))) (fun u3 => some (u3, ()))))
set_option maxRecDepth 20000 in
theorem tj_X9_startText_1 {G : llG} {d : Nat} (u : llMem)  : llJ G RX9 cX9_startText 1 none d (fun r => llRet G (llVd r.2) r.1) 0 [(0, .ref (llAd G 1))] [] u (fx_X9_startText_1 u ) := by
  unfold fx_X9_startText_1
  refine J_aload_n (j := 0) dX9_startText_0 rfl rfl ?_
  refine J_iconst (v := 0) dX9_startText_1 (by decide) ?_
  refine J_putI dX9_startText_2 fl_X9_22 sh_1 rfl (fun u1 => ?_)
  refine J_aload_n (j := 0) dX9_startText_5 rfl rfl ?_
  refine J_iconst (v := 0) dX9_startText_6 (by decide) ?_
  refine J_putI dX9_startText_7 fl_X9_25 sh_1 rfl (fun u2 => ?_)
  refine J_aload_n (j := 0) dX9_startText_10 rfl rfl ?_
  refine J_iconst (v := (-1)) dX9_startText_11 (by decide) ?_
  refine J_putI dX9_startText_12 fl_X9_15 sh_1 rfl (fun u3 => ?_)
  exact J_vret dX9_startText_15 (fun h => h)
theorem t_X9_startText_1 (l : Launch) (F : llFix) (d : Nat) (u : llMem)  : llCt l F yX9_startText cX9_startText 1 none d [.ref (F.2.2.1 1)] u llVd (fx_X9_startText_1 u ) := llCt.of (by decide +kernel) (by exact Nat.le_of_ble_eq_true rfl) (fun G h1 h2 => by subst h1; subst h2; exact tj_X9_startText_1 u )
def fx_X9_next_1_j39_b0 (u : llMem)  : Option ((llMem) ⊕ (llMem)) := lt (llSI u 1 9 ((u.1 1 9) + 1)) (fun u1 => some (.inl u1))
set_option maxRecDepth 20000 in
theorem t_X9_next_1_j39_b0 {G : llG} {d : Nat} (u : llMem)  : llJ G RX9 cX9_next 1 none (d + 1) (Sum.elim (fun s' => llJq G 1 0 [(0, .ref (llAd G 1))] [] s') (fun e => llJq G 1 52 [(0, .ref (llAd G 1))] [] e)) 39 [(0, .ref (llAd G 1))] [] u (fx_X9_next_1_j39_b0 u ) := by
  unfold fx_X9_next_1_j39_b0
  refine J_aload_n (j := 0) dX9_next_39 rfl rfl ?_
  refine J_dup dX9_next_40 rfl ?_
  refine J_getI dX9_next_41 fl_X9_22 sh_1 rfl ?_
  refine J_iconst (v := 1) dX9_next_44 (by decide) ?_
  refine J_iadd dX9_next_45 ?_
  refine J_putI dX9_next_46 fl_X9_22 sh_1 rfl (fun u1 => ?_)
  refine J_goto (tgt := 0) dX9_next_49 (by decide) ?_
  exact J_cut [0] (lv' := [(0, .ref (llAd G 1))]) rfl (fun h => h)
def fx_X9_next_1_l0  (s : llMem) : Option ((llMem) ⊕ (llMem)) := (if (s.1 1 1) ≤ (s.1 1 9) then some (.inr s) else gI (s.1 1 9) 700 ((if (rI s 2 (s.1 1 9)) = 32 then fx_X9_next_1_j39_b0 s  else gI (s.1 1 9) 700 ((if ¬ (rI s 2 (s.1 1 9)) = 10 then some (.inr s) else fx_X9_next_1_j39_b0 s )))))
set_option maxRecDepth 20000 in
theorem t_X9_next_1_l0 {G : llG} {d : Nat}  (s : llMem) : llJ G RX9 cX9_next 1 none (d + 1) (Sum.elim (fun s' => llJq G 1 0 [(0, .ref (llAd G 1))] [] s') (fun e => llJq G 1 52 [(0, .ref (llAd G 1))] [] e)) 0 [(0, .ref (llAd G 1))] [] s (fx_X9_next_1_l0 s) := by
  unfold fx_X9_next_1_l0
  refine J_aload_n (j := 0) dX9_next_0 rfl rfl ?_
  refine J_getI dX9_next_1 fl_X9_22 sh_1 rfl ?_
  refine J_aload_n (j := 0) dX9_next_4 rfl rfl ?_
  refine J_getI dX9_next_5 fl_X9_19 sh_1 rfl ?_
  refine J_icmp_ge (tgt := 52) dX9_next_8 (by decide) ?_ ?_
  · exact J_cut [0] (lv' := [(0, .ref (llAd G 1))]) rfl (fun h => h)
  · refine J_aload_n (j := 0) dX9_next_11 rfl rfl ?_
    refine J_getR (b := 2) dX9_next_12 fl_X9_11 sh_1 rfl ?_
    refine J_aload_n (j := 0) dX9_next_15 rfl rfl ?_
    refine J_getI dX9_next_16 fl_X9_22 sh_1 rfl ?_
    refine J_iald dX9_next_19 sh_2 ?_
    refine J_bipush (v := 32) dX9_next_20 (by decide) ?_
    refine J_icmp_eq (tgt := 39) dX9_next_22 (by decide) ?_ ?_
    · refine J_sub [0] (lv' := [(0, .ref (llAd G 1))]) rfl ?_
      exact t_X9_next_1_j39_b0 s 
    · refine J_aload_n (j := 0) dX9_next_25 rfl rfl ?_
      refine J_getR (b := 2) dX9_next_26 fl_X9_11 sh_1 rfl ?_
      refine J_aload_n (j := 0) dX9_next_29 rfl rfl ?_
      refine J_getI dX9_next_30 fl_X9_22 sh_1 rfl ?_
      refine J_iald dX9_next_33 sh_2 ?_
      refine J_bipush (v := 10) dX9_next_34 (by decide) ?_
      refine J_icmp_ne (tgt := 52) dX9_next_36 (by decide) ?_ ?_
      · exact J_cut [0] (lv' := [(0, .ref (llAd G 1))]) rfl (fun h => h)
      · refine J_sub [0] (lv' := [(0, .ref (llAd G 1))]) rfl ?_
        exact t_X9_next_1_j39_b0 s 
def fx_X9_next_1_j140 (u : llMem)  : Option ((llMem × Unit)) := lt (llSI u 1 2 3) (fun u5 => lt (llSI u5 1 9 ((u5.1 1 9) + 1)) (fun u6 => some (u6, ())))
set_option maxRecDepth 20000 in
theorem t_X9_next_1_j140 {G : llG} {d : Nat} (u : llMem)  : llJ G RX9 cX9_next 1 none (d + 1) (fun r => llRet G (llVd r.2) r.1) 140 [(0, .ref (llAd G 1))] [] u (fx_X9_next_1_j140 u ) := by
  unfold fx_X9_next_1_j140
  refine J_aload_n (j := 0) dX9_next_140 rfl rfl ?_
  refine J_iconst (v := 3) dX9_next_141 (by decide) ?_
  refine J_putI dX9_next_142 fl_X9_31 sh_1 rfl (fun u5 => ?_)
  refine J_aload_n (j := 0) dX9_next_145 rfl rfl ?_
  refine J_dup dX9_next_146 rfl ?_
  refine J_getI dX9_next_147 fl_X9_22 sh_1 rfl ?_
  refine J_iconst (v := 1) dX9_next_150 (by decide) ?_
  refine J_iadd dX9_next_151 ?_
  refine J_putI dX9_next_152 fl_X9_22 sh_1 rfl (fun u6 => ?_)
  exact J_vret dX9_next_155 (fun h => h)
def fx_X9_readNumber_1_l5  (s : llMem) : Option ((llMem) ⊕ (llMem)) := (if (s.1 1 1) ≤ (s.1 1 9) then some (.inr s) else gI (s.1 1 9) 700 ((if (rI s 2 (s.1 1 9)) < 48 then some (.inr s) else gI (s.1 1 9) 700 ((if 57 < (rI s 2 (s.1 1 9)) then some (.inr s) else gI (s.1 1 9) 700 (lt (llSI s 1 4 ((((s.1 1 4) * 10) + (rI s 2 (s.1 1 9))) - 48)) (fun u2 => lt (llSI u2 1 9 ((u2.1 1 9) + 1)) (fun u3 => some (.inl u3)))))))))
set_option maxRecDepth 20000 in
theorem t_X9_readNumber_1_l5 {G : llG} {d : Nat}  (s : llMem) : llJ G RX9 cX9_readNumber 1 none d (Sum.elim (fun s' => llJq G 1 5 [(0, .ref (llAd G 1))] [] s') (fun e => llJq G 1 81 [(0, .ref (llAd G 1))] [] e)) 5 [(0, .ref (llAd G 1))] [] s (fx_X9_readNumber_1_l5 s) := by
  unfold fx_X9_readNumber_1_l5
  refine J_aload_n (j := 0) dX9_readNumber_5 rfl rfl ?_
  refine J_getI dX9_readNumber_6 fl_X9_22 sh_1 rfl ?_
  refine J_aload_n (j := 0) dX9_readNumber_9 rfl rfl ?_
  refine J_getI dX9_readNumber_10 fl_X9_19 sh_1 rfl ?_
  refine J_icmp_ge (tgt := 81) dX9_readNumber_13 (by decide) ?_ ?_
  · exact J_cut [0] (lv' := [(0, .ref (llAd G 1))]) rfl (fun h => h)
  · refine J_aload_n (j := 0) dX9_readNumber_16 rfl rfl ?_
    refine J_getR (b := 2) dX9_readNumber_17 fl_X9_11 sh_1 rfl ?_
    refine J_aload_n (j := 0) dX9_readNumber_20 rfl rfl ?_
    refine J_getI dX9_readNumber_21 fl_X9_22 sh_1 rfl ?_
    refine J_iald dX9_readNumber_24 sh_2 ?_
    refine J_bipush (v := 48) dX9_readNumber_25 (by decide) ?_
    refine J_icmp_lt (tgt := 81) dX9_readNumber_27 (by decide) ?_ ?_
    · exact J_cut [0] (lv' := [(0, .ref (llAd G 1))]) rfl (fun h => h)
    · refine J_aload_n (j := 0) dX9_readNumber_30 rfl rfl ?_
      refine J_getR (b := 2) dX9_readNumber_31 fl_X9_11 sh_1 rfl ?_
      refine J_aload_n (j := 0) dX9_readNumber_34 rfl rfl ?_
      refine J_getI dX9_readNumber_35 fl_X9_22 sh_1 rfl ?_
      refine J_iald dX9_readNumber_38 sh_2 ?_
      refine J_bipush (v := 57) dX9_readNumber_39 (by decide) ?_
      refine J_icmp_gt (tgt := 81) dX9_readNumber_41 (by decide) ?_ ?_
      · exact J_cut [0] (lv' := [(0, .ref (llAd G 1))]) rfl (fun h => h)
      · refine J_aload_n (j := 0) dX9_readNumber_44 rfl rfl ?_
        refine J_aload_n (j := 0) dX9_readNumber_45 rfl rfl ?_
        refine J_getI dX9_readNumber_46 fl_X9_47 sh_1 rfl ?_
        refine J_bipush (v := 10) dX9_readNumber_49 (by decide) ?_
        refine J_imul dX9_readNumber_51 ?_
        refine J_aload_n (j := 0) dX9_readNumber_52 rfl rfl ?_
        refine J_getR (b := 2) dX9_readNumber_53 fl_X9_11 sh_1 rfl ?_
        refine J_aload_n (j := 0) dX9_readNumber_56 rfl rfl ?_
        refine J_getI dX9_readNumber_57 fl_X9_22 sh_1 rfl ?_
        refine J_iald dX9_readNumber_60 sh_2 ?_
        refine J_iadd dX9_readNumber_61 ?_
        refine J_bipush (v := 48) dX9_readNumber_62 (by decide) ?_
        refine J_isub dX9_readNumber_64 ?_
        refine J_putI dX9_readNumber_65 fl_X9_47 sh_1 rfl (fun u2 => ?_)
        refine J_aload_n (j := 0) dX9_readNumber_68 rfl rfl ?_
        refine J_dup dX9_readNumber_69 rfl ?_
        refine J_getI dX9_readNumber_70 fl_X9_22 sh_1 rfl ?_
        refine J_iconst (v := 1) dX9_readNumber_73 (by decide) ?_
        refine J_iadd dX9_readNumber_74 ?_
        refine J_putI dX9_readNumber_75 fl_X9_22 sh_1 rfl (fun u3 => ?_)
        refine J_goto (tgt := 5) dX9_readNumber_78 (by decide) ?_
        exact J_cut [0] (lv' := [(0, .ref (llAd G 1))]) rfl (fun h => h)
def fx_X9_readNumber_1_j100 (u : llMem) (t1 : Int32) : Option ((llMem × Unit)) := lt (llSI u 1 2 t1) (fun u5 => some (u5, ()))
set_option maxRecDepth 20000 in
theorem t_X9_readNumber_1_j100 {G : llG} {d : Nat} (u : llMem) (t1 : Int32) : llJ G RX9 cX9_readNumber 1 none d (fun r => llRet G (llVd r.2) r.1) 100 [] [.int t1, .ref (llAd G 1)] u (fx_X9_readNumber_1_j100 u t1) := by
  unfold fx_X9_readNumber_1_j100
  refine J_putI dX9_readNumber_100 fl_X9_31 sh_1 rfl (fun u5 => ?_)
  exact J_vret dX9_readNumber_103 (fun h => h)
def fx_X9_readNumber_1 (u : llMem)  : Option (llMem × Unit) := lt (llSI u 1 4 0) (fun u1 => (loop (fx_X9_readNumber_1_l5) llFuel u1).bind (fun e4 => (if 3 < ((e4.1 1 9) - (e4.1 1 3)) then fx_X9_readNumber_1_j100 e4 4 else fx_X9_readNumber_1_j100 e4 2)))
set_option maxRecDepth 20000 in
theorem tj_X9_readNumber_1 {G : llG} {d : Nat} (u : llMem)  : llJ G RX9 cX9_readNumber 1 none d (fun r => llRet G (llVd r.2) r.1) 0 [(0, .ref (llAd G 1))] [] u (fx_X9_readNumber_1 u ) := by
  unfold fx_X9_readNumber_1
  refine J_aload_n (j := 0) dX9_readNumber_0 rfl rfl ?_
  refine J_iconst (v := 0) dX9_readNumber_1 (by decide) ?_
  refine J_putI dX9_readNumber_2 fl_X9_47 sh_1 rfl (fun u1 => ?_)
  refine J_loopE (fun s' => [(0, .ref (llAd G 1))]) (fun s' => s') 81 (fun e => [(0, .ref (llAd G 1))]) (fun e => e) (fun z => t_X9_readNumber_1_l5 z) [0] rfl rfl (fun e4 => ?_)
  refine J_aload_n (j := 0) dX9_readNumber_81 rfl rfl ?_
  refine J_aload_n (j := 0) dX9_readNumber_82 rfl rfl ?_
  refine J_getI dX9_readNumber_83 fl_X9_22 sh_1 rfl ?_
  refine J_aload_n (j := 0) dX9_readNumber_86 rfl rfl ?_
  refine J_getI dX9_readNumber_87 fl_X9_28 sh_1 rfl ?_
  refine J_isub dX9_readNumber_90 ?_
  refine J_iconst (v := 3) dX9_readNumber_91 (by decide) ?_
  refine J_icmp_gt (tgt := 99) dX9_readNumber_92 (by decide) ?_ ?_
  · refine J_iconst (v := 4) dX9_readNumber_99 (by decide) ?_
    refine J_sub [] (lv' := []) rfl ?_
    exact t_X9_readNumber_1_j100 e4 4
  · refine J_iconst (v := 2) dX9_readNumber_95 (by decide) ?_
    refine J_goto (tgt := 100) dX9_readNumber_96 (by decide) ?_
    refine J_sub [] (lv' := []) rfl ?_
    exact t_X9_readNumber_1_j100 e4 2
theorem t_X9_readNumber_1 (l : Launch) (F : llFix) (d : Nat) (u : llMem)  : llCt l F yX9_readNumber cX9_readNumber 1 none d [.ref (F.2.2.1 1)] u llVd (fx_X9_readNumber_1 u ) := llCt.of (by decide +kernel) (by exact Nat.le_of_ble_eq_true rfl) (fun G h1 h2 => by subst h1; subst h2; exact tj_X9_readNumber_1 u )
def fx_X9_next_1_j115 (u : llMem)  : Option ((llMem × Unit)) := (if (u.1 1 5) < 48 then fx_X9_next_1_j140 u  else (if 57 < (u.1 1 5) then fx_X9_next_1_j140 u  else bd (fx_X9_readNumber_1 u ) (fun u7 _ => some (u7, ()))))
set_option maxRecDepth 20000 in
theorem t_X9_next_1_j115 {G : llG} {d : Nat} (u : llMem)  : llJ G RX9 cX9_next 1 none (d + 1) (fun r => llRet G (llVd r.2) r.1) 115 [(0, .ref (llAd G 1))] [] u (fx_X9_next_1_j115 u ) := by
  unfold fx_X9_next_1_j115
  refine J_aload_n (j := 0) dX9_next_115 rfl rfl ?_
  refine J_getI dX9_next_116 fl_X9_34 sh_1 rfl ?_
  refine J_bipush (v := 48) dX9_next_119 (by decide) ?_
  refine J_icmp_lt (tgt := 140) dX9_next_121 (by decide) ?_ ?_
  · refine J_sub [0] (lv' := [(0, .ref (llAd G 1))]) rfl ?_
    exact t_X9_next_1_j140 u 
  · refine J_aload_n (j := 0) dX9_next_124 rfl rfl ?_
    refine J_getI dX9_next_125 fl_X9_34 sh_1 rfl ?_
    refine J_bipush (v := 57) dX9_next_128 (by decide) ?_
    refine J_icmp_gt (tgt := 140) dX9_next_130 (by decide) ?_ ?_
    · refine J_sub [0] (lv' := [(0, .ref (llAd G 1))]) rfl ?_
      exact t_X9_next_1_j140 u 
    · refine J_aload_n (j := 0) dX9_next_133 rfl rfl ?_
      refine J_callVv0 dX9_next_134 (t_X9_readNumber_1 (llL G) (llFx G) d u ) ym_X9_readNumber wd_523 sh_1 rfl (Nat.le_of_ble_eq_true rfl) (fun u7 => ?_)
      refine J_goto (tgt := 155) dX9_next_137 (by decide) ?_
      exact J_vret dX9_next_155 (fun h => h)
def fx_X9_readWord_1_l5  (s : llMem) : Option ((llMem) ⊕ (llMem)) := (if (s.1 1 1) ≤ (s.1 1 9) then some (.inr s) else gI (s.1 1 9) 700 ((if (rI s 2 (s.1 1 9)) < 97 then some (.inr s) else gI (s.1 1 9) 700 ((if 122 < (rI s 2 (s.1 1 9)) then some (.inr s) else gI (s.1 1 9) 700 (lt (llSL s 1 6 (((s.2.1 1 6) <<< (Int32.toInt64 8 &&& 63)) ||| (Int32.toInt64 (rI s 2 (s.1 1 9))))) (fun u2 => lt (llSI u2 1 9 ((u2.1 1 9) + 1)) (fun u3 => some (.inl u3)))))))))
set_option maxRecDepth 20000 in
theorem t_X9_readWord_1_l5 {G : llG} {d : Nat}  (s : llMem) : llJ G RX9 cX9_readWord 1 none d (Sum.elim (fun s' => llJq G 1 5 [(0, .ref (llAd G 1))] [] s') (fun e => llJq G 1 79 [(0, .ref (llAd G 1))] [] e)) 5 [(0, .ref (llAd G 1))] [] s (fx_X9_readWord_1_l5 s) := by
  unfold fx_X9_readWord_1_l5
  refine J_aload_n (j := 0) dX9_readWord_5 rfl rfl ?_
  refine J_getI dX9_readWord_6 fl_X9_22 sh_1 rfl ?_
  refine J_aload_n (j := 0) dX9_readWord_9 rfl rfl ?_
  refine J_getI dX9_readWord_10 fl_X9_19 sh_1 rfl ?_
  refine J_icmp_ge (tgt := 79) dX9_readWord_13 (by decide) ?_ ?_
  · exact J_cut [0] (lv' := [(0, .ref (llAd G 1))]) rfl (fun h => h)
  · refine J_aload_n (j := 0) dX9_readWord_16 rfl rfl ?_
    refine J_getR (b := 2) dX9_readWord_17 fl_X9_11 sh_1 rfl ?_
    refine J_aload_n (j := 0) dX9_readWord_20 rfl rfl ?_
    refine J_getI dX9_readWord_21 fl_X9_22 sh_1 rfl ?_
    refine J_iald dX9_readWord_24 sh_2 ?_
    refine J_bipush (v := 97) dX9_readWord_25 (by decide) ?_
    refine J_icmp_lt (tgt := 79) dX9_readWord_27 (by decide) ?_ ?_
    · exact J_cut [0] (lv' := [(0, .ref (llAd G 1))]) rfl (fun h => h)
    · refine J_aload_n (j := 0) dX9_readWord_30 rfl rfl ?_
      refine J_getR (b := 2) dX9_readWord_31 fl_X9_11 sh_1 rfl ?_
      refine J_aload_n (j := 0) dX9_readWord_34 rfl rfl ?_
      refine J_getI dX9_readWord_35 fl_X9_22 sh_1 rfl ?_
      refine J_iald dX9_readWord_38 sh_2 ?_
      refine J_bipush (v := 122) dX9_readWord_39 (by decide) ?_
      refine J_icmp_gt (tgt := 79) dX9_readWord_41 (by decide) ?_ ?_
      · exact J_cut [0] (lv' := [(0, .ref (llAd G 1))]) rfl (fun h => h)
      · refine J_aload_n (j := 0) dX9_readWord_44 rfl rfl ?_
        refine J_aload_n (j := 0) dX9_readWord_45 rfl rfl ?_
        refine J_getL dX9_readWord_46 fl_X9_43 sh_1 rfl ?_
        refine J_bipush (v := 8) dX9_readWord_49 (by decide) ?_
        refine J_lshl dX9_readWord_51 ?_
        refine J_aload_n (j := 0) dX9_readWord_52 rfl rfl ?_
        refine J_getR (b := 2) dX9_readWord_53 fl_X9_11 sh_1 rfl ?_
        refine J_aload_n (j := 0) dX9_readWord_56 rfl rfl ?_
        refine J_getI dX9_readWord_57 fl_X9_22 sh_1 rfl ?_
        refine J_iald dX9_readWord_60 sh_2 ?_
        refine J_i2l dX9_readWord_61 ?_
        refine J_lor dX9_readWord_62 ?_
        refine J_putL dX9_readWord_63 fl_X9_43 sh_1 rfl (fun u2 => ?_)
        refine J_aload_n (j := 0) dX9_readWord_66 rfl rfl ?_
        refine J_dup dX9_readWord_67 rfl ?_
        refine J_getI dX9_readWord_68 fl_X9_22 sh_1 rfl ?_
        refine J_iconst (v := 1) dX9_readWord_71 (by decide) ?_
        refine J_iadd dX9_readWord_72 ?_
        refine J_putI dX9_readWord_73 fl_X9_22 sh_1 rfl (fun u3 => ?_)
        refine J_goto (tgt := 5) dX9_readWord_76 (by decide) ?_
        exact J_cut [0] (lv' := [(0, .ref (llAd G 1))]) rfl (fun h => h)
def fx_X9_readWord_1_j99 (u : llMem) (t1 : Int32) : Option ((llMem × Unit)) := lt (llSI u 1 2 t1) (fun u5 => some (u5, ()))
set_option maxRecDepth 20000 in
theorem t_X9_readWord_1_j99 {G : llG} {d : Nat} (u : llMem) (t1 : Int32) : llJ G RX9 cX9_readWord 1 none d (fun r => llRet G (llVd r.2) r.1) 99 [] [.int t1, .ref (llAd G 1)] u (fx_X9_readWord_1_j99 u t1) := by
  unfold fx_X9_readWord_1_j99
  refine J_putI dX9_readWord_99 fl_X9_31 sh_1 rfl (fun u5 => ?_)
  exact J_vret dX9_readWord_102 (fun h => h)
def fx_X9_readWord_1 (u : llMem)  : Option (llMem × Unit) := lt (llSL u 1 6 0) (fun u1 => (loop (fx_X9_readWord_1_l5) llFuel u1).bind (fun e4 => (if 7 < ((e4.1 1 9) - (e4.1 1 3)) then fx_X9_readWord_1_j99 e4 4 else fx_X9_readWord_1_j99 e4 1)))
set_option maxRecDepth 20000 in
theorem tj_X9_readWord_1 {G : llG} {d : Nat} (u : llMem)  : llJ G RX9 cX9_readWord 1 none d (fun r => llRet G (llVd r.2) r.1) 0 [(0, .ref (llAd G 1))] [] u (fx_X9_readWord_1 u ) := by
  unfold fx_X9_readWord_1
  refine J_aload_n (j := 0) dX9_readWord_0 rfl rfl ?_
  refine J_lconst (v := 0) dX9_readWord_1 (by decide) ?_
  refine J_putL dX9_readWord_2 fl_X9_43 sh_1 rfl (fun u1 => ?_)
  refine J_loopE (fun s' => [(0, .ref (llAd G 1))]) (fun s' => s') 79 (fun e => [(0, .ref (llAd G 1))]) (fun e => e) (fun z => t_X9_readWord_1_l5 z) [0] rfl rfl (fun e4 => ?_)
  refine J_aload_n (j := 0) dX9_readWord_79 rfl rfl ?_
  refine J_aload_n (j := 0) dX9_readWord_80 rfl rfl ?_
  refine J_getI dX9_readWord_81 fl_X9_22 sh_1 rfl ?_
  refine J_aload_n (j := 0) dX9_readWord_84 rfl rfl ?_
  refine J_getI dX9_readWord_85 fl_X9_28 sh_1 rfl ?_
  refine J_isub dX9_readWord_88 ?_
  refine J_bipush (v := 7) dX9_readWord_89 (by decide) ?_
  refine J_icmp_gt (tgt := 98) dX9_readWord_91 (by decide) ?_ ?_
  · refine J_iconst (v := 4) dX9_readWord_98 (by decide) ?_
    refine J_sub [] (lv' := []) rfl ?_
    exact t_X9_readWord_1_j99 e4 4
  · refine J_iconst (v := 1) dX9_readWord_94 (by decide) ?_
    refine J_goto (tgt := 99) dX9_readWord_95 (by decide) ?_
    refine J_sub [] (lv' := []) rfl ?_
    exact t_X9_readWord_1_j99 e4 1
theorem t_X9_readWord_1 (l : Launch) (F : llFix) (d : Nat) (u : llMem)  : llCt l F yX9_readWord cX9_readWord 1 none d [.ref (F.2.2.1 1)] u llVd (fx_X9_readWord_1 u ) := llCt.of (by decide +kernel) (by exact Nat.le_of_ble_eq_true rfl) (fun G h1 h2 => by subst h1; subst h2; exact tj_X9_readWord_1 u )
def fx_X9_next_1 (u : llMem)  : Option (llMem × Unit) := (loop (fx_X9_next_1_l0) llFuel u).bind (fun e2 => lt (llSI e2 1 3 (e2.1 1 9)) (fun u3 => (if (u3.1 1 9) < (u3.1 1 1) then gI (u3.1 1 9) 700 (lt (llSI u3 1 5 (rI u3 2 (u3.1 1 9))) (fun u4 => (if (u4.1 1 5) < 97 then fx_X9_next_1_j115 u4  else (if 122 < (u4.1 1 5) then fx_X9_next_1_j115 u4  else bd (fx_X9_readWord_1 u4 ) (fun u8 _ => some (u8, ())))))) else lt (llSI u3 1 2 0) (fun u9 => some (u9, ())))))
set_option maxRecDepth 20000 in
theorem tj_X9_next_1 {G : llG} {d : Nat} (u : llMem)  : llJ G RX9 cX9_next 1 none (d + 1) (fun r => llRet G (llVd r.2) r.1) 0 [(0, .ref (llAd G 1))] [] u (fx_X9_next_1 u ) := by
  unfold fx_X9_next_1
  refine J_loopE (fun s' => [(0, .ref (llAd G 1))]) (fun s' => s') 52 (fun e => [(0, .ref (llAd G 1))]) (fun e => e) (fun z => t_X9_next_1_l0 z) [0] rfl rfl (fun e2 => ?_)
  refine J_aload_n (j := 0) dX9_next_52 rfl rfl ?_
  refine J_aload_n (j := 0) dX9_next_53 rfl rfl ?_
  refine J_getI dX9_next_54 fl_X9_22 sh_1 rfl ?_
  refine J_putI dX9_next_57 fl_X9_28 sh_1 rfl (fun u3 => ?_)
  refine J_aload_n (j := 0) dX9_next_60 rfl rfl ?_
  refine J_getI dX9_next_61 fl_X9_22 sh_1 rfl ?_
  refine J_aload_n (j := 0) dX9_next_64 rfl rfl ?_
  refine J_getI dX9_next_65 fl_X9_19 sh_1 rfl ?_
  refine J_icmp_lt (tgt := 77) dX9_next_68 (by decide) ?_ ?_
  · refine J_aload_n (j := 0) dX9_next_77 rfl rfl ?_
    refine J_aload_n (j := 0) dX9_next_78 rfl rfl ?_
    refine J_getR (b := 2) dX9_next_79 fl_X9_11 sh_1 rfl ?_
    refine J_aload_n (j := 0) dX9_next_82 rfl rfl ?_
    refine J_getI dX9_next_83 fl_X9_22 sh_1 rfl ?_
    refine J_iald dX9_next_86 sh_2 ?_
    refine J_putI dX9_next_87 fl_X9_34 sh_1 rfl (fun u4 => ?_)
    refine J_aload_n (j := 0) dX9_next_90 rfl rfl ?_
    refine J_getI dX9_next_91 fl_X9_34 sh_1 rfl ?_
    refine J_bipush (v := 97) dX9_next_94 (by decide) ?_
    refine J_icmp_lt (tgt := 115) dX9_next_96 (by decide) ?_ ?_
    · refine J_sub [0] (lv' := [(0, .ref (llAd G 1))]) rfl ?_
      exact t_X9_next_1_j115 u4 
    · refine J_aload_n (j := 0) dX9_next_99 rfl rfl ?_
      refine J_getI dX9_next_100 fl_X9_34 sh_1 rfl ?_
      refine J_bipush (v := 122) dX9_next_103 (by decide) ?_
      refine J_icmp_gt (tgt := 115) dX9_next_105 (by decide) ?_ ?_
      · refine J_sub [0] (lv' := [(0, .ref (llAd G 1))]) rfl ?_
        exact t_X9_next_1_j115 u4 
      · refine J_aload_n (j := 0) dX9_next_108 rfl rfl ?_
        refine J_callVv0 dX9_next_109 (t_X9_readWord_1 (llL G) (llFx G) d u4 ) ym_X9_readWord wd_519 sh_1 rfl (Nat.le_of_ble_eq_true rfl) (fun u8 => ?_)
        refine J_goto (tgt := 155) dX9_next_112 (by decide) ?_
        exact J_vret dX9_next_155 (fun h => h)
  · refine J_aload_n (j := 0) dX9_next_71 rfl rfl ?_
    refine J_iconst (v := 0) dX9_next_72 (by decide) ?_
    refine J_putI dX9_next_73 fl_X9_31 sh_1 rfl (fun u9 => ?_)
    exact J_vret dX9_next_76 (fun h => h)
theorem t_X9_next_1 (l : Launch) (F : llFix) (d : Nat) (u : llMem)  : llCt l F yX9_next cX9_next 1 none (d + 1) [.ref (F.2.2.1 1)] u llVd (fx_X9_next_1 u ) := llCt.of (by decide +kernel) (by exact Nat.le_of_ble_eq_true rfl) (fun G h1 h2 => by subst h1; subst h2; exact tj_X9_next_1 u )
def fx_X9_isWord_1 (u : llMem) (a0 : Int64) : Option Int32 := (if ¬ (u.1 1 2) = 1 then gB 0 (some 0) else (if ¬ (lg_cmp (u.2.1 1 6) a0) = 0 then gB 0 (some 0) else gB 1 (some 1)))
set_option maxRecDepth 20000 in
theorem tj_X9_isWord_1 {G : llG} {d : Nat} (u : llMem) (a0 : Int64) : llJ G RX9 cX9_isWord 3 (some .boolean) d (fun r => llRet G (llI r) u) 0 [(0, .ref (llAd G 1)), (1, .long a0)] [] u (fx_X9_isWord_1 u a0) := by
  unfold fx_X9_isWord_1
  refine J_aload_n (j := 0) dX9_isWord_0 rfl rfl ?_
  refine J_getI dX9_isWord_1 fl_X9_31 sh_1 rfl ?_
  refine J_iconst (v := 1) dX9_isWord_4 (by decide) ?_
  refine J_icmp_ne (tgt := 21) dX9_isWord_5 (by decide) ?_ ?_
  · refine J_iconst (v := 0) dX9_isWord_21 (by decide) ?_
    exact J_zret dX9_isWord_22 (fun h => h)
  · refine J_aload_n (j := 0) dX9_isWord_8 rfl rfl ?_
    refine J_getL dX9_isWord_9 fl_X9_43 sh_1 rfl ?_
    refine J_lload_n (j := 1) dX9_isWord_12 rfl rfl ?_
    refine J_lcmp dX9_isWord_13 ?_
    refine J_if_ne (tgt := 21) dX9_isWord_14 (by decide) ?_ ?_
    · refine J_iconst (v := 0) dX9_isWord_21 (by decide) ?_
      exact J_zret dX9_isWord_22 (fun h => h)
    · refine J_iconst (v := 1) dX9_isWord_17 (by decide) ?_
      refine J_goto (tgt := 22) dX9_isWord_18 (by decide) ?_
      exact J_zret dX9_isWord_22 (fun h => h)
theorem t_X9_isWord_1 (l : Launch) (F : llFix) (d : Nat) (u : llMem) (a0 : Int64) : llCp l F yX9_isWord cX9_isWord 3 (some .boolean) d [.ref (F.2.2.1 1), .long a0] u llI (fx_X9_isWord_1 u a0) := llCp.of (by decide +kernel) (by exact Nat.le_of_ble_eq_true rfl) (fun G h1 h2 => by subst h1; subst h2; exact tj_X9_isWord_1 u a0)
def fx_X9_fail_1 (u : llMem) (a0 : Int32) : Option (llMem × Int32) := lt (llSI u 1 7 a0) (fun u1 => lt (llSI u1 1 8 (u1.1 1 3)) (fun u2 => gB 0 (some (u2, 0))))
set_option maxRecDepth 20000 in
theorem tj_X9_fail_1 {G : llG} {d : Nat} (u : llMem) (a0 : Int32) : llJ G RX9 cX9_fail 2 (some .boolean) d (fun r => llRet G (llI r.2) r.1) 0 [(0, .ref (llAd G 1)), (1, .int a0)] [] u (fx_X9_fail_1 u a0) := by
  unfold fx_X9_fail_1
  refine J_aload_n (j := 0) dX9_fail_0 rfl rfl ?_
  refine J_iload_n (j := 1) dX9_fail_1 rfl rfl ?_
  refine J_putI dX9_fail_2 fl_X9_25 sh_1 rfl (fun u1 => ?_)
  refine J_aload_n (j := 0) dX9_fail_5 rfl rfl ?_
  refine J_aload_n (j := 0) dX9_fail_6 rfl rfl ?_
  refine J_getI dX9_fail_7 fl_X9_28 sh_1 rfl ?_
  refine J_putI dX9_fail_10 fl_X9_15 sh_1 rfl (fun u2 => ?_)
  refine J_iconst (v := 0) dX9_fail_13 (by decide) ?_
  exact J_zret dX9_fail_14 (fun h => h)
theorem t_X9_fail_1 (l : Launch) (F : llFix) (d : Nat) (u : llMem) (a0 : Int32) : llCt l F yX9_fail cX9_fail 2 (some .boolean) d [.ref (F.2.2.1 1), .int a0] u llI (fx_X9_fail_1 u a0) := llCt.of (by decide +kernel) (by exact Nat.le_of_ble_eq_true rfl) (fun G h1 h2 => by subst h1; subst h2; exact tj_X9_fail_1 u a0)
def fx_X6_read_30_j138_b25 (u : llMem) (v1 : Int32) (v2 : Int32) : Option ((llMem × Int32) ⊕ ((llMem) ⊕ (llMem × Int32))) := (if ¬ v2 = 0 then lt (v1 + 1) (fun v1_9 => some (.inl (u, v1_9))) else gB 0 (some (.inr (.inr (u, 0)))))
set_option maxRecDepth 20000 in
theorem t_X6_read_30_j138_b25 {G : llG} {d : Nat} (u : llMem) (v1 : Int32) (v2 : Int32) : llJ G RX6 cX6_read 3 (some .boolean) (d + 5) (Sum.elim (fun s' => llJq G 3 25 [(0, .ref (llAd G 30)), (1, .int s'.2)] [] s'.1) (Sum.elim (fun e => llJq G 3 150 [(0, .ref (llAd G 30))] [] e) (fun v => llRet G (llI v.2) v.1))) 138 [(0, .ref (llAd G 30)), (1, .int v1), (2, .int v2)] [] u (fx_X6_read_30_j138_b25 u v1 v2) := by
  unfold fx_X6_read_30_j138_b25
  refine J_iload_n (j := 2) dX6_read_138 rfl rfl ?_
  refine J_if_ne (tgt := 144) dX6_read_139 (by decide) ?_ ?_
  · refine J_iinc (j := 1) (b := 1) (fun v1_9 => [(1, .int v1_9), (0, .ref (llAd G 30)), (2, .int v2)]) dX6_read_144 rfl (by decide) (by decide) (fun _ => rfl) (fun v1_9 => ?_)
    refine J_goto (tgt := 25) dX6_read_147 (by decide) ?_
    exact J_cut [1, 0] (lv' := [(0, .ref (llAd G 30)), (1, .int v1_9)]) rfl (fun h => h)
  · refine J_iconst (v := 0) dX6_read_142 (by decide) ?_
    exact J_zret dX6_read_143 (fun h => h)
def fx_X9_isName_1 (u : llMem)  : Option Int32 := (if ¬ (u.1 1 2) = 1 then gB 0 (some 0) else (if (lg_cmp (u.2.1 1 6) 465558725996) = 0 then gB 0 (some 0) else (if (lg_cmp (u.2.1 1 6) 28518) = 0 then gB 0 (some 0) else (if (lg_cmp (u.2.1 1 6) 1685026670) = 0 then gB 0 (some 0) else (if (lg_cmp (u.2.1 1 6) 1852138852) = 0 then gB 0 (some 0) else (if (lg_cmp (u.2.1 1 6) 1668052322) = 0 then gB 0 (some 0) else (if (lg_cmp (u.2.1 1 6) 444300616805) = 0 then gB 0 (some 0) else (if (lg_cmp (u.2.1 1 6) 26990) = 0 then gB 0 (some 0) else gB 1 (some 1)))))))))
set_option maxRecDepth 20000 in
theorem tj_X9_isName_1 {G : llG} {d : Nat} (u : llMem)  : llJ G RX9 cX9_isName 1 (some .boolean) d (fun r => llRet G (llI r) u) 0 [(0, .ref (llAd G 1))] [] u (fx_X9_isName_1 u ) := by
  unfold fx_X9_isName_1
  refine J_aload_n (j := 0) dX9_isName_0 rfl rfl ?_
  refine J_getI dX9_isName_1 fl_X9_31 sh_1 rfl ?_
  refine J_iconst (v := 1) dX9_isName_4 (by decide) ?_
  refine J_icmp_ne (tgt := 89) dX9_isName_5 (by decide) ?_ ?_
  · refine J_iconst (v := 0) dX9_isName_89 (by decide) ?_
    exact J_zret dX9_isName_90 (fun h => h)
  · refine J_aload_n (j := 0) dX9_isName_8 rfl rfl ?_
    refine J_getL dX9_isName_9 fl_X9_43 sh_1 rfl ?_
    refine J_ldc2 (v := 465558725996) dX9_isName_12 wd_586 ?_
    refine J_lcmp dX9_isName_15 ?_
    refine J_if_eq (tgt := 89) dX9_isName_16 (by decide) ?_ ?_
    · refine J_iconst (v := 0) dX9_isName_89 (by decide) ?_
      exact J_zret dX9_isName_90 (fun h => h)
    · refine J_aload_n (j := 0) dX9_isName_19 rfl rfl ?_
      refine J_getL dX9_isName_20 fl_X9_43 sh_1 rfl ?_
      refine J_ldc2 (v := 28518) dX9_isName_23 wd_587 ?_
      refine J_lcmp dX9_isName_26 ?_
      refine J_if_eq (tgt := 89) dX9_isName_27 (by decide) ?_ ?_
      · refine J_iconst (v := 0) dX9_isName_89 (by decide) ?_
        exact J_zret dX9_isName_90 (fun h => h)
      · refine J_aload_n (j := 0) dX9_isName_30 rfl rfl ?_
        refine J_getL dX9_isName_31 fl_X9_43 sh_1 rfl ?_
        refine J_ldc2 (v := 1685026670) dX9_isName_34 wd_588 ?_
        refine J_lcmp dX9_isName_37 ?_
        refine J_if_eq (tgt := 89) dX9_isName_38 (by decide) ?_ ?_
        · refine J_iconst (v := 0) dX9_isName_89 (by decide) ?_
          exact J_zret dX9_isName_90 (fun h => h)
        · refine J_aload_n (j := 0) dX9_isName_41 rfl rfl ?_
          refine J_getL dX9_isName_42 fl_X9_43 sh_1 rfl ?_
          refine J_ldc2 (v := 1852138852) dX9_isName_45 wd_589 ?_
          refine J_lcmp dX9_isName_48 ?_
          refine J_if_eq (tgt := 89) dX9_isName_49 (by decide) ?_ ?_
          · refine J_iconst (v := 0) dX9_isName_89 (by decide) ?_
            exact J_zret dX9_isName_90 (fun h => h)
          · refine J_aload_n (j := 0) dX9_isName_52 rfl rfl ?_
            refine J_getL dX9_isName_53 fl_X9_43 sh_1 rfl ?_
            refine J_ldc2 (v := 1668052322) dX9_isName_56 wd_590 ?_
            refine J_lcmp dX9_isName_59 ?_
            refine J_if_eq (tgt := 89) dX9_isName_60 (by decide) ?_ ?_
            · refine J_iconst (v := 0) dX9_isName_89 (by decide) ?_
              exact J_zret dX9_isName_90 (fun h => h)
            · refine J_aload_n (j := 0) dX9_isName_63 rfl rfl ?_
              refine J_getL dX9_isName_64 fl_X9_43 sh_1 rfl ?_
              refine J_ldc2 (v := 444300616805) dX9_isName_67 wd_591 ?_
              refine J_lcmp dX9_isName_70 ?_
              refine J_if_eq (tgt := 89) dX9_isName_71 (by decide) ?_ ?_
              · refine J_iconst (v := 0) dX9_isName_89 (by decide) ?_
                exact J_zret dX9_isName_90 (fun h => h)
              · refine J_aload_n (j := 0) dX9_isName_74 rfl rfl ?_
                refine J_getL dX9_isName_75 fl_X9_43 sh_1 rfl ?_
                refine J_ldc2 (v := 26990) dX9_isName_78 wd_592 ?_
                refine J_lcmp dX9_isName_81 ?_
                refine J_if_eq (tgt := 89) dX9_isName_82 (by decide) ?_ ?_
                · refine J_iconst (v := 0) dX9_isName_89 (by decide) ?_
                  exact J_zret dX9_isName_90 (fun h => h)
                · refine J_iconst (v := 1) dX9_isName_85 (by decide) ?_
                  refine J_goto (tgt := 90) dX9_isName_86 (by decide) ?_
                  exact J_zret dX9_isName_90 (fun h => h)
theorem t_X9_isName_1 (l : Launch) (F : llFix) (d : Nat) (u : llMem)  : llCp l F yX9_isName cX9_isName 1 (some .boolean) d [.ref (F.2.2.1 1)] u llI (fx_X9_isName_1 u ) := llCp.of (by decide +kernel) (by exact Nat.le_of_ble_eq_true rfl) (fun G h1 h2 => by subst h1; subst h2; exact tj_X9_isName_1 u )
def fx_X9_takeName_1_j19 (u : llMem)  : Option ((llMem × Int32)) := gB 1 (some (u, 1))
set_option maxRecDepth 20000 in
theorem t_X9_takeName_1_j19 {G : llG} {d : Nat} (u : llMem)  : llJ G RX9 cX9_takeName 1 (some .boolean) (d + 2) (fun r => llRet G (llI r.2) r.1) 19 [] [] u (fx_X9_takeName_1_j19 u ) := by
  unfold fx_X9_takeName_1_j19
  refine J_iconst (v := 1) dX9_takeName_19 (by decide) ?_
  refine J_goto (tgt := 24) dX9_takeName_20 (by decide) ?_
  exact J_zret dX9_takeName_24 (fun h => h)
def fx_X9_takeName_1 (u : llMem)  : Option (llMem × Int32) := bd (fx_X9_next_1 u ) (fun u1 _ => (fx_X9_isName_1 u1 ).bind (fun r2 => (if ¬ r2 = 0 then fx_X9_takeName_1_j19 u1  else bd (fx_X9_fail_1 u1 1) (fun u3 r4 => (if r4 = 0 then gB 0 (some (u3, 0)) else fx_X9_takeName_1_j19 u3 )))))
set_option maxRecDepth 20000 in
theorem tj_X9_takeName_1 {G : llG} {d : Nat} (u : llMem)  : llJ G RX9 cX9_takeName 1 (some .boolean) (d + 2) (fun r => llRet G (llI r.2) r.1) 0 [(0, .ref (llAd G 1))] [] u (fx_X9_takeName_1 u ) := by
  unfold fx_X9_takeName_1
  refine J_aload_n (j := 0) dX9_takeName_0 rfl rfl ?_
  refine J_callVv0 dX9_takeName_1 (t_X9_next_1 (llL G) (llFx G) d u ) ym_X9_next wd_552 sh_1 rfl (Nat.le_of_ble_eq_true rfl) (fun u1 => ?_)
  refine J_aload_n (j := 0) dX9_takeName_4 rfl rfl ?_
  refine J_callVip0 dX9_takeName_5 (t_X9_isName_1 (llL G) (llFx G) (d + 1) u1 ) ym_X9_isName wd_582 sh_1 rfl (Nat.le_of_ble_eq_true rfl) (fun r2 => ?_)
  refine J_if_ne (tgt := 19) dX9_takeName_8 (by decide) ?_ ?_
  · refine J_sub [] (lv' := []) rfl ?_
    exact t_X9_takeName_1_j19 u1 
  · refine J_aload_n (j := 0) dX9_takeName_11 rfl rfl ?_
    refine J_iconst (v := 1) dX9_takeName_12 (by decide) ?_
    refine J_callVi1 dX9_takeName_13 (t_X9_fail_1 (llL G) (llFx G) (d + 1) u1 1) ym_X9_fail wd_553 sh_1 rfl (Nat.le_of_ble_eq_true rfl) (fun u3 r4 => ?_)
    refine J_if_eq (tgt := 23) dX9_takeName_16 (by decide) ?_ ?_
    · refine J_iconst (v := 0) dX9_takeName_23 (by decide) ?_
      exact J_zret dX9_takeName_24 (fun h => h)
    · refine J_sub [] (lv' := []) rfl ?_
      exact t_X9_takeName_1_j19 u3 
theorem t_X9_takeName_1 (l : Launch) (F : llFix) (d : Nat) (u : llMem)  : llCt l F yX9_takeName cX9_takeName 1 (some .boolean) (d + 2) [.ref (F.2.2.1 1)] u llI (fx_X9_takeName_1 u ) := llCt.of (by decide +kernel) (by exact Nat.le_of_ble_eq_true rfl) (fun G h1 h2 => by subst h1; subst h2; exact tj_X9_takeName_1 u )
def fx_X5_find_31_l2 (u : llMem) (v1 : Int64) (s : Int32) : Option ((Int32) ⊕ ((Unit) ⊕ (Int32))) := (if (u.1 31 5) ≤ s then some (.inr (.inl ())) else gI s 30 ((if ¬ (lg_cmp (rL u 36 s) v1) = 0 then lt (s + 1) (fun v3_1 => some (.inl v3_1)) else some (.inr (.inr s)))))
set_option maxRecDepth 20000 in
theorem t_X5_find_31_l2 {G : llG} {d : Nat} (u : llMem) (v1 : Int64) (s : Int32) : llJ G RX5 cX5_find 4 (some .int) d (Sum.elim (fun s' => llJq G 4 2 [(0, .ref (llAd G 31)), (1, .long v1), (3, .int s')] [] u) (Sum.elim (fun e => llJq G 4 29 [] [] u) (fun v => llRet G (llI v) u))) 2 [(0, .ref (llAd G 31)), (1, .long v1), (3, .int s)] [] u (fx_X5_find_31_l2 u v1 s) := by
  unfold fx_X5_find_31_l2
  refine J_iload_n (j := 2) dX5_find_2 rfl rfl ?_
  refine J_aload_n (j := 0) dX5_find_3 rfl rfl ?_
  refine J_getI dX5_find_4 fl_X5_53 sh_31 rfl ?_
  refine J_icmp_ge (tgt := 29) dX5_find_7 (by decide) ?_ ?_
  · exact J_cut [] (lv' := []) rfl (fun h => h)
  · refine J_aload_n (j := 0) dX5_find_10 rfl rfl ?_
    refine J_getR (b := 36) dX5_find_11 fl_X5_24 sh_31 rfl ?_
    refine J_iload_n (j := 2) dX5_find_14 rfl rfl ?_
    refine J_lald dX5_find_15 sh_36 ?_
    refine J_lload_n (j := 1) dX5_find_16 rfl rfl ?_
    refine J_lcmp dX5_find_17 ?_
    refine J_if_ne (tgt := 23) dX5_find_18 (by decide) ?_ ?_
    · refine J_iinc (j := 2) (b := 1) (fun v3_1 => [(3, .int v3_1), (0, .ref (llAd G 31)), (1, .long v1)]) dX5_find_23 rfl (by decide) (by decide) (fun _ => rfl) (fun v3_1 => ?_)
      refine J_goto (tgt := 2) dX5_find_26 (by decide) ?_
      exact J_cut [1, 2, 0] (lv' := [(0, .ref (llAd G 31)), (1, .long v1), (3, .int v3_1)]) rfl (fun h => h)
    · refine J_iload_n (j := 2) dX5_find_21 rfl rfl ?_
      exact J_iret dX5_find_22 (fun h => h)
def fx_X5_find_31 (u : llMem) (a0 : Int64) : Option Int32 := (loop (fx_X5_find_31_l2 u a0) llFuel 0).bind (Sum.elim (fun e2 => some ((-1))) (fun v => some ((fun v => v) v)))
set_option maxRecDepth 20000 in
theorem tj_X5_find_31 {G : llG} {d : Nat} (u : llMem) (a0 : Int64) : llJ G RX5 cX5_find 4 (some .int) d (fun r => llRet G (llI r) u) 0 [(0, .ref (llAd G 31)), (1, .long a0)] [] u (fx_X5_find_31 u a0) := by
  unfold fx_X5_find_31
  refine J_iconst (v := 0) dX5_find_0 (by decide) ?_
  refine J_istore_n [(3, .int 0), (0, .ref (llAd G 31)), (1, .long a0)] dX5_find_1 rfl (by decide) rfl ?_
  refine J_loopR (wr := (fun v => v)) (fun s' => [(0, .ref (llAd G 31)), (1, .long a0), (3, .int s')]) (fun s' => u) 29 (fun e => []) (fun e => u) (fun v => llRet G (llI v) u) (fun z => t_X5_find_31_l2 u a0 z) [1, 2, 0] rfl rfl (fun v h => h) (fun e2 => ?_)
  refine J_iconst (v := (-1)) dX5_find_29 (by decide) ?_
  exact J_iret dX5_find_30 (fun h => h)
theorem t_X5_find_31 (l : Launch) (F : llFix) (d : Nat) (u : llMem) (a0 : Int64) : llCp l F yX5_find cX5_find 4 (some .int) d [.ref (F.2.2.1 31), .long a0] u llI (fx_X5_find_31 u a0) := llCp.of (by decide +kernel) (by exact Nat.le_of_ble_eq_true rfl) (fun G h1 h2 => by subst h1; subst h2; exact tj_X5_find_31 u a0)
def fx_X9_takeNumber_1_j36 (u : llMem)  : Option ((llMem × Int32)) := bd (fx_X9_fail_1 u 3) (fun u2 r3 => some (u2, (-1)))
set_option maxRecDepth 20000 in
theorem t_X9_takeNumber_1_j36 {G : llG} {d : Nat} (u : llMem)  : llJ G RX9 cX9_takeNumber 3 (some .int) (d + 2) (fun r => llRet G (llI r.2) r.1) 36 [(0, .ref (llAd G 1))] [] u (fx_X9_takeNumber_1_j36 u ) := by
  unfold fx_X9_takeNumber_1_j36
  refine J_aload_n (j := 0) dX9_takeNumber_36 rfl rfl ?_
  refine J_iconst (v := 3) dX9_takeNumber_37 (by decide) ?_
  refine J_callVi1 dX9_takeNumber_38 (t_X9_fail_1 (llL G) (llFx G) (d + 1) u 3) ym_X9_fail wd_553 sh_1 rfl (Nat.le_of_ble_eq_true rfl) (fun u2 r3 => ?_)
  refine J_pop dX9_takeNumber_41 rfl ?_
  refine J_iconst (v := (-1)) dX9_takeNumber_42 (by decide) ?_
  exact J_iret dX9_takeNumber_43 (fun h => h)
def fx_X9_takeNumber_1 (u : llMem) (a0 : Int32) (a1 : Int32) : Option (llMem × Int32) := bd (fx_X9_next_1 u ) (fun u1 _ => (if (u1.1 1 2) = 2 then (if (u1.1 1 4) < a0 then fx_X9_takeNumber_1_j36 u1  else (if (u1.1 1 4) ≤ a1 then some (u1, u1.1 1 4) else fx_X9_takeNumber_1_j36 u1 )) else bd (fx_X9_fail_1 u1 1) (fun u4 r5 => some (u4, (-1)))))
set_option maxRecDepth 20000 in
theorem tj_X9_takeNumber_1 {G : llG} {d : Nat} (u : llMem) (a0 : Int32) (a1 : Int32) : llJ G RX9 cX9_takeNumber 3 (some .int) (d + 2) (fun r => llRet G (llI r.2) r.1) 0 [(0, .ref (llAd G 1)), (1, .int a0), (2, .int a1)] [] u (fx_X9_takeNumber_1 u a0 a1) := by
  unfold fx_X9_takeNumber_1
  refine J_aload_n (j := 0) dX9_takeNumber_0 rfl rfl ?_
  refine J_callVv0 dX9_takeNumber_1 (t_X9_next_1 (llL G) (llFx G) d u ) ym_X9_next wd_552 sh_1 rfl (Nat.le_of_ble_eq_true rfl) (fun u1 => ?_)
  refine J_aload_n (j := 0) dX9_takeNumber_4 rfl rfl ?_
  refine J_getI dX9_takeNumber_5 fl_X9_31 sh_1 rfl ?_
  refine J_iconst (v := 2) dX9_takeNumber_8 (by decide) ?_
  refine J_icmp_eq (tgt := 20) dX9_takeNumber_9 (by decide) ?_ ?_
  · refine J_aload_n (j := 0) dX9_takeNumber_20 rfl rfl ?_
    refine J_getI dX9_takeNumber_21 fl_X9_47 sh_1 rfl ?_
    refine J_iload_n (j := 1) dX9_takeNumber_24 rfl rfl ?_
    refine J_icmp_lt (tgt := 36) dX9_takeNumber_25 (by decide) ?_ ?_
    · refine J_sub [0] (lv' := [(0, .ref (llAd G 1))]) rfl ?_
      exact t_X9_takeNumber_1_j36 u1 
    · refine J_aload_n (j := 0) dX9_takeNumber_28 rfl rfl ?_
      refine J_getI dX9_takeNumber_29 fl_X9_47 sh_1 rfl ?_
      refine J_iload_n (j := 2) dX9_takeNumber_32 rfl rfl ?_
      refine J_icmp_le (tgt := 44) dX9_takeNumber_33 (by decide) ?_ ?_
      · refine J_aload_n (j := 0) dX9_takeNumber_44 rfl rfl ?_
        refine J_getI dX9_takeNumber_45 fl_X9_47 sh_1 rfl ?_
        exact J_iret dX9_takeNumber_48 (fun h => h)
      · refine J_sub [0] (lv' := [(0, .ref (llAd G 1))]) rfl ?_
        exact t_X9_takeNumber_1_j36 u1 
  · refine J_aload_n (j := 0) dX9_takeNumber_12 rfl rfl ?_
    refine J_iconst (v := 1) dX9_takeNumber_13 (by decide) ?_
    refine J_callVi1 dX9_takeNumber_14 (t_X9_fail_1 (llL G) (llFx G) (d + 1) u1 1) ym_X9_fail wd_553 sh_1 rfl (Nat.le_of_ble_eq_true rfl) (fun u4 r5 => ?_)
    refine J_pop dX9_takeNumber_17 rfl ?_
    refine J_iconst (v := (-1)) dX9_takeNumber_18 (by decide) ?_
    exact J_iret dX9_takeNumber_19 (fun h => h)
theorem t_X9_takeNumber_1 (l : Launch) (F : llFix) (d : Nat) (u : llMem) (a0 : Int32) (a1 : Int32) : llCt l F yX9_takeNumber cX9_takeNumber 3 (some .int) (d + 2) [.ref (F.2.2.1 1), .int a0, .int a1] u llI (fx_X9_takeNumber_1 u a0 a1) := llCt.of (by decide +kernel) (by exact Nat.le_of_ble_eq_true rfl) (fun G h1 h2 => by subst h1; subst h2; exact tj_X9_takeNumber_1 u a0 a1)
def fx_X9_takeWord_1_j20 (u : llMem)  : Option ((llMem × Int32)) := gB 1 (some (u, 1))
set_option maxRecDepth 20000 in
theorem t_X9_takeWord_1_j20 {G : llG} {d : Nat} (u : llMem)  : llJ G RX9 cX9_takeWord 3 (some .boolean) (d + 2) (fun r => llRet G (llI r.2) r.1) 20 [] [] u (fx_X9_takeWord_1_j20 u ) := by
  unfold fx_X9_takeWord_1_j20
  refine J_iconst (v := 1) dX9_takeWord_20 (by decide) ?_
  refine J_goto (tgt := 25) dX9_takeWord_21 (by decide) ?_
  exact J_zret dX9_takeWord_25 (fun h => h)
def fx_X9_takeWord_1 (u : llMem) (a0 : Int64) : Option (llMem × Int32) := bd (fx_X9_next_1 u ) (fun u1 _ => (fx_X9_isWord_1 u1 a0).bind (fun r2 => (if ¬ r2 = 0 then fx_X9_takeWord_1_j20 u1  else bd (fx_X9_fail_1 u1 1) (fun u3 r4 => (if r4 = 0 then gB 0 (some (u3, 0)) else fx_X9_takeWord_1_j20 u3 )))))
set_option maxRecDepth 20000 in
theorem tj_X9_takeWord_1 {G : llG} {d : Nat} (u : llMem) (a0 : Int64) : llJ G RX9 cX9_takeWord 3 (some .boolean) (d + 2) (fun r => llRet G (llI r.2) r.1) 0 [(0, .ref (llAd G 1)), (1, .long a0)] [] u (fx_X9_takeWord_1 u a0) := by
  unfold fx_X9_takeWord_1
  refine J_aload_n (j := 0) dX9_takeWord_0 rfl rfl ?_
  refine J_callVv0 dX9_takeWord_1 (t_X9_next_1 (llL G) (llFx G) d u ) ym_X9_next wd_552 sh_1 rfl (Nat.le_of_ble_eq_true rfl) (fun u1 => ?_)
  refine J_aload_n (j := 0) dX9_takeWord_4 rfl rfl ?_
  refine J_lload_n (j := 1) dX9_takeWord_5 rfl rfl ?_
  refine J_callVip1 dX9_takeWord_6 (t_X9_isWord_1 (llL G) (llFx G) (d + 1) u1 a0) ym_X9_isWord wd_559 sh_1 rfl (Nat.le_of_ble_eq_true rfl) (fun r2 => ?_)
  refine J_if_ne (tgt := 20) dX9_takeWord_9 (by decide) ?_ ?_
  · refine J_sub [] (lv' := []) rfl ?_
    exact t_X9_takeWord_1_j20 u1 
  · refine J_aload_n (j := 0) dX9_takeWord_12 rfl rfl ?_
    refine J_iconst (v := 1) dX9_takeWord_13 (by decide) ?_
    refine J_callVi1 dX9_takeWord_14 (t_X9_fail_1 (llL G) (llFx G) (d + 1) u1 1) ym_X9_fail wd_553 sh_1 rfl (Nat.le_of_ble_eq_true rfl) (fun u3 r4 => ?_)
    refine J_if_eq (tgt := 24) dX9_takeWord_17 (by decide) ?_ ?_
    · refine J_iconst (v := 0) dX9_takeWord_24 (by decide) ?_
      exact J_zret dX9_takeWord_25 (fun h => h)
    · refine J_sub [] (lv' := []) rfl ?_
      exact t_X9_takeWord_1_j20 u3 
theorem t_X9_takeWord_1 (l : Launch) (F : llFix) (d : Nat) (u : llMem) (a0 : Int64) : llCt l F yX9_takeWord cX9_takeWord 3 (some .boolean) (d + 2) [.ref (F.2.2.1 1), .long a0] u llI (fx_X9_takeWord_1 u a0) := llCt.of (by decide +kernel) (by exact Nat.le_of_ble_eq_true rfl) (fun G h1 h2 => by subst h1; subst h2; exact tj_X9_takeWord_1 u a0)
def fx_X5_hasLevel_31 (u : llMem) (a0 : Int32) : Option Int32 := (if a0 < 0 then gB 0 (some 0) else (if (u.1 31 0) ≤ a0 then gB 0 (some 0) else gB 1 (some 1)))
set_option maxRecDepth 20000 in
theorem tj_X5_hasLevel_31 {G : llG} {d : Nat} (u : llMem) (a0 : Int32) : llJ G RX5 cX5_hasLevel 2 (some .boolean) d (fun r => llRet G (llI r) u) 0 [(0, .ref (llAd G 31)), (1, .int a0)] [] u (fx_X5_hasLevel_31 u a0) := by
  unfold fx_X5_hasLevel_31
  refine J_iload_n (j := 1) dX5_hasLevel_0 rfl rfl ?_
  refine J_if_lt (tgt := 16) dX5_hasLevel_1 (by decide) ?_ ?_
  · refine J_iconst (v := 0) dX5_hasLevel_16 (by decide) ?_
    exact J_zret dX5_hasLevel_17 (fun h => h)
  · refine J_iload_n (j := 1) dX5_hasLevel_4 rfl rfl ?_
    refine J_aload_n (j := 0) dX5_hasLevel_5 rfl rfl ?_
    refine J_getI dX5_hasLevel_6 fl_X5_43 sh_31 rfl ?_
    refine J_icmp_ge (tgt := 16) dX5_hasLevel_9 (by decide) ?_ ?_
    · refine J_iconst (v := 0) dX5_hasLevel_16 (by decide) ?_
      exact J_zret dX5_hasLevel_17 (fun h => h)
    · refine J_iconst (v := 1) dX5_hasLevel_12 (by decide) ?_
      refine J_goto (tgt := 17) dX5_hasLevel_13 (by decide) ?_
      exact J_zret dX5_hasLevel_17 (fun h => h)
theorem t_X5_hasLevel_31 (l : Launch) (F : llFix) (d : Nat) (u : llMem) (a0 : Int32) : llCp l F yX5_hasLevel cX5_hasLevel 2 (some .boolean) d [.ref (F.2.2.1 31), .int a0] u llI (fx_X5_hasLevel_31 u a0) := llCp.of (by decide +kernel) (by exact Nat.le_of_ble_eq_true rfl) (fun G h1 h2 => by subst h1; subst h2; exact tj_X5_hasLevel_31 u a0)
def fx_X5_standsIn_31 (u : llMem) (a0 : Int32) (a1 : Int32) (a2 : Int32) : Option Int32 := gI a0 30 ((if ¬ (rI u 40 a0) = a1 then gB 0 (some 0) else gI a0 30 ((if ¬ (rI u 41 a0) = a2 then gB 0 (some 0) else gB 1 (some 1)))))
set_option maxRecDepth 20000 in
theorem tj_X5_standsIn_31 {G : llG} {d : Nat} (u : llMem) (a0 : Int32) (a1 : Int32) (a2 : Int32) : llJ G RX5 cX5_standsIn 4 (some .boolean) d (fun r => llRet G (llI r) u) 0 [(0, .ref (llAd G 31)), (1, .int a0), (2, .int a1), (3, .int a2)] [] u (fx_X5_standsIn_31 u a0 a1 a2) := by
  unfold fx_X5_standsIn_31
  refine J_aload_n (j := 0) dX5_standsIn_0 rfl rfl ?_
  refine J_getR (b := 40) dX5_standsIn_1 fl_X5_37 sh_31 rfl ?_
  refine J_iload_n (j := 1) dX5_standsIn_4 rfl rfl ?_
  refine J_iald dX5_standsIn_5 sh_40 ?_
  refine J_iload_n (j := 2) dX5_standsIn_6 rfl rfl ?_
  refine J_icmp_ne (tgt := 24) dX5_standsIn_7 (by decide) ?_ ?_
  · refine J_iconst (v := 0) dX5_standsIn_24 (by decide) ?_
    exact J_zret dX5_standsIn_25 (fun h => h)
  · refine J_aload_n (j := 0) dX5_standsIn_10 rfl rfl ?_
    refine J_getR (b := 41) dX5_standsIn_11 fl_X5_40 sh_31 rfl ?_
    refine J_iload_n (j := 1) dX5_standsIn_14 rfl rfl ?_
    refine J_iald dX5_standsIn_15 sh_41 ?_
    refine J_iload_n (j := 3) dX5_standsIn_16 rfl rfl ?_
    refine J_icmp_ne (tgt := 24) dX5_standsIn_17 (by decide) ?_ ?_
    · refine J_iconst (v := 0) dX5_standsIn_24 (by decide) ?_
      exact J_zret dX5_standsIn_25 (fun h => h)
    · refine J_iconst (v := 1) dX5_standsIn_20 (by decide) ?_
      refine J_goto (tgt := 25) dX5_standsIn_21 (by decide) ?_
      exact J_zret dX5_standsIn_25 (fun h => h)
theorem t_X5_standsIn_31 (l : Launch) (F : llFix) (d : Nat) (u : llMem) (a0 : Int32) (a1 : Int32) (a2 : Int32) : llCp l F yX5_standsIn cX5_standsIn 4 (some .boolean) d [.ref (F.2.2.1 31), .int a0, .int a1, .int a2] u llI (fx_X5_standsIn_31 u a0 a1 a2) := llCp.of (by decide +kernel) (by exact Nat.le_of_ble_eq_true rfl) (fun G h1 h2 => by subst h1; subst h2; exact tj_X5_standsIn_31 u a0 a1 a2)
def fx_X5_howManyIn_31_j28_b5 (u : llMem) (v1 : Int32) (v2 : Int32) (v3 : Int32) (v4 : Int32) : Option ((Int32 × Int32) ⊕ (Int32)) := lt (v4 + 1) (fun v4_2 => some (.inl (v3, v4_2)))
set_option maxRecDepth 20000 in
theorem t_X5_howManyIn_31_j28_b5 {G : llG} {d : Nat} (u : llMem) (v1 : Int32) (v2 : Int32) (v3 : Int32) (v4 : Int32) : llJ G RX5 cX5_howManyIn 5 (some .int) (d + 1) (Sum.elim (fun s' => llJq G 5 5 [(0, .ref (llAd G 31)), (1, .int v1), (2, .int v2), (3, .int s'.1), (4, .int s'.2)] [] u) (fun e => llJq G 5 34 [(3, .int e)] [] u)) 28 [(0, .ref (llAd G 31)), (1, .int v1), (2, .int v2), (3, .int v3), (4, .int v4)] [] u (fx_X5_howManyIn_31_j28_b5 u v1 v2 v3 v4) := by
  unfold fx_X5_howManyIn_31_j28_b5
  refine J_iinc (j := 4) (b := 1) (fun v4_2 => [(4, .int v4_2), (0, .ref (llAd G 31)), (1, .int v1), (2, .int v2), (3, .int v3)]) dX5_howManyIn_28 rfl (by decide) (by decide) (fun _ => rfl) (fun v4_2 => ?_)
  refine J_goto (tgt := 5) dX5_howManyIn_31 (by decide) ?_
  exact J_cut [1, 2, 3, 4, 0] (lv' := [(0, .ref (llAd G 31)), (1, .int v1), (2, .int v2), (3, .int v3), (4, .int v4_2)]) rfl (fun h => h)
def fx_X5_howManyIn_31_l5 (u : llMem) (v1 : Int32) (v2 : Int32) (s : Int32 × Int32) : Option ((Int32 × Int32) ⊕ (Int32)) := (if (u.1 31 5) ≤ s.2 then some (.inr s.1) else (fx_X5_standsIn_31 u s.2 v1 v2).bind (fun r1 => (if r1 = 0 then fx_X5_howManyIn_31_j28_b5 u v1 v2 s.1 s.2 else lt (s.1 + 1) (fun v3_3 => fx_X5_howManyIn_31_j28_b5 u v1 v2 v3_3 s.2))))
set_option maxRecDepth 20000 in
theorem t_X5_howManyIn_31_l5 {G : llG} {d : Nat} (u : llMem) (v1 : Int32) (v2 : Int32) (s : Int32 × Int32) : llJ G RX5 cX5_howManyIn 5 (some .int) (d + 1) (Sum.elim (fun s' => llJq G 5 5 [(0, .ref (llAd G 31)), (1, .int v1), (2, .int v2), (3, .int s'.1), (4, .int s'.2)] [] u) (fun e => llJq G 5 34 [(3, .int e)] [] u)) 5 [(0, .ref (llAd G 31)), (1, .int v1), (2, .int v2), (3, .int s.1), (4, .int s.2)] [] u (fx_X5_howManyIn_31_l5 u v1 v2 s) := by
  unfold fx_X5_howManyIn_31_l5
  refine J_iload (j := 4) dX5_howManyIn_5 rfl ?_
  refine J_aload_n (j := 0) dX5_howManyIn_7 rfl rfl ?_
  refine J_getI dX5_howManyIn_8 fl_X5_53 sh_31 rfl ?_
  refine J_icmp_ge (tgt := 34) dX5_howManyIn_11 (by decide) ?_ ?_
  · exact J_cut [3] (lv' := [(3, .int s.1)]) rfl (fun h => h)
  · refine J_aload_n (j := 0) dX5_howManyIn_14 rfl rfl ?_
    refine J_iload (j := 4) dX5_howManyIn_15 rfl ?_
    refine J_iload_n (j := 1) dX5_howManyIn_17 rfl rfl ?_
    refine J_iload_n (j := 2) dX5_howManyIn_18 rfl rfl ?_
    refine J_callVip3 dX5_howManyIn_19 (t_X5_standsIn_31 (llL G) (llFx G) d u s.2 v1 v2) ym_X5_standsIn wd_612 sh_31 rfl (Nat.le_of_ble_eq_true rfl) (fun r1 => ?_)
    refine J_if_eq (tgt := 28) dX5_howManyIn_22 (by decide) ?_ ?_
    · refine J_sub [0, 1, 2, 3, 4] (lv' := [(0, .ref (llAd G 31)), (1, .int v1), (2, .int v2), (3, .int s.1), (4, .int s.2)]) rfl ?_
      exact t_X5_howManyIn_31_j28_b5 u v1 v2 s.1 s.2
    · refine J_iinc (j := 3) (b := 1) (fun v3_3 => [(3, .int v3_3), (0, .ref (llAd G 31)), (1, .int v1), (2, .int v2), (4, .int s.2)]) dX5_howManyIn_25 rfl (by decide) (by decide) (fun _ => rfl) (fun v3_3 => ?_)
      refine J_sub [1, 2, 3, 0, 4] (lv' := [(0, .ref (llAd G 31)), (1, .int v1), (2, .int v2), (3, .int v3_3), (4, .int s.2)]) rfl ?_
      exact t_X5_howManyIn_31_j28_b5 u v1 v2 v3_3 s.2
def fx_X5_howManyIn_31 (u : llMem) (a0 : Int32) (a1 : Int32) : Option Int32 := (loop (fx_X5_howManyIn_31_l5 u a0 a1) llFuel (0, 0)).bind (fun e4 => some e4)
set_option maxRecDepth 20000 in
theorem tj_X5_howManyIn_31 {G : llG} {d : Nat} (u : llMem) (a0 : Int32) (a1 : Int32) : llJ G RX5 cX5_howManyIn 5 (some .int) (d + 1) (fun r => llRet G (llI r) u) 0 [(0, .ref (llAd G 31)), (1, .int a0), (2, .int a1)] [] u (fx_X5_howManyIn_31 u a0 a1) := by
  unfold fx_X5_howManyIn_31
  refine J_iconst (v := 0) dX5_howManyIn_0 (by decide) ?_
  refine J_istore_n [(3, .int 0), (0, .ref (llAd G 31)), (1, .int a0), (2, .int a1)] dX5_howManyIn_1 rfl (by decide) rfl ?_
  refine J_iconst (v := 0) dX5_howManyIn_2 (by decide) ?_
  refine J_istore [(4, .int 0), (3, .int 0), (0, .ref (llAd G 31)), (1, .int a0), (2, .int a1)] dX5_howManyIn_3 (by decide) rfl ?_
  refine J_loopE (fun s' => [(0, .ref (llAd G 31)), (1, .int a0), (2, .int a1), (3, .int s'.1), (4, .int s'.2)]) (fun s' => u) 34 (fun e => [(3, .int e)]) (fun e => u) (fun z => t_X5_howManyIn_31_l5 u a0 a1 z) [2, 3, 4, 1, 0] rfl rfl (fun e4 => ?_)
  refine J_iload_n (j := 0) dX5_howManyIn_34 rfl rfl ?_
  exact J_iret dX5_howManyIn_35 (fun h => h)
theorem t_X5_howManyIn_31 (l : Launch) (F : llFix) (d : Nat) (u : llMem) (a0 : Int32) (a1 : Int32) : llCp l F yX5_howManyIn cX5_howManyIn 5 (some .int) (d + 1) [.ref (F.2.2.1 31), .int a0, .int a1] u llI (fx_X5_howManyIn_31 u a0 a1) := llCp.of (by decide +kernel) (by exact Nat.le_of_ble_eq_true rfl) (fun G h1 h2 => by subst h1; subst h2; exact tj_X5_howManyIn_31 u a0 a1)
def fx_X9_isSign_1 (u : llMem) (a0 : Int32) : Option Int32 := (if ¬ (u.1 1 2) = 3 then gB 0 (some 0) else (if ¬ (u.1 1 5) = a0 then gB 0 (some 0) else gB 1 (some 1)))
set_option maxRecDepth 20000 in
theorem tj_X9_isSign_1 {G : llG} {d : Nat} (u : llMem) (a0 : Int32) : llJ G RX9 cX9_isSign 2 (some .boolean) d (fun r => llRet G (llI r) u) 0 [(0, .ref (llAd G 1)), (1, .int a0)] [] u (fx_X9_isSign_1 u a0) := by
  unfold fx_X9_isSign_1
  refine J_aload_n (j := 0) dX9_isSign_0 rfl rfl ?_
  refine J_getI dX9_isSign_1 fl_X9_31 sh_1 rfl ?_
  refine J_iconst (v := 3) dX9_isSign_4 (by decide) ?_
  refine J_icmp_ne (tgt := 20) dX9_isSign_5 (by decide) ?_ ?_
  · refine J_iconst (v := 0) dX9_isSign_20 (by decide) ?_
    exact J_zret dX9_isSign_21 (fun h => h)
  · refine J_aload_n (j := 0) dX9_isSign_8 rfl rfl ?_
    refine J_getI dX9_isSign_9 fl_X9_34 sh_1 rfl ?_
    refine J_iload_n (j := 1) dX9_isSign_12 rfl rfl ?_
    refine J_icmp_ne (tgt := 20) dX9_isSign_13 (by decide) ?_ ?_
    · refine J_iconst (v := 0) dX9_isSign_20 (by decide) ?_
      exact J_zret dX9_isSign_21 (fun h => h)
    · refine J_iconst (v := 1) dX9_isSign_16 (by decide) ?_
      refine J_goto (tgt := 21) dX9_isSign_17 (by decide) ?_
      exact J_zret dX9_isSign_21 (fun h => h)
theorem t_X9_isSign_1 (l : Launch) (F : llFix) (d : Nat) (u : llMem) (a0 : Int32) : llCp l F yX9_isSign cX9_isSign 2 (some .boolean) d [.ref (F.2.2.1 1), .int a0] u llI (fx_X9_isSign_1 u a0) := llCp.of (by decide +kernel) (by exact Nat.le_of_ble_eq_true rfl) (fun G h1 h2 => by subst h1; subst h2; exact tj_X9_isSign_1 u a0)
def fx_X9_takeSign_1_j20 (u : llMem)  : Option ((llMem × Int32)) := gB 1 (some (u, 1))
set_option maxRecDepth 20000 in
theorem t_X9_takeSign_1_j20 {G : llG} {d : Nat} (u : llMem)  : llJ G RX9 cX9_takeSign 2 (some .boolean) (d + 2) (fun r => llRet G (llI r.2) r.1) 20 [] [] u (fx_X9_takeSign_1_j20 u ) := by
  unfold fx_X9_takeSign_1_j20
  refine J_iconst (v := 1) dX9_takeSign_20 (by decide) ?_
  refine J_goto (tgt := 25) dX9_takeSign_21 (by decide) ?_
  exact J_zret dX9_takeSign_25 (fun h => h)
def fx_X9_takeSign_1 (u : llMem) (a0 : Int32) : Option (llMem × Int32) := bd (fx_X9_next_1 u ) (fun u1 _ => (fx_X9_isSign_1 u1 a0).bind (fun r2 => (if ¬ r2 = 0 then fx_X9_takeSign_1_j20 u1  else bd (fx_X9_fail_1 u1 1) (fun u3 r4 => (if r4 = 0 then gB 0 (some (u3, 0)) else fx_X9_takeSign_1_j20 u3 )))))
set_option maxRecDepth 20000 in
theorem tj_X9_takeSign_1 {G : llG} {d : Nat} (u : llMem) (a0 : Int32) : llJ G RX9 cX9_takeSign 2 (some .boolean) (d + 2) (fun r => llRet G (llI r.2) r.1) 0 [(0, .ref (llAd G 1)), (1, .int a0)] [] u (fx_X9_takeSign_1 u a0) := by
  unfold fx_X9_takeSign_1
  refine J_aload_n (j := 0) dX9_takeSign_0 rfl rfl ?_
  refine J_callVv0 dX9_takeSign_1 (t_X9_next_1 (llL G) (llFx G) d u ) ym_X9_next wd_552 sh_1 rfl (Nat.le_of_ble_eq_true rfl) (fun u1 => ?_)
  refine J_aload_n (j := 0) dX9_takeSign_4 rfl rfl ?_
  refine J_iload_n (j := 1) dX9_takeSign_5 rfl rfl ?_
  refine J_callVip1 dX9_takeSign_6 (t_X9_isSign_1 (llL G) (llFx G) (d + 1) u1 a0) ym_X9_isSign wd_569 sh_1 rfl (Nat.le_of_ble_eq_true rfl) (fun r2 => ?_)
  refine J_if_ne (tgt := 20) dX9_takeSign_9 (by decide) ?_ ?_
  · refine J_sub [] (lv' := []) rfl ?_
    exact t_X9_takeSign_1_j20 u1 
  · refine J_aload_n (j := 0) dX9_takeSign_12 rfl rfl ?_
    refine J_iconst (v := 1) dX9_takeSign_13 (by decide) ?_
    refine J_callVi1 dX9_takeSign_14 (t_X9_fail_1 (llL G) (llFx G) (d + 1) u1 1) ym_X9_fail wd_553 sh_1 rfl (Nat.le_of_ble_eq_true rfl) (fun u3 r4 => ?_)
    refine J_if_eq (tgt := 24) dX9_takeSign_17 (by decide) ?_ ?_
    · refine J_iconst (v := 0) dX9_takeSign_24 (by decide) ?_
      exact J_zret dX9_takeSign_25 (fun h => h)
    · refine J_sub [] (lv' := []) rfl ?_
      exact t_X9_takeSign_1_j20 u3 
theorem t_X9_takeSign_1 (l : Launch) (F : llFix) (d : Nat) (u : llMem) (a0 : Int32) : llCt l F yX9_takeSign cX9_takeSign 2 (some .boolean) (d + 2) [.ref (F.2.2.1 1), .int a0] u llI (fx_X9_takeSign_1 u a0) := llCt.of (by decide +kernel) (by exact Nat.le_of_ble_eq_true rfl) (fun G h1 h2 => by subst h1; subst h2; exact tj_X9_takeSign_1 u a0)
def fx_X6_readPlace_30_j63 (u : llMem)  : Option ((llMem × Int32)) := gB 1 (some (u, 1))
set_option maxRecDepth 20000 in
theorem t_X6_readPlace_30_j63 {G : llG} {d : Nat} (u : llMem)  : llJ G RX6 cX6_readPlace 4 (some .boolean) (d + 3) (fun r => llRet G (llI r.2) r.1) 63 [] [] u (fx_X6_readPlace_30_j63 u ) := by
  unfold fx_X6_readPlace_30_j63
  refine J_iconst (v := 1) dX6_readPlace_63 (by decide) ?_
  refine J_goto (tgt := 68) dX6_readPlace_64 (by decide) ?_
  exact J_zret dX6_readPlace_68 (fun h => h)
def fx_X6_readPlace_30 (u : llMem) (a0 : Int32) : Option (llMem × Int32) := gI a0 30 (lt (llSI u 40 (Int32.toNatClampNeg a0) ((-1))) (fun u1 => gI a0 30 (lt (llSI u1 41 (Int32.toNatClampNeg a0) ((-1))) (fun u2 => bd (fx_X9_next_1 u2 ) (fun u3 _ => (fx_X9_isWord_1 u3 26990).bind (fun r4 => (if ¬ r4 = 0 then bd (fx_X9_takeNumber_1 u3 0 ((u3.1 31 0) - 1)) (fun u5 r6 => (fx_X5_hasLevel_31 u5 r6).bind (fun r7 => (if ¬ r7 = 0 then gI r6 4 (bd (fx_X9_takeNumber_1 u5 0 ((rI u5 32 r6) - 1)) (fun u8 r9 => (if ¬ r9 = ((-1)) then (fx_X5_howManyIn_31 u8 r6 r9).bind (fun r10 => gI r6 4 ((if r10 < (rI u8 33 r6) then gI a0 30 (lt (llSI u8 40 (Int32.toNatClampNeg a0) r6) (fun u11 => gI a0 30 (lt (llSI u11 41 (Int32.toNatClampNeg a0) r9) (fun u12 => bd (fx_X9_takeSign_1 u12 59) (fun u13 r14 => gB r14 (some (u13, r14))))))) else bd (fx_X9_fail_1 u8 3) (fun u15 r16 => gB r16 (some (u15, r16)))))) else gB 0 (some (u8, 0))))) else gB 0 (some (u5, 0))))) else (fx_X9_isSign_1 u3 59).bind (fun r17 => (if ¬ r17 = 0 then fx_X6_readPlace_30_j63 u3  else bd (fx_X9_fail_1 u3 1) (fun u18 r19 => (if r19 = 0 then gB 0 (some (u18, 0)) else fx_X6_readPlace_30_j63 u18 )))))))))))
set_option maxRecDepth 20000 in
theorem tj_X6_readPlace_30 {G : llG} {d : Nat} (u : llMem) (a0 : Int32) : llJ G RX6 cX6_readPlace 4 (some .boolean) (d + 3) (fun r => llRet G (llI r.2) r.1) 0 [(0, .ref (llAd G 30)), (1, .int a0)] [] u (fx_X6_readPlace_30 u a0) := by
  unfold fx_X6_readPlace_30
  refine J_aload_n (j := 0) dX6_readPlace_0 rfl rfl ?_
  refine J_getR (b := 31) dX6_readPlace_1 fl_X6_18 sh_30 rfl ?_
  refine J_getR (b := 40) dX6_readPlace_4 fl_X6_126 sh_31 rfl ?_
  refine J_iload_n (j := 1) dX6_readPlace_7 rfl rfl ?_
  refine J_iconst (v := (-1)) dX6_readPlace_8 (by decide) ?_
  refine J_iast dX6_readPlace_9 sh_40 (fun u1 => ?_)
  refine J_aload_n (j := 0) dX6_readPlace_10 rfl rfl ?_
  refine J_getR (b := 31) dX6_readPlace_11 fl_X6_18 sh_30 rfl ?_
  refine J_getR (b := 41) dX6_readPlace_14 fl_X6_129 sh_31 rfl ?_
  refine J_iload_n (j := 1) dX6_readPlace_17 rfl rfl ?_
  refine J_iconst (v := (-1)) dX6_readPlace_18 (by decide) ?_
  refine J_iast dX6_readPlace_19 sh_41 (fun u2 => ?_)
  refine J_aload_n (j := 0) dX6_readPlace_20 rfl rfl ?_
  refine J_getR (b := 1) dX6_readPlace_21 fl_X6_9 sh_30 rfl ?_
  refine J_callVv0 dX6_readPlace_24 (t_X9_next_1 (llL G) (llFx G) (d + 1) u2 ) ym_X9_next wd_515 sh_1 rfl (Nat.le_of_ble_eq_true rfl) (fun u3 => ?_)
  refine J_aload_n (j := 0) dX6_readPlace_27 rfl rfl ?_
  refine J_getR (b := 1) dX6_readPlace_28 fl_X6_9 sh_30 rfl ?_
  refine J_ldc2 (v := 26990) dX6_readPlace_31 wd_602 ?_
  refine J_callVip1 dX6_readPlace_34 (t_X9_isWord_1 (llL G) (llFx G) (d + 2) u3 26990) ym_X9_isWord wd_540 sh_1 rfl (Nat.le_of_ble_eq_true rfl) (fun r4 => ?_)
  refine J_if_ne (tgt := 69) dX6_readPlace_37 (by decide) ?_ ?_
  · refine J_aload_n (j := 0) dX6_readPlace_69 rfl rfl ?_
    refine J_getR (b := 1) dX6_readPlace_70 fl_X6_9 sh_30 rfl ?_
    refine J_iconst (v := 0) dX6_readPlace_73 (by decide) ?_
    refine J_aload_n (j := 0) dX6_readPlace_74 rfl rfl ?_
    refine J_getR (b := 31) dX6_readPlace_75 fl_X6_18 sh_30 rfl ?_
    refine J_getI dX6_readPlace_78 fl_X6_22 sh_31 rfl ?_
    refine J_iconst (v := 1) dX6_readPlace_81 (by decide) ?_
    refine J_isub dX6_readPlace_82 ?_
    refine J_callVi2 dX6_readPlace_83 (t_X9_takeNumber_1 (llL G) (llFx G) d u3 0 ((u3.1 31 0) - 1)) ym_X9_takeNumber wd_548 sh_1 rfl (Nat.le_of_ble_eq_true rfl) (fun u5 r6 => ?_)
    refine J_istore_n [(2, .int r6), (0, .ref (llAd G 30)), (1, .int a0)] dX6_readPlace_86 rfl (by decide) rfl ?_
    refine J_aload_n (j := 1) dX6_readPlace_87 rfl rfl ?_
    refine J_getR (b := 31) dX6_readPlace_88 fl_X6_18 sh_30 rfl ?_
    refine J_iload_n (j := 0) dX6_readPlace_91 rfl rfl ?_
    refine J_callVip1 dX6_readPlace_92 (t_X5_hasLevel_31 (llL G) (llFx G) (d + 2) u5 r6) ym_X5_hasLevel wd_604 sh_31 rfl (Nat.le_of_ble_eq_true rfl) (fun r7 => ?_)
    refine J_if_ne (tgt := 100) dX6_readPlace_95 (by decide) ?_ ?_
    · refine J_aload_n (j := 1) dX6_readPlace_100 rfl rfl ?_
      refine J_getR (b := 1) dX6_readPlace_101 fl_X6_9 sh_30 rfl ?_
      refine J_iconst (v := 0) dX6_readPlace_104 (by decide) ?_
      refine J_aload_n (j := 1) dX6_readPlace_105 rfl rfl ?_
      refine J_getR (b := 31) dX6_readPlace_106 fl_X6_18 sh_30 rfl ?_
      refine J_getR (b := 32) dX6_readPlace_109 fl_X6_84 sh_31 rfl ?_
      refine J_iload_n (j := 0) dX6_readPlace_112 rfl rfl ?_
      refine J_iald dX6_readPlace_113 sh_32 ?_
      refine J_iconst (v := 1) dX6_readPlace_114 (by decide) ?_
      refine J_isub dX6_readPlace_115 ?_
      refine J_callVi2 dX6_readPlace_116 (t_X9_takeNumber_1 (llL G) (llFx G) d u5 0 ((rI u5 32 r6) - 1)) ym_X9_takeNumber wd_548 sh_1 rfl (Nat.le_of_ble_eq_true rfl) (fun u8 r9 => ?_)
      refine J_istore_n [(3, .int r9), (2, .int r6), (0, .ref (llAd G 30)), (1, .int a0)] dX6_readPlace_119 rfl (by decide) rfl ?_
      refine J_iload_n (j := 0) dX6_readPlace_120 rfl rfl ?_
      refine J_iconst (v := (-1)) dX6_readPlace_121 (by decide) ?_
      refine J_icmp_ne (tgt := 127) dX6_readPlace_122 (by decide) ?_ ?_
      · refine J_aload_n (j := 2) dX6_readPlace_127 rfl rfl ?_
        refine J_getR (b := 31) dX6_readPlace_128 fl_X6_18 sh_30 rfl ?_
        refine J_iload_n (j := 1) dX6_readPlace_131 rfl rfl ?_
        refine J_iload_n (j := 0) dX6_readPlace_132 rfl rfl ?_
        refine J_callVip2 dX6_readPlace_133 (t_X5_howManyIn_31 (llL G) (llFx G) (d + 1) u8 r6 r9) ym_X5_howManyIn wd_608 sh_31 rfl (Nat.le_of_ble_eq_true rfl) (fun r10 => ?_)
        refine J_aload_n (j := 2) dX6_readPlace_136 rfl rfl ?_
        refine J_getR (b := 31) dX6_readPlace_137 fl_X6_18 sh_30 rfl ?_
        refine J_getR (b := 33) dX6_readPlace_140 fl_X6_88 sh_31 rfl ?_
        refine J_iload_n (j := 1) dX6_readPlace_143 rfl rfl ?_
        refine J_iald dX6_readPlace_144 sh_33 ?_
        refine J_icmp_lt (tgt := 157) dX6_readPlace_145 (by decide) ?_ ?_
        · refine J_aload_n (j := 2) dX6_readPlace_157 rfl rfl ?_
          refine J_getR (b := 31) dX6_readPlace_158 fl_X6_18 sh_30 rfl ?_
          refine J_getR (b := 40) dX6_readPlace_161 fl_X6_126 sh_31 rfl ?_
          refine J_iload_n (j := 3) dX6_readPlace_164 rfl rfl ?_
          refine J_iload_n (j := 1) dX6_readPlace_165 rfl rfl ?_
          refine J_iast dX6_readPlace_166 sh_40 (fun u11 => ?_)
          refine J_aload_n (j := 2) dX6_readPlace_167 rfl rfl ?_
          refine J_getR (b := 31) dX6_readPlace_168 fl_X6_18 sh_30 rfl ?_
          refine J_getR (b := 41) dX6_readPlace_171 fl_X6_129 sh_31 rfl ?_
          refine J_iload_n (j := 3) dX6_readPlace_174 rfl rfl ?_
          refine J_iload_n (j := 0) dX6_readPlace_175 rfl rfl ?_
          refine J_iast dX6_readPlace_176 sh_41 (fun u12 => ?_)
          refine J_aload_n (j := 2) dX6_readPlace_177 rfl rfl ?_
          refine J_getR (b := 1) dX6_readPlace_178 fl_X6_9 sh_30 rfl ?_
          refine J_bipush (v := 59) dX6_readPlace_181 (by decide) ?_
          refine J_callVi1 dX6_readPlace_183 (t_X9_takeSign_1 (llL G) (llFx G) d u12 59) ym_X9_takeSign wd_565 sh_1 rfl (Nat.le_of_ble_eq_true rfl) (fun u13 r14 => ?_)
          exact J_zret dX6_readPlace_186 (fun h => h)
        · refine J_aload_n (j := 2) dX6_readPlace_148 rfl rfl ?_
          refine J_getR (b := 1) dX6_readPlace_149 fl_X6_9 sh_30 rfl ?_
          refine J_iconst (v := 3) dX6_readPlace_152 (by decide) ?_
          refine J_callVi1 dX6_readPlace_153 (t_X9_fail_1 (llL G) (llFx G) (d + 2) u8 3) ym_X9_fail wd_535 sh_1 rfl (Nat.le_of_ble_eq_true rfl) (fun u15 r16 => ?_)
          exact J_zret dX6_readPlace_156 (fun h => h)
      · refine J_iconst (v := 0) dX6_readPlace_125 (by decide) ?_
        exact J_zret dX6_readPlace_126 (fun h => h)
    · refine J_iconst (v := 0) dX6_readPlace_98 (by decide) ?_
      exact J_zret dX6_readPlace_99 (fun h => h)
  · refine J_aload_n (j := 0) dX6_readPlace_40 rfl rfl ?_
    refine J_getR (b := 1) dX6_readPlace_41 fl_X6_9 sh_30 rfl ?_
    refine J_bipush (v := 59) dX6_readPlace_44 (by decide) ?_
    refine J_callVip1 dX6_readPlace_46 (t_X9_isSign_1 (llL G) (llFx G) (d + 2) u3 59) ym_X9_isSign wd_603 sh_1 rfl (Nat.le_of_ble_eq_true rfl) (fun r17 => ?_)
    refine J_if_ne (tgt := 63) dX6_readPlace_49 (by decide) ?_ ?_
    · refine J_sub [] (lv' := []) rfl ?_
      exact t_X6_readPlace_30_j63 u3 
    · refine J_aload_n (j := 0) dX6_readPlace_52 rfl rfl ?_
      refine J_getR (b := 1) dX6_readPlace_53 fl_X6_9 sh_30 rfl ?_
      refine J_iconst (v := 1) dX6_readPlace_56 (by decide) ?_
      refine J_callVi1 dX6_readPlace_57 (t_X9_fail_1 (llL G) (llFx G) (d + 2) u3 1) ym_X9_fail wd_535 sh_1 rfl (Nat.le_of_ble_eq_true rfl) (fun u18 r19 => ?_)
      refine J_if_eq (tgt := 67) dX6_readPlace_60 (by decide) ?_ ?_
      · refine J_iconst (v := 0) dX6_readPlace_67 (by decide) ?_
        exact J_zret dX6_readPlace_68 (fun h => h)
      · refine J_sub [] (lv' := []) rfl ?_
        exact t_X6_readPlace_30_j63 u18 
theorem t_X6_readPlace_30 (l : Launch) (F : llFix) (d : Nat) (u : llMem) (a0 : Int32) : llCt l F yX6_readPlace cX6_readPlace 4 (some .boolean) (d + 3) [.ref (F.2.2.1 30), .int a0] u llI (fx_X6_readPlace_30 u a0) := llCt.of (by decide +kernel) (by exact Nat.le_of_ble_eq_true rfl) (fun G h1 h2 => by subst h1; subst h2; exact tj_X6_readPlace_30 u a0)
def fx_X6_readClub_30 (u : llMem) (a0 : Int32) : Option (llMem × Int32) := (if a0 < 30 then bd (fx_X9_takeName_1 u ) (fun u1 r2 => (if ¬ r2 = 0 then (fx_X5_find_31 u1 (u1.2.1 1 6)).bind (fun r3 => (if r3 = ((-1)) then gI a0 30 (lt (llSL u1 36 (Int32.toNatClampNeg a0) (u1.2.1 1 6)) (fun u4 => bd (fx_X9_takeNumber_1 u4 0 99) (fun u5 r6 => gI a0 30 (lt (llSI u5 37 (Int32.toNatClampNeg a0) r6) (fun u7 => gI a0 30 ((if ¬ (rI u7 37 a0) = ((-1)) then bd (fx_X9_takeNumber_1 u7 0 99) (fun u8 r9 => gI a0 30 (lt (llSI u8 38 (Int32.toNatClampNeg a0) r9) (fun u10 => gI a0 30 ((if (rI u10 38 a0) = ((-1)) then gB 0 (some (u10, 0)) else bd (fx_X9_takeWord_1 u10 444300616805) (fun u11 r12 => (if ¬ r12 = 0 then bd (fx_X9_takeNumber_1 u11 0 9) (fun u13 r14 => gI a0 30 (lt (llSI u13 39 (Int32.toNatClampNeg a0) r14) (fun u15 => gI a0 30 ((if (rI u15 39 a0) = ((-1)) then gB 0 (some (u15, 0)) else bd (fx_X6_readPlace_30 u15 a0) (fun u16 r17 => (if ¬ r17 = 0 then lt (llSI u16 31 5 (a0 + 1)) (fun u18 => gB 1 (some (u18, 1))) else gB 0 (some (u16, 0))))))))) else gB 0 (some (u11, 0))))))))) else gB 0 (some (u7, 0))))))))) else bd (fx_X9_fail_1 u1 2) (fun u19 r20 => gB r20 (some (u19, r20))))) else gB 0 (some (u1, 0)))) else bd (fx_X9_fail_1 u 4) (fun u21 r22 => gB r22 (some (u21, r22))))
set_option maxRecDepth 20000 in
theorem tj_X6_readClub_30 {G : llG} {d : Nat} (u : llMem) (a0 : Int32) : llJ G RX6 cX6_readClub 2 (some .boolean) (d + 4) (fun r => llRet G (llI r.2) r.1) 0 [(0, .ref (llAd G 30)), (1, .int a0)] [] u (fx_X6_readClub_30 u a0) := by
  unfold fx_X6_readClub_30
  refine J_iload_n (j := 1) dX6_readClub_0 rfl rfl ?_
  refine J_bipush (v := 30) dX6_readClub_1 (by decide) ?_
  refine J_icmp_lt (tgt := 15) dX6_readClub_3 (by decide) ?_ ?_
  · refine J_aload_n (j := 0) dX6_readClub_15 rfl rfl ?_
    refine J_getR (b := 1) dX6_readClub_16 fl_X6_9 sh_30 rfl ?_
    refine J_callVi0 dX6_readClub_19 (t_X9_takeName_1 (llL G) (llFx G) (d + 1) u ) ym_X9_takeName wd_578 sh_1 rfl (Nat.le_of_ble_eq_true rfl) (fun u1 r2 => ?_)
    refine J_if_ne (tgt := 27) dX6_readClub_22 (by decide) ?_ ?_
    · refine J_aload_n (j := 0) dX6_readClub_27 rfl rfl ?_
      refine J_getR (b := 31) dX6_readClub_28 fl_X6_18 sh_30 rfl ?_
      refine J_aload_n (j := 0) dX6_readClub_31 rfl rfl ?_
      refine J_getR (b := 1) dX6_readClub_32 fl_X6_9 sh_30 rfl ?_
      refine J_getL dX6_readClub_35 fl_X6_100 sh_1 rfl ?_
      refine J_callVip1 dX6_readClub_38 (t_X5_find_31 (llL G) (llFx G) (d + 3) u1 (u1.2.1 1 6)) ym_X5_find wd_593 sh_31 rfl (Nat.le_of_ble_eq_true rfl) (fun r3 => ?_)
      refine J_iconst (v := (-1)) dX6_readClub_41 (by decide) ?_
      refine J_icmp_eq (tgt := 54) dX6_readClub_42 (by decide) ?_ ?_
      · refine J_aload_n (j := 0) dX6_readClub_54 rfl rfl ?_
        refine J_getR (b := 31) dX6_readClub_55 fl_X6_18 sh_30 rfl ?_
        refine J_getR (b := 36) dX6_readClub_58 fl_X6_108 sh_31 rfl ?_
        refine J_iload_n (j := 1) dX6_readClub_61 rfl rfl ?_
        refine J_aload_n (j := 0) dX6_readClub_62 rfl rfl ?_
        refine J_getR (b := 1) dX6_readClub_63 fl_X6_9 sh_30 rfl ?_
        refine J_getL dX6_readClub_66 fl_X6_100 sh_1 rfl ?_
        refine J_last dX6_readClub_69 sh_36 (fun u4 => ?_)
        refine J_aload_n (j := 0) dX6_readClub_70 rfl rfl ?_
        refine J_getR (b := 31) dX6_readClub_71 fl_X6_18 sh_30 rfl ?_
        refine J_getR (b := 37) dX6_readClub_74 fl_X6_112 sh_31 rfl ?_
        refine J_iload_n (j := 1) dX6_readClub_77 rfl rfl ?_
        refine J_aload_n (j := 0) dX6_readClub_78 rfl rfl ?_
        refine J_getR (b := 1) dX6_readClub_79 fl_X6_9 sh_30 rfl ?_
        refine J_iconst (v := 0) dX6_readClub_82 (by decide) ?_
        refine J_bipush (v := 99) dX6_readClub_83 (by decide) ?_
        refine J_callVi2 dX6_readClub_85 (t_X9_takeNumber_1 (llL G) (llFx G) (d + 1) u4 0 99) ym_X9_takeNumber wd_548 sh_1 rfl (Nat.le_of_ble_eq_true rfl) (fun u5 r6 => ?_)
        refine J_iast dX6_readClub_88 sh_37 (fun u7 => ?_)
        refine J_aload_n (j := 0) dX6_readClub_89 rfl rfl ?_
        refine J_getR (b := 31) dX6_readClub_90 fl_X6_18 sh_30 rfl ?_
        refine J_getR (b := 37) dX6_readClub_93 fl_X6_112 sh_31 rfl ?_
        refine J_iload_n (j := 1) dX6_readClub_96 rfl rfl ?_
        refine J_iald dX6_readClub_97 sh_37 ?_
        refine J_iconst (v := (-1)) dX6_readClub_98 (by decide) ?_
        refine J_icmp_ne (tgt := 104) dX6_readClub_99 (by decide) ?_ ?_
        · refine J_aload_n (j := 0) dX6_readClub_104 rfl rfl ?_
          refine J_getR (b := 31) dX6_readClub_105 fl_X6_18 sh_30 rfl ?_
          refine J_getR (b := 38) dX6_readClub_108 fl_X6_115 sh_31 rfl ?_
          refine J_iload_n (j := 1) dX6_readClub_111 rfl rfl ?_
          refine J_aload_n (j := 0) dX6_readClub_112 rfl rfl ?_
          refine J_getR (b := 1) dX6_readClub_113 fl_X6_9 sh_30 rfl ?_
          refine J_iconst (v := 0) dX6_readClub_116 (by decide) ?_
          refine J_bipush (v := 99) dX6_readClub_117 (by decide) ?_
          refine J_callVi2 dX6_readClub_119 (t_X9_takeNumber_1 (llL G) (llFx G) (d + 1) u7 0 99) ym_X9_takeNumber wd_548 sh_1 rfl (Nat.le_of_ble_eq_true rfl) (fun u8 r9 => ?_)
          refine J_iast dX6_readClub_122 sh_38 (fun u10 => ?_)
          refine J_aload_n (j := 0) dX6_readClub_123 rfl rfl ?_
          refine J_getR (b := 31) dX6_readClub_124 fl_X6_18 sh_30 rfl ?_
          refine J_getR (b := 38) dX6_readClub_127 fl_X6_115 sh_31 rfl ?_
          refine J_iload_n (j := 1) dX6_readClub_130 rfl rfl ?_
          refine J_iald dX6_readClub_131 sh_38 ?_
          refine J_iconst (v := (-1)) dX6_readClub_132 (by decide) ?_
          refine J_icmp_eq (tgt := 149) dX6_readClub_133 (by decide) ?_ ?_
          · refine J_iconst (v := 0) dX6_readClub_149 (by decide) ?_
            exact J_zret dX6_readClub_150 (fun h => h)
          · refine J_aload_n (j := 0) dX6_readClub_136 rfl rfl ?_
            refine J_getR (b := 1) dX6_readClub_137 fl_X6_9 sh_30 rfl ?_
            refine J_ldc2 (v := 444300616805) dX6_readClub_140 wd_597 ?_
            refine J_callVi1 dX6_readClub_143 (t_X9_takeWord_1 (llL G) (llFx G) (d + 1) u10 444300616805) ym_X9_takeWord wd_555 sh_1 rfl (Nat.le_of_ble_eq_true rfl) (fun u11 r12 => ?_)
            refine J_if_ne (tgt := 151) dX6_readClub_146 (by decide) ?_ ?_
            · refine J_aload_n (j := 0) dX6_readClub_151 rfl rfl ?_
              refine J_getR (b := 31) dX6_readClub_152 fl_X6_18 sh_30 rfl ?_
              refine J_getR (b := 39) dX6_readClub_155 fl_X6_120 sh_31 rfl ?_
              refine J_iload_n (j := 1) dX6_readClub_158 rfl rfl ?_
              refine J_aload_n (j := 0) dX6_readClub_159 rfl rfl ?_
              refine J_getR (b := 1) dX6_readClub_160 fl_X6_9 sh_30 rfl ?_
              refine J_iconst (v := 0) dX6_readClub_163 (by decide) ?_
              refine J_bipush (v := 9) dX6_readClub_164 (by decide) ?_
              refine J_callVi2 dX6_readClub_166 (t_X9_takeNumber_1 (llL G) (llFx G) (d + 1) u11 0 9) ym_X9_takeNumber wd_548 sh_1 rfl (Nat.le_of_ble_eq_true rfl) (fun u13 r14 => ?_)
              refine J_iast dX6_readClub_169 sh_39 (fun u15 => ?_)
              refine J_aload_n (j := 0) dX6_readClub_170 rfl rfl ?_
              refine J_getR (b := 31) dX6_readClub_171 fl_X6_18 sh_30 rfl ?_
              refine J_getR (b := 39) dX6_readClub_174 fl_X6_120 sh_31 rfl ?_
              refine J_iload_n (j := 1) dX6_readClub_177 rfl rfl ?_
              refine J_iald dX6_readClub_178 sh_39 ?_
              refine J_iconst (v := (-1)) dX6_readClub_179 (by decide) ?_
              refine J_icmp_eq (tgt := 191) dX6_readClub_180 (by decide) ?_ ?_
              · refine J_iconst (v := 0) dX6_readClub_191 (by decide) ?_
                exact J_zret dX6_readClub_192 (fun h => h)
              · refine J_aload_n (j := 0) dX6_readClub_183 rfl rfl ?_
                refine J_iload_n (j := 1) dX6_readClub_184 rfl rfl ?_
                refine J_callVi1 dX6_readClub_185 (t_X6_readPlace_30 (llL G) (llFx G) d u15 a0) ym_X6_readPlace wd_598 sh_30 rfl (Nat.le_of_ble_eq_true rfl) (fun u16 r17 => ?_)
                refine J_if_ne (tgt := 193) dX6_readClub_188 (by decide) ?_ ?_
                · refine J_aload_n (j := 0) dX6_readClub_193 rfl rfl ?_
                  refine J_getR (b := 31) dX6_readClub_194 fl_X6_18 sh_30 rfl ?_
                  refine J_iload_n (j := 1) dX6_readClub_197 rfl rfl ?_
                  refine J_iconst (v := 1) dX6_readClub_198 (by decide) ?_
                  refine J_iadd dX6_readClub_199 ?_
                  refine J_putI dX6_readClub_200 fl_X6_26 sh_31 rfl (fun u18 => ?_)
                  refine J_iconst (v := 1) dX6_readClub_203 (by decide) ?_
                  exact J_zret dX6_readClub_204 (fun h => h)
                · refine J_iconst (v := 0) dX6_readClub_191 (by decide) ?_
                  exact J_zret dX6_readClub_192 (fun h => h)
            · refine J_iconst (v := 0) dX6_readClub_149 (by decide) ?_
              exact J_zret dX6_readClub_150 (fun h => h)
        · refine J_iconst (v := 0) dX6_readClub_102 (by decide) ?_
          exact J_zret dX6_readClub_103 (fun h => h)
      · refine J_aload_n (j := 0) dX6_readClub_45 rfl rfl ?_
        refine J_getR (b := 1) dX6_readClub_46 fl_X6_9 sh_30 rfl ?_
        refine J_iconst (v := 2) dX6_readClub_49 (by decide) ?_
        refine J_callVi1 dX6_readClub_50 (t_X9_fail_1 (llL G) (llFx G) (d + 3) u1 2) ym_X9_fail wd_535 sh_1 rfl (Nat.le_of_ble_eq_true rfl) (fun u19 r20 => ?_)
        exact J_zret dX6_readClub_53 (fun h => h)
    · refine J_iconst (v := 0) dX6_readClub_25 (by decide) ?_
      exact J_zret dX6_readClub_26 (fun h => h)
  · refine J_aload_n (j := 0) dX6_readClub_6 rfl rfl ?_
    refine J_getR (b := 1) dX6_readClub_7 fl_X6_9 sh_30 rfl ?_
    refine J_iconst (v := 4) dX6_readClub_10 (by decide) ?_
    refine J_callVi1 dX6_readClub_11 (t_X9_fail_1 (llL G) (llFx G) (d + 3) u 4) ym_X9_fail wd_535 sh_1 rfl (Nat.le_of_ble_eq_true rfl) (fun u21 r22 => ?_)
    exact J_zret dX6_readClub_14 (fun h => h)
theorem t_X6_readClub_30 (l : Launch) (F : llFix) (d : Nat) (u : llMem) (a0 : Int32) : llCt l F yX6_readClub cX6_readClub 2 (some .boolean) (d + 4) [.ref (F.2.2.1 30), .int a0] u llI (fx_X6_readClub_30 u a0) := llCt.of (by decide +kernel) (by exact Nat.le_of_ble_eq_true rfl) (fun G h1 h2 => by subst h1; subst h2; exact tj_X6_readClub_30 u a0)
def fx_X6_readLevel_30 (u : llMem) (a0 : Int32) : Option (llMem × Int32) := (if a0 < 4 then bd (fx_X9_takeNumber_1 u 1 3) (fun u1 r2 => (if r2 < 1 then gB 0 (some (u1, 0)) else bd (fx_X9_takeWord_1 u1 28518) (fun u3 r4 => (if ¬ r4 = 0 then gZ r2 (bd (fx_X9_takeNumber_1 u3 2 (if (12 / r2) < 6 then (12 / r2) else 6)) (fun u5 r6 => (if r6 = ((-1)) then gB 0 (some (u5, 0)) else bd (fx_X9_takeWord_1 u5 1685026670) (fun u7 r8 => (if ¬ r8 = 0 then bd (fx_X9_takeNumber_1 u7 0 6) (fun u9 r10 => (if r10 = ((-1)) then gB 0 (some (u9, 0)) else bd (fx_X9_takeWord_1 u9 1852138852) (fun u11 r12 => (if ¬ r12 = 0 then bd (fx_X9_takeNumber_1 u11 0 9) (fun u13 r14 => (if r14 = ((-1)) then gB 0 (some (u13, 0)) else bd (fx_X9_takeSign_1 u13 59) (fun u15 r16 => (if ¬ r16 = 0 then gI a0 4 (lt (llSI u15 32 (Int32.toNatClampNeg a0) r2) (fun u17 => gI a0 4 (lt (llSI u17 33 (Int32.toNatClampNeg a0) r6) (fun u18 => gI a0 4 (lt (llSI u18 34 (Int32.toNatClampNeg a0) r10) (fun u19 => gI a0 4 (lt (llSI u19 35 (Int32.toNatClampNeg a0) r14) (fun u20 => lt (llSI u20 31 0 (a0 + 1)) (fun u21 => gB 1 (some (u21, 1))))))))))) else gB 0 (some (u15, 0)))))) else gB 0 (some (u11, 0)))))) else gB 0 (some (u7, 0))))))) else gB 0 (some (u3, 0)))))) else bd (fx_X9_fail_1 u 4) (fun u22 r23 => gB r23 (some (u22, r23))))
set_option maxRecDepth 20000 in
theorem tj_X6_readLevel_30 {G : llG} {d : Nat} (u : llMem) (a0 : Int32) : llJ G RX6 cX6_readLevel 6 (some .boolean) (d + 3) (fun r => llRet G (llI r.2) r.1) 0 [(0, .ref (llAd G 30)), (1, .int a0)] [] u (fx_X6_readLevel_30 u a0) := by
  unfold fx_X6_readLevel_30
  refine J_iload_n (j := 1) dX6_readLevel_0 rfl rfl ?_
  refine J_iconst (v := 4) dX6_readLevel_1 (by decide) ?_
  refine J_icmp_lt (tgt := 14) dX6_readLevel_2 (by decide) ?_ ?_
  · refine J_aload_n (j := 0) dX6_readLevel_14 rfl rfl ?_
    refine J_getR (b := 1) dX6_readLevel_15 fl_X6_9 sh_30 rfl ?_
    refine J_iconst (v := 1) dX6_readLevel_18 (by decide) ?_
    refine J_iconst (v := 3) dX6_readLevel_19 (by decide) ?_
    refine J_callVi2 dX6_readLevel_20 (t_X9_takeNumber_1 (llL G) (llFx G) d u 1 3) ym_X9_takeNumber wd_548 sh_1 rfl (Nat.le_of_ble_eq_true rfl) (fun u1 r2 => ?_)
    refine J_istore_n [(2, .int r2), (0, .ref (llAd G 30)), (1, .int a0)] dX6_readLevel_23 rfl (by decide) rfl ?_
    refine J_iload_n (j := 0) dX6_readLevel_24 rfl rfl ?_
    refine J_iconst (v := 1) dX6_readLevel_25 (by decide) ?_
    refine J_icmp_lt (tgt := 42) dX6_readLevel_26 (by decide) ?_ ?_
    · refine J_iconst (v := 0) dX6_readLevel_42 (by decide) ?_
      exact J_zret dX6_readLevel_43 (fun h => h)
    · refine J_aload_n (j := 1) dX6_readLevel_29 rfl rfl ?_
      refine J_getR (b := 1) dX6_readLevel_30 fl_X6_9 sh_30 rfl ?_
      refine J_ldc2 (v := 28518) dX6_readLevel_33 wd_554 ?_
      refine J_callVi1 dX6_readLevel_36 (t_X9_takeWord_1 (llL G) (llFx G) d u1 28518) ym_X9_takeWord wd_555 sh_1 rfl (Nat.le_of_ble_eq_true rfl) (fun u3 r4 => ?_)
      refine J_if_ne (tgt := 44) dX6_readLevel_39 (by decide) ?_ ?_
      · refine J_aload_n (j := 1) dX6_readLevel_44 rfl rfl ?_
        refine J_getR (b := 1) dX6_readLevel_45 fl_X6_9 sh_30 rfl ?_
        refine J_iconst (v := 2) dX6_readLevel_48 (by decide) ?_
        refine J_bipush (v := 6) dX6_readLevel_49 (by decide) ?_
        refine J_bipush (v := 12) dX6_readLevel_51 (by decide) ?_
        refine J_iload_n (j := 0) dX6_readLevel_53 rfl rfl ?_
        refine J_idiv dX6_readLevel_54 ?_
        refine J_mmin dX6_readLevel_55 wd_560 wd_561 wd_14 wd_562 (Nat.le_of_ble_eq_true rfl) ?_
        refine J_callVi2 dX6_readLevel_58 (t_X9_takeNumber_1 (llL G) (llFx G) d u3 2 (if (12 / r2) < 6 then (12 / r2) else 6)) ym_X9_takeNumber wd_548 sh_1 rfl (Nat.le_of_ble_eq_true rfl) (fun u5 r6 => ?_)
        refine J_istore_n [(3, .int r6), (2, .int r2), (0, .ref (llAd G 30)), (1, .int a0)] dX6_readLevel_61 rfl (by decide) rfl ?_
        refine J_iload_n (j := 0) dX6_readLevel_62 rfl rfl ?_
        refine J_iconst (v := (-1)) dX6_readLevel_63 (by decide) ?_
        refine J_icmp_eq (tgt := 80) dX6_readLevel_64 (by decide) ?_ ?_
        · refine J_iconst (v := 0) dX6_readLevel_80 (by decide) ?_
          exact J_zret dX6_readLevel_81 (fun h => h)
        · refine J_aload_n (j := 2) dX6_readLevel_67 rfl rfl ?_
          refine J_getR (b := 1) dX6_readLevel_68 fl_X6_9 sh_30 rfl ?_
          refine J_ldc2 (v := 1685026670) dX6_readLevel_71 wd_563 ?_
          refine J_callVi1 dX6_readLevel_74 (t_X9_takeWord_1 (llL G) (llFx G) d u5 1685026670) ym_X9_takeWord wd_555 sh_1 rfl (Nat.le_of_ble_eq_true rfl) (fun u7 r8 => ?_)
          refine J_if_ne (tgt := 82) dX6_readLevel_77 (by decide) ?_ ?_
          · refine J_aload_n (j := 2) dX6_readLevel_82 rfl rfl ?_
            refine J_getR (b := 1) dX6_readLevel_83 fl_X6_9 sh_30 rfl ?_
            refine J_iconst (v := 0) dX6_readLevel_86 (by decide) ?_
            refine J_bipush (v := 6) dX6_readLevel_87 (by decide) ?_
            refine J_callVi2 dX6_readLevel_89 (t_X9_takeNumber_1 (llL G) (llFx G) d u7 0 6) ym_X9_takeNumber wd_548 sh_1 rfl (Nat.le_of_ble_eq_true rfl) (fun u9 r10 => ?_)
            refine J_istore [(4, .int r10), (3, .int r6), (2, .int r2), (0, .ref (llAd G 30)), (1, .int a0)] dX6_readLevel_92 (by decide) rfl ?_
            refine J_iload (j := 0) dX6_readLevel_94 rfl ?_
            refine J_iconst (v := (-1)) dX6_readLevel_96 (by decide) ?_
            refine J_icmp_eq (tgt := 113) dX6_readLevel_97 (by decide) ?_ ?_
            · refine J_iconst (v := 0) dX6_readLevel_113 (by decide) ?_
              exact J_zret dX6_readLevel_114 (fun h => h)
            · refine J_aload_n (j := 3) dX6_readLevel_100 rfl rfl ?_
              refine J_getR (b := 1) dX6_readLevel_101 fl_X6_9 sh_30 rfl ?_
              refine J_ldc2 (v := 1852138852) dX6_readLevel_104 wd_564 ?_
              refine J_callVi1 dX6_readLevel_107 (t_X9_takeWord_1 (llL G) (llFx G) d u9 1852138852) ym_X9_takeWord wd_555 sh_1 rfl (Nat.le_of_ble_eq_true rfl) (fun u11 r12 => ?_)
              refine J_if_ne (tgt := 115) dX6_readLevel_110 (by decide) ?_ ?_
              · refine J_aload_n (j := 3) dX6_readLevel_115 rfl rfl ?_
                refine J_getR (b := 1) dX6_readLevel_116 fl_X6_9 sh_30 rfl ?_
                refine J_iconst (v := 0) dX6_readLevel_119 (by decide) ?_
                refine J_bipush (v := 9) dX6_readLevel_120 (by decide) ?_
                refine J_callVi2 dX6_readLevel_122 (t_X9_takeNumber_1 (llL G) (llFx G) d u11 0 9) ym_X9_takeNumber wd_548 sh_1 rfl (Nat.le_of_ble_eq_true rfl) (fun u13 r14 => ?_)
                refine J_istore [(5, .int r14), (4, .int r10), (3, .int r6), (2, .int r2), (0, .ref (llAd G 30)), (1, .int a0)] dX6_readLevel_125 (by decide) rfl ?_
                refine J_iload (j := 0) dX6_readLevel_127 rfl ?_
                refine J_iconst (v := (-1)) dX6_readLevel_129 (by decide) ?_
                refine J_icmp_eq (tgt := 145) dX6_readLevel_130 (by decide) ?_ ?_
                · refine J_iconst (v := 0) dX6_readLevel_145 (by decide) ?_
                  exact J_zret dX6_readLevel_146 (fun h => h)
                · refine J_aload_n (j := 4) dX6_readLevel_133 rfl rfl ?_
                  refine J_getR (b := 1) dX6_readLevel_134 fl_X6_9 sh_30 rfl ?_
                  refine J_bipush (v := 59) dX6_readLevel_137 (by decide) ?_
                  refine J_callVi1 dX6_readLevel_139 (t_X9_takeSign_1 (llL G) (llFx G) d u13 59) ym_X9_takeSign wd_565 sh_1 rfl (Nat.le_of_ble_eq_true rfl) (fun u15 r16 => ?_)
                  refine J_if_ne (tgt := 147) dX6_readLevel_142 (by decide) ?_ ?_
                  · refine J_aload_n (j := 4) dX6_readLevel_147 rfl rfl ?_
                    refine J_getR (b := 31) dX6_readLevel_148 fl_X6_18 sh_30 rfl ?_
                    refine J_getR (b := 32) dX6_readLevel_151 fl_X6_84 sh_31 rfl ?_
                    refine J_iload_n (j := 5) dX6_readLevel_154 rfl rfl ?_
                    refine J_iload_n (j := 3) dX6_readLevel_155 rfl rfl ?_
                    refine J_iast dX6_readLevel_156 sh_32 (fun u17 => ?_)
                    refine J_aload_n (j := 4) dX6_readLevel_157 rfl rfl ?_
                    refine J_getR (b := 31) dX6_readLevel_158 fl_X6_18 sh_30 rfl ?_
                    refine J_getR (b := 33) dX6_readLevel_161 fl_X6_88 sh_31 rfl ?_
                    refine J_iload_n (j := 5) dX6_readLevel_164 rfl rfl ?_
                    refine J_iload_n (j := 2) dX6_readLevel_165 rfl rfl ?_
                    refine J_iast dX6_readLevel_166 sh_33 (fun u18 => ?_)
                    refine J_aload_n (j := 4) dX6_readLevel_167 rfl rfl ?_
                    refine J_getR (b := 31) dX6_readLevel_168 fl_X6_18 sh_30 rfl ?_
                    refine J_getR (b := 34) dX6_readLevel_171 fl_X6_91 sh_31 rfl ?_
                    refine J_iload_n (j := 5) dX6_readLevel_174 rfl rfl ?_
                    refine J_iload (j := 1) dX6_readLevel_175 rfl ?_
                    refine J_iast dX6_readLevel_177 sh_34 (fun u19 => ?_)
                    refine J_aload_n (j := 4) dX6_readLevel_178 rfl rfl ?_
                    refine J_getR (b := 31) dX6_readLevel_179 fl_X6_18 sh_30 rfl ?_
                    refine J_getR (b := 35) dX6_readLevel_182 fl_X6_94 sh_31 rfl ?_
                    refine J_iload_n (j := 5) dX6_readLevel_185 rfl rfl ?_
                    refine J_iload (j := 0) dX6_readLevel_186 rfl ?_
                    refine J_iast dX6_readLevel_188 sh_35 (fun u20 => ?_)
                    refine J_aload_n (j := 4) dX6_readLevel_189 rfl rfl ?_
                    refine J_getR (b := 31) dX6_readLevel_190 fl_X6_18 sh_30 rfl ?_
                    refine J_iload_n (j := 5) dX6_readLevel_193 rfl rfl ?_
                    refine J_iconst (v := 1) dX6_readLevel_194 (by decide) ?_
                    refine J_iadd dX6_readLevel_195 ?_
                    refine J_putI dX6_readLevel_196 fl_X6_22 sh_31 rfl (fun u21 => ?_)
                    refine J_iconst (v := 1) dX6_readLevel_199 (by decide) ?_
                    exact J_zret dX6_readLevel_200 (fun h => h)
                  · refine J_iconst (v := 0) dX6_readLevel_145 (by decide) ?_
                    exact J_zret dX6_readLevel_146 (fun h => h)
              · refine J_iconst (v := 0) dX6_readLevel_113 (by decide) ?_
                exact J_zret dX6_readLevel_114 (fun h => h)
          · refine J_iconst (v := 0) dX6_readLevel_80 (by decide) ?_
            exact J_zret dX6_readLevel_81 (fun h => h)
      · refine J_iconst (v := 0) dX6_readLevel_42 (by decide) ?_
        exact J_zret dX6_readLevel_43 (fun h => h)
  · refine J_aload_n (j := 0) dX6_readLevel_5 rfl rfl ?_
    refine J_getR (b := 1) dX6_readLevel_6 fl_X6_9 sh_30 rfl ?_
    refine J_iconst (v := 4) dX6_readLevel_9 (by decide) ?_
    refine J_callVi1 dX6_readLevel_10 (t_X9_fail_1 (llL G) (llFx G) (d + 2) u 4) ym_X9_fail wd_535 sh_1 rfl (Nat.le_of_ble_eq_true rfl) (fun u22 r23 => ?_)
    exact J_zret dX6_readLevel_13 (fun h => h)
theorem t_X6_readLevel_30 (l : Launch) (F : llFix) (d : Nat) (u : llMem) (a0 : Int32) : llCt l F yX6_readLevel cX6_readLevel 6 (some .boolean) (d + 3) [.ref (F.2.2.1 30), .int a0] u llI (fx_X6_readLevel_30 u a0) := llCt.of (by decide +kernel) (by exact Nat.le_of_ble_eq_true rfl) (fun G h1 h2 => by subst h1; subst h2; exact tj_X6_readLevel_30 u a0)
def fx_X5_howMany_31_j25_b4 (u : llMem) (v1 : Int32) (v2 : Int32) (v3 : Int32) : Option ((Int32 × Int32) ⊕ (Int32)) := lt (v3 + 1) (fun v3_1 => some (.inl (v2, v3_1)))
set_option maxRecDepth 20000 in
theorem t_X5_howMany_31_j25_b4 {G : llG} {d : Nat} (u : llMem) (v1 : Int32) (v2 : Int32) (v3 : Int32) : llJ G RX5 cX5_howMany 4 (some .int) d (Sum.elim (fun s' => llJq G 4 4 [(0, .ref (llAd G 31)), (1, .int v1), (2, .int s'.1), (3, .int s'.2)] [] u) (fun e => llJq G 4 31 [(2, .int e)] [] u)) 25 [(0, .ref (llAd G 31)), (1, .int v1), (2, .int v2), (3, .int v3)] [] u (fx_X5_howMany_31_j25_b4 u v1 v2 v3) := by
  unfold fx_X5_howMany_31_j25_b4
  refine J_iinc (j := 3) (b := 1) (fun v3_1 => [(3, .int v3_1), (0, .ref (llAd G 31)), (1, .int v1), (2, .int v2)]) dX5_howMany_25 rfl (by decide) (by decide) (fun _ => rfl) (fun v3_1 => ?_)
  refine J_goto (tgt := 4) dX5_howMany_28 (by decide) ?_
  exact J_cut [1, 2, 3, 0] (lv' := [(0, .ref (llAd G 31)), (1, .int v1), (2, .int v2), (3, .int v3_1)]) rfl (fun h => h)
def fx_X5_howMany_31_l4 (u : llMem) (v1 : Int32) (s : Int32 × Int32) : Option ((Int32 × Int32) ⊕ (Int32)) := (if (u.1 31 5) ≤ s.2 then some (.inr s.1) else gI s.2 30 ((if ¬ (rI u 40 s.2) = v1 then fx_X5_howMany_31_j25_b4 u v1 s.1 s.2 else lt (s.1 + 1) (fun v2_2 => fx_X5_howMany_31_j25_b4 u v1 v2_2 s.2))))
set_option maxRecDepth 20000 in
theorem t_X5_howMany_31_l4 {G : llG} {d : Nat} (u : llMem) (v1 : Int32) (s : Int32 × Int32) : llJ G RX5 cX5_howMany 4 (some .int) d (Sum.elim (fun s' => llJq G 4 4 [(0, .ref (llAd G 31)), (1, .int v1), (2, .int s'.1), (3, .int s'.2)] [] u) (fun e => llJq G 4 31 [(2, .int e)] [] u)) 4 [(0, .ref (llAd G 31)), (1, .int v1), (2, .int s.1), (3, .int s.2)] [] u (fx_X5_howMany_31_l4 u v1 s) := by
  unfold fx_X5_howMany_31_l4
  refine J_iload_n (j := 3) dX5_howMany_4 rfl rfl ?_
  refine J_aload_n (j := 0) dX5_howMany_5 rfl rfl ?_
  refine J_getI dX5_howMany_6 fl_X5_53 sh_31 rfl ?_
  refine J_icmp_ge (tgt := 31) dX5_howMany_9 (by decide) ?_ ?_
  · exact J_cut [2] (lv' := [(2, .int s.1)]) rfl (fun h => h)
  · refine J_aload_n (j := 0) dX5_howMany_12 rfl rfl ?_
    refine J_getR (b := 40) dX5_howMany_13 fl_X5_37 sh_31 rfl ?_
    refine J_iload_n (j := 3) dX5_howMany_16 rfl rfl ?_
    refine J_iald dX5_howMany_17 sh_40 ?_
    refine J_iload_n (j := 1) dX5_howMany_18 rfl rfl ?_
    refine J_icmp_ne (tgt := 25) dX5_howMany_19 (by decide) ?_ ?_
    · refine J_sub [0, 1, 2, 3] (lv' := [(0, .ref (llAd G 31)), (1, .int v1), (2, .int s.1), (3, .int s.2)]) rfl ?_
      exact t_X5_howMany_31_j25_b4 u v1 s.1 s.2
    · refine J_iinc (j := 2) (b := 1) (fun v2_2 => [(2, .int v2_2), (0, .ref (llAd G 31)), (1, .int v1), (3, .int s.2)]) dX5_howMany_22 rfl (by decide) (by decide) (fun _ => rfl) (fun v2_2 => ?_)
      refine J_sub [1, 2, 0, 3] (lv' := [(0, .ref (llAd G 31)), (1, .int v1), (2, .int v2_2), (3, .int s.2)]) rfl ?_
      exact t_X5_howMany_31_j25_b4 u v1 v2_2 s.2
def fx_X5_howMany_31 (u : llMem) (a0 : Int32) : Option Int32 := (loop (fx_X5_howMany_31_l4 u a0) llFuel (0, 0)).bind (fun e3 => some e3)
set_option maxRecDepth 20000 in
theorem tj_X5_howMany_31 {G : llG} {d : Nat} (u : llMem) (a0 : Int32) : llJ G RX5 cX5_howMany 4 (some .int) d (fun r => llRet G (llI r) u) 0 [(0, .ref (llAd G 31)), (1, .int a0)] [] u (fx_X5_howMany_31 u a0) := by
  unfold fx_X5_howMany_31
  refine J_iconst (v := 0) dX5_howMany_0 (by decide) ?_
  refine J_istore_n [(2, .int 0), (0, .ref (llAd G 31)), (1, .int a0)] dX5_howMany_1 rfl (by decide) rfl ?_
  refine J_iconst (v := 0) dX5_howMany_2 (by decide) ?_
  refine J_istore_n [(3, .int 0), (2, .int 0), (0, .ref (llAd G 31)), (1, .int a0)] dX5_howMany_3 rfl (by decide) rfl ?_
  refine J_loopE (fun s' => [(0, .ref (llAd G 31)), (1, .int a0), (2, .int s'.1), (3, .int s'.2)]) (fun s' => u) 31 (fun e => [(2, .int e)]) (fun e => u) (fun z => t_X5_howMany_31_l4 u a0 z) [2, 3, 1, 0] rfl rfl (fun e3 => ?_)
  refine J_iload_n (j := 0) dX5_howMany_31 rfl rfl ?_
  exact J_iret dX5_howMany_32 (fun h => h)
theorem t_X5_howMany_31 (l : Launch) (F : llFix) (d : Nat) (u : llMem) (a0 : Int32) : llCp l F yX5_howMany cX5_howMany 4 (some .int) d [.ref (F.2.2.1 31), .int a0] u llI (fx_X5_howMany_31 u a0) := llCp.of (by decide +kernel) (by exact Nat.le_of_ble_eq_true rfl) (fun G h1 h2 => by subst h1; subst h2; exact tj_X5_howMany_31 u a0)
def fx_X6_allFull_30_l2 (u : llMem)  (s : Int32) : Option ((Int32) ⊕ ((Unit) ⊕ (Int32))) := (if (u.1 31 0) ≤ s then some (.inr (.inl ())) else (fx_X5_howMany_31 u s).bind (fun r1 => gI s 4 (gI s 4 ((if ((rI u 32 s) * (rI u 33 s)) ≤ r1 then lt (s + 1) (fun v1_2 => some (.inl v1_2)) else gB 0 (some (.inr (.inr 0))))))))
set_option maxRecDepth 20000 in
theorem t_X6_allFull_30_l2 {G : llG} {d : Nat} (u : llMem)  (s : Int32) : llJ G RX6 cX6_allFull 2 (some .boolean) (d + 1) (Sum.elim (fun s' => llJq G 2 2 [(0, .ref (llAd G 30)), (1, .int s')] [] u) (Sum.elim (fun e => llJq G 2 51 [] [] u) (fun v => llRet G (llI v) u))) 2 [(0, .ref (llAd G 30)), (1, .int s)] [] u (fx_X6_allFull_30_l2 u s) := by
  unfold fx_X6_allFull_30_l2
  refine J_iload_n (j := 1) dX6_allFull_2 rfl rfl ?_
  refine J_aload_n (j := 0) dX6_allFull_3 rfl rfl ?_
  refine J_getR (b := 31) dX6_allFull_4 fl_X6_18 sh_30 rfl ?_
  refine J_getI dX6_allFull_7 fl_X6_22 sh_31 rfl ?_
  refine J_icmp_ge (tgt := 51) dX6_allFull_10 (by decide) ?_ ?_
  · exact J_cut [] (lv' := []) rfl (fun h => h)
  · refine J_aload_n (j := 0) dX6_allFull_13 rfl rfl ?_
    refine J_getR (b := 31) dX6_allFull_14 fl_X6_18 sh_30 rfl ?_
    refine J_iload_n (j := 1) dX6_allFull_17 rfl rfl ?_
    refine J_callVip1 dX6_allFull_18 (t_X5_howMany_31 (llL G) (llFx G) d u s) ym_X5_howMany wd_531 sh_31 rfl (Nat.le_of_ble_eq_true rfl) (fun r1 => ?_)
    refine J_aload_n (j := 0) dX6_allFull_21 rfl rfl ?_
    refine J_getR (b := 31) dX6_allFull_22 fl_X6_18 sh_30 rfl ?_
    refine J_getR (b := 32) dX6_allFull_25 fl_X6_84 sh_31 rfl ?_
    refine J_iload_n (j := 1) dX6_allFull_28 rfl rfl ?_
    refine J_iald dX6_allFull_29 sh_32 ?_
    refine J_aload_n (j := 0) dX6_allFull_30 rfl rfl ?_
    refine J_getR (b := 31) dX6_allFull_31 fl_X6_18 sh_30 rfl ?_
    refine J_getR (b := 33) dX6_allFull_34 fl_X6_88 sh_31 rfl ?_
    refine J_iload_n (j := 1) dX6_allFull_37 rfl rfl ?_
    refine J_iald dX6_allFull_38 sh_33 ?_
    refine J_imul dX6_allFull_39 ?_
    refine J_icmp_ge (tgt := 45) dX6_allFull_40 (by decide) ?_ ?_
    · refine J_iinc (j := 1) (b := 1) (fun v1_2 => [(1, .int v1_2), (0, .ref (llAd G 30))]) dX6_allFull_45 rfl (by decide) (by decide) (fun _ => rfl) (fun v1_2 => ?_)
      refine J_goto (tgt := 2) dX6_allFull_48 (by decide) ?_
      exact J_cut [1, 0] (lv' := [(0, .ref (llAd G 30)), (1, .int v1_2)]) rfl (fun h => h)
    · refine J_iconst (v := 0) dX6_allFull_43 (by decide) ?_
      exact J_zret dX6_allFull_44 (fun h => h)
def fx_X6_allFull_30 (u : llMem)  : Option Int32 := (loop (fx_X6_allFull_30_l2 u) llFuel 0).bind (Sum.elim (fun e3 => gB 1 (some 1)) (fun v => some ((fun v => v) v)))
set_option maxRecDepth 20000 in
theorem tj_X6_allFull_30 {G : llG} {d : Nat} (u : llMem)  : llJ G RX6 cX6_allFull 2 (some .boolean) (d + 1) (fun r => llRet G (llI r) u) 0 [(0, .ref (llAd G 30))] [] u (fx_X6_allFull_30 u ) := by
  unfold fx_X6_allFull_30
  refine J_iconst (v := 0) dX6_allFull_0 (by decide) ?_
  refine J_istore_n [(1, .int 0), (0, .ref (llAd G 30))] dX6_allFull_1 rfl (by decide) rfl ?_
  refine J_loopR (wr := (fun v => v)) (fun s' => [(0, .ref (llAd G 30)), (1, .int s')]) (fun s' => u) 51 (fun e => []) (fun e => u) (fun v => llRet G (llI v) u) (fun z => t_X6_allFull_30_l2 u z) [1, 0] rfl rfl (fun v h => h) (fun e3 => ?_)
  refine J_iconst (v := 1) dX6_allFull_51 (by decide) ?_
  exact J_zret dX6_allFull_52 (fun h => h)
theorem t_X6_allFull_30 (l : Launch) (F : llFix) (d : Nat) (u : llMem)  : llCp l F yX6_allFull cX6_allFull 2 (some .boolean) (d + 1) [.ref (F.2.2.1 30)] u llI (fx_X6_allFull_30 u ) := llCp.of (by decide +kernel) (by exact Nat.le_of_ble_eq_true rfl) (fun G h1 h2 => by subst h1; subst h2; exact tj_X6_allFull_30 u )
def fx_X6_read_30_j67_b25 (u : llMem)  : Option ((llMem × Int32) ⊕ ((llMem) ⊕ (llMem × Int32))) := gB 1 (some (.inr (.inr (u, 1))))
set_option maxRecDepth 20000 in
theorem t_X6_read_30_j67_b25 {G : llG} {d : Nat} (u : llMem)  : llJ G RX6 cX6_read 3 (some .boolean) (d + 5) (Sum.elim (fun s' => llJq G 3 25 [(0, .ref (llAd G 30)), (1, .int s'.2)] [] s'.1) (Sum.elim (fun e => llJq G 3 150 [(0, .ref (llAd G 30))] [] e) (fun v => llRet G (llI v.2) v.1))) 67 [] [] u (fx_X6_read_30_j67_b25 u ) := by
  unfold fx_X6_read_30_j67_b25
  refine J_iconst (v := 1) dX6_read_67 (by decide) ?_
  refine J_goto (tgt := 72) dX6_read_68 (by decide) ?_
  exact J_zret dX6_read_72 (fun h => h)
def fx_X6_read_30_l25  (s : llMem × Int32) : Option ((llMem × Int32) ⊕ ((llMem) ⊕ (llMem × Int32))) := (if 700 < s.2 then some (.inr (.inl s.1)) else bd (fx_X9_next_1 s.1 ) (fun u4 _ => (if ¬ (u4.1 1 2) = 0 then (fx_X9_isWord_1 u4 465558725996).bind (fun r5 => (if r5 = 0 then (fx_X9_isWord_1 u4 1668052322).bind (fun r6 => (if r6 = 0 then bd (fx_X9_fail_1 u4 1) (fun u7 r8 => fx_X6_read_30_j138_b25 u7 s.2 r8) else bd (fx_X6_readClub_30 u4 (u4.1 31 5)) (fun u10 r11 => fx_X6_read_30_j138_b25 u10 s.2 r11))) else bd (fx_X6_readLevel_30 u4 (u4.1 31 0)) (fun u12 r13 => fx_X6_read_30_j138_b25 u12 s.2 r13))) else (fx_X6_allFull_30 u4 ).bind (fun r14 => (if ¬ r14 = 0 then fx_X6_read_30_j67_b25 u4  else bd (fx_X9_fail_1 u4 5) (fun u15 r16 => (if r16 = 0 then gB 0 (some (.inr (.inr (u15, 0)))) else fx_X6_read_30_j67_b25 u15 )))))))
set_option maxRecDepth 20000 in
theorem t_X6_read_30_l25 {G : llG} {d : Nat}  (s : llMem × Int32) : llJ G RX6 cX6_read 3 (some .boolean) (d + 5) (Sum.elim (fun s' => llJq G 3 25 [(0, .ref (llAd G 30)), (1, .int s'.2)] [] s'.1) (Sum.elim (fun e => llJq G 3 150 [(0, .ref (llAd G 30))] [] e) (fun v => llRet G (llI v.2) v.1))) 25 [(0, .ref (llAd G 30)), (1, .int s.2)] [] s.1 (fx_X6_read_30_l25 s) := by
  unfold fx_X6_read_30_l25
  refine J_iload_n (j := 1) dX6_read_25 rfl rfl ?_
  refine J_sipush (v := 700) dX6_read_26 (by decide) ?_
  refine J_icmp_gt (tgt := 150) dX6_read_29 (by decide) ?_ ?_
  · exact J_cut [0] (lv' := [(0, .ref (llAd G 30))]) rfl (fun h => h)
  · refine J_aload_n (j := 0) dX6_read_32 rfl rfl ?_
    refine J_getR (b := 1) dX6_read_33 fl_X6_9 sh_30 rfl ?_
    refine J_callVv0 dX6_read_36 (t_X9_next_1 (llL G) (llFx G) (d + 3) s.1 ) ym_X9_next wd_515 sh_1 rfl (Nat.le_of_ble_eq_true rfl) (fun u4 => ?_)
    refine J_aload_n (j := 0) dX6_read_39 rfl rfl ?_
    refine J_getR (b := 1) dX6_read_40 fl_X6_9 sh_30 rfl ?_
    refine J_getI dX6_read_43 fl_X6_37 sh_1 rfl ?_
    refine J_if_ne (tgt := 73) dX6_read_46 (by decide) ?_ ?_
    · refine J_aload_n (j := 0) dX6_read_73 rfl rfl ?_
      refine J_getR (b := 1) dX6_read_74 fl_X6_9 sh_30 rfl ?_
      refine J_ldc2 (v := 465558725996) dX6_read_77 wd_539 ?_
      refine J_callVip1 dX6_read_80 (t_X9_isWord_1 (llL G) (llFx G) (d + 4) u4 465558725996) ym_X9_isWord wd_540 sh_1 rfl (Nat.le_of_ble_eq_true rfl) (fun r5 => ?_)
      refine J_if_eq (tgt := 101) dX6_read_83 (by decide) ?_ ?_
      · refine J_aload_n (j := 0) dX6_read_101 rfl rfl ?_
        refine J_getR (b := 1) dX6_read_102 fl_X6_9 sh_30 rfl ?_
        refine J_ldc2 (v := 1668052322) dX6_read_105 wd_573 ?_
        refine J_callVip1 dX6_read_108 (t_X9_isWord_1 (llL G) (llFx G) (d + 4) u4 1668052322) ym_X9_isWord wd_540 sh_1 rfl (Nat.le_of_ble_eq_true rfl) (fun r6 => ?_)
        refine J_if_eq (tgt := 129) dX6_read_111 (by decide) ?_ ?_
        · refine J_aload_n (j := 0) dX6_read_129 rfl rfl ?_
          refine J_getR (b := 1) dX6_read_130 fl_X6_9 sh_30 rfl ?_
          refine J_iconst (v := 1) dX6_read_133 (by decide) ?_
          refine J_callVi1 dX6_read_134 (t_X9_fail_1 (llL G) (llFx G) (d + 4) u4 1) ym_X9_fail wd_535 sh_1 rfl (Nat.le_of_ble_eq_true rfl) (fun u7 r8 => ?_)
          refine J_istore_n [(2, .int r8), (0, .ref (llAd G 30)), (1, .int s.2)] dX6_read_137 rfl (by decide) rfl ?_
          refine J_sub [1, 2, 0] (lv' := [(0, .ref (llAd G 30)), (1, .int s.2), (2, .int r8)]) rfl ?_
          exact t_X6_read_30_j138_b25 u7 s.2 r8
        · refine J_aload_n (j := 0) dX6_read_114 rfl rfl ?_
          refine J_aload_n (j := 0) dX6_read_115 rfl rfl ?_
          refine J_getR (b := 31) dX6_read_116 fl_X6_18 sh_30 rfl ?_
          refine J_getI dX6_read_119 fl_X6_26 sh_31 rfl ?_
          refine J_callVi1 dX6_read_122 (t_X6_readClub_30 (llL G) (llFx G) d u4 (u4.1 31 5)) ym_X6_readClub wd_574 sh_30 rfl (Nat.le_of_ble_eq_true rfl) (fun u10 r11 => ?_)
          refine J_istore_n [(2, .int r11), (0, .ref (llAd G 30)), (1, .int s.2)] dX6_read_125 rfl (by decide) rfl ?_
          refine J_goto (tgt := 138) dX6_read_126 (by decide) ?_
          refine J_sub [1, 2, 0] (lv' := [(0, .ref (llAd G 30)), (1, .int s.2), (2, .int r11)]) rfl ?_
          exact t_X6_read_30_j138_b25 u10 s.2 r11
      · refine J_aload_n (j := 0) dX6_read_86 rfl rfl ?_
        refine J_aload_n (j := 0) dX6_read_87 rfl rfl ?_
        refine J_getR (b := 31) dX6_read_88 fl_X6_18 sh_30 rfl ?_
        refine J_getI dX6_read_91 fl_X6_22 sh_31 rfl ?_
        refine J_callVi1 dX6_read_94 (t_X6_readLevel_30 (llL G) (llFx G) (d + 1) u4 (u4.1 31 0)) ym_X6_readLevel wd_544 sh_30 rfl (Nat.le_of_ble_eq_true rfl) (fun u12 r13 => ?_)
        refine J_istore_n [(2, .int r13), (0, .ref (llAd G 30)), (1, .int s.2)] dX6_read_97 rfl (by decide) rfl ?_
        refine J_goto (tgt := 138) dX6_read_98 (by decide) ?_
        refine J_sub [1, 2, 0] (lv' := [(0, .ref (llAd G 30)), (1, .int s.2), (2, .int r13)]) rfl ?_
        exact t_X6_read_30_j138_b25 u12 s.2 r13
    · refine J_aload_n (j := 0) dX6_read_49 rfl rfl ?_
      refine J_callVip0 dX6_read_50 (t_X6_allFull_30 (llL G) (llFx G) (d + 3) u4 ) ym_X6_allFull wd_527 sh_30 rfl (Nat.le_of_ble_eq_true rfl) (fun r14 => ?_)
      refine J_if_ne (tgt := 67) dX6_read_53 (by decide) ?_ ?_
      · refine J_sub [] (lv' := []) rfl ?_
        exact t_X6_read_30_j67_b25 u4 
      · refine J_aload_n (j := 0) dX6_read_56 rfl rfl ?_
        refine J_getR (b := 1) dX6_read_57 fl_X6_9 sh_30 rfl ?_
        refine J_iconst (v := 5) dX6_read_60 (by decide) ?_
        refine J_callVi1 dX6_read_61 (t_X9_fail_1 (llL G) (llFx G) (d + 4) u4 5) ym_X9_fail wd_535 sh_1 rfl (Nat.le_of_ble_eq_true rfl) (fun u15 r16 => ?_)
        refine J_if_eq (tgt := 71) dX6_read_64 (by decide) ?_ ?_
        · refine J_iconst (v := 0) dX6_read_71 (by decide) ?_
          exact J_zret dX6_read_72 (fun h => h)
        · refine J_sub [] (lv' := []) rfl ?_
          exact t_X6_read_30_j67_b25 u15 
def fx_X6_read_30 (u : llMem)  : Option (llMem × Int32) := lt (llSI u 31 0 0) (fun u1 => lt (llSI u1 31 5 0) (fun u2 => bd (fx_X9_startText_1 u2 ) (fun u3 _ => (loop (fx_X6_read_30_l25) llFuel (u3, 0)).bind (Sum.elim (fun e17 => bd (fx_X9_fail_1 e17 1) (fun u18 r19 => gB r19 (some (u18, r19)))) (fun v => some ((fun v => v) v))))))
set_option maxRecDepth 20000 in
theorem tj_X6_read_30 {G : llG} {d : Nat} (u : llMem)  : llJ G RX6 cX6_read 3 (some .boolean) (d + 5) (fun r => llRet G (llI r.2) r.1) 0 [(0, .ref (llAd G 30))] [] u (fx_X6_read_30 u ) := by
  unfold fx_X6_read_30
  refine J_aload_n (j := 0) dX6_read_0 rfl rfl ?_
  refine J_getR (b := 31) dX6_read_1 fl_X6_18 sh_30 rfl ?_
  refine J_iconst (v := 0) dX6_read_4 (by decide) ?_
  refine J_putI dX6_read_5 fl_X6_22 sh_31 rfl (fun u1 => ?_)
  refine J_aload_n (j := 0) dX6_read_8 rfl rfl ?_
  refine J_getR (b := 31) dX6_read_9 fl_X6_18 sh_30 rfl ?_
  refine J_iconst (v := 0) dX6_read_12 (by decide) ?_
  refine J_putI dX6_read_13 fl_X6_26 sh_31 rfl (fun u2 => ?_)
  refine J_aload_n (j := 0) dX6_read_16 rfl rfl ?_
  refine J_getR (b := 1) dX6_read_17 fl_X6_9 sh_30 rfl ?_
  refine J_callVv0 dX6_read_20 (t_X9_startText_1 (llL G) (llFx G) (d + 4) u2 ) ym_X9_startText wd_511 sh_1 rfl (Nat.le_of_ble_eq_true rfl) (fun u3 => ?_)
  refine J_iconst (v := 0) dX6_read_23 (by decide) ?_
  refine J_istore_n [(1, .int 0), (0, .ref (llAd G 30))] dX6_read_24 rfl (by decide) rfl ?_
  refine J_loopR (wr := (fun v => v)) (fun s' => [(0, .ref (llAd G 30)), (1, .int s'.2)]) (fun s' => s'.1) 150 (fun e => [(0, .ref (llAd G 30))]) (fun e => e) (fun v => llRet G (llI v.2) v.1) (fun z => t_X6_read_30_l25 z) [1, 0] rfl rfl (fun v h => h) (fun e17 => ?_)
  refine J_aload_n (j := 0) dX6_read_150 rfl rfl ?_
  refine J_getR (b := 1) dX6_read_151 fl_X6_9 sh_30 rfl ?_
  refine J_iconst (v := 1) dX6_read_154 (by decide) ?_
  refine J_callVi1 dX6_read_155 (t_X9_fail_1 (llL G) (llFx G) (d + 4) e17 1) ym_X9_fail wd_535 sh_1 rfl (Nat.le_of_ble_eq_true rfl) (fun u18 r19 => ?_)
  exact J_zret dX6_read_158 (fun h => h)
theorem t_X6_read_30 (l : Launch) (F : llFix) (d : Nat) (u : llMem)  : llCt l F yX6_read cX6_read 3 (some .boolean) (d + 5) [.ref (F.2.2.1 30)] u llI (fx_X6_read_30 u ) := llCt.of (by decide +kernel) (by exact Nat.le_of_ble_eq_true rfl) (fun G h1 h2 => by subst h1; subst h2; exact tj_X6_read_30 u )
def fx_X5_copy_3_31 (u : llMem)  : Option (llMem × Unit) := lt (llSI u 3 0 (u.1 31 0)) (fun u1 => cpI u1 32 4 4 4 0 0 4 (fun u2 => cpI u2 33 4 5 4 0 0 4 (fun u3 => cpI u3 34 4 6 4 0 0 4 (fun u4 => cpI u4 35 4 7 4 0 0 4 (fun u5 => lt (llSI u5 3 5 (u5.1 31 5)) (fun u6 => cpL u6 36 30 8 30 0 0 30 (fun u7 => cpI u7 37 30 9 30 0 0 30 (fun u8 => cpI u8 38 30 10 30 0 0 30 (fun u9 => cpI u9 39 30 11 30 0 0 30 (fun u10 => cpI u10 40 30 12 30 0 0 30 (fun u11 => cpI u11 41 30 13 30 0 0 30 (fun u12 => some (u12, ())))))))))))))
set_option maxRecDepth 20000 in
theorem tj_X5_copy_3_31 {G : llG} {d : Nat} (u : llMem)  : llJ G RX5 cX5_copy 2 none d (fun r => llRet G (llVd r.2) r.1) 0 [(0, .ref (llAd G 3)), (1, .ref (llAd G 31))] [] u (fx_X5_copy_3_31 u ) := by
  unfold fx_X5_copy_3_31
  refine J_aload_n (j := 0) dX5_copy_0 rfl rfl ?_
  refine J_aload_n (j := 1) dX5_copy_1 rfl rfl ?_
  refine J_getI dX5_copy_2 fl_X5_43 sh_31 rfl ?_
  refine J_putI dX5_copy_5 fl_X5_43 sh_3 rfl (fun u1 => ?_)
  refine J_aload_n (j := 1) dX5_copy_8 rfl rfl ?_
  refine J_getR (b := 32) dX5_copy_9 fl_X5_9 sh_31 rfl ?_
  refine J_iconst (v := 0) dX5_copy_12 (by decide) ?_
  refine J_aload_n (j := 0) dX5_copy_13 rfl rfl ?_
  refine J_getR (b := 4) dX5_copy_14 fl_X5_9 sh_3 rfl ?_
  refine J_iconst (v := 0) dX5_copy_17 (by decide) ?_
  refine J_iconst (v := 4) dX5_copy_18 (by decide) ?_
  refine J_cpI dX5_copy_19 wd_620 wd_622 wd_621 wd_15 sh_32 sh_4 (Nat.le_of_ble_eq_true rfl) (fun u2 => ?_)
  refine J_aload_n (j := 1) dX5_copy_22 rfl rfl ?_
  refine J_getR (b := 33) dX5_copy_23 fl_X5_15 sh_31 rfl ?_
  refine J_iconst (v := 0) dX5_copy_26 (by decide) ?_
  refine J_aload_n (j := 0) dX5_copy_27 rfl rfl ?_
  refine J_getR (b := 5) dX5_copy_28 fl_X5_15 sh_3 rfl ?_
  refine J_iconst (v := 0) dX5_copy_31 (by decide) ?_
  refine J_iconst (v := 4) dX5_copy_32 (by decide) ?_
  refine J_cpI dX5_copy_33 wd_620 wd_622 wd_621 wd_15 sh_33 sh_5 (Nat.le_of_ble_eq_true rfl) (fun u3 => ?_)
  refine J_aload_n (j := 1) dX5_copy_36 rfl rfl ?_
  refine J_getR (b := 34) dX5_copy_37 fl_X5_18 sh_31 rfl ?_
  refine J_iconst (v := 0) dX5_copy_40 (by decide) ?_
  refine J_aload_n (j := 0) dX5_copy_41 rfl rfl ?_
  refine J_getR (b := 6) dX5_copy_42 fl_X5_18 sh_3 rfl ?_
  refine J_iconst (v := 0) dX5_copy_45 (by decide) ?_
  refine J_iconst (v := 4) dX5_copy_46 (by decide) ?_
  refine J_cpI dX5_copy_47 wd_620 wd_622 wd_621 wd_15 sh_34 sh_6 (Nat.le_of_ble_eq_true rfl) (fun u4 => ?_)
  refine J_aload_n (j := 1) dX5_copy_50 rfl rfl ?_
  refine J_getR (b := 35) dX5_copy_51 fl_X5_21 sh_31 rfl ?_
  refine J_iconst (v := 0) dX5_copy_54 (by decide) ?_
  refine J_aload_n (j := 0) dX5_copy_55 rfl rfl ?_
  refine J_getR (b := 7) dX5_copy_56 fl_X5_21 sh_3 rfl ?_
  refine J_iconst (v := 0) dX5_copy_59 (by decide) ?_
  refine J_iconst (v := 4) dX5_copy_60 (by decide) ?_
  refine J_cpI dX5_copy_61 wd_620 wd_622 wd_621 wd_15 sh_35 sh_7 (Nat.le_of_ble_eq_true rfl) (fun u5 => ?_)
  refine J_aload_n (j := 0) dX5_copy_64 rfl rfl ?_
  refine J_aload_n (j := 1) dX5_copy_65 rfl rfl ?_
  refine J_getI dX5_copy_66 fl_X5_53 sh_31 rfl ?_
  refine J_putI dX5_copy_69 fl_X5_53 sh_3 rfl (fun u6 => ?_)
  refine J_aload_n (j := 1) dX5_copy_72 rfl rfl ?_
  refine J_getR (b := 36) dX5_copy_73 fl_X5_24 sh_31 rfl ?_
  refine J_iconst (v := 0) dX5_copy_76 (by decide) ?_
  refine J_aload_n (j := 0) dX5_copy_77 rfl rfl ?_
  refine J_getR (b := 8) dX5_copy_78 fl_X5_24 sh_3 rfl ?_
  refine J_iconst (v := 0) dX5_copy_81 (by decide) ?_
  refine J_bipush (v := 30) dX5_copy_82 (by decide) ?_
  refine J_cpL dX5_copy_84 wd_620 wd_622 wd_621 wd_15 sh_36 sh_8 (Nat.le_of_ble_eq_true rfl) (fun u7 => ?_)
  refine J_aload_n (j := 1) dX5_copy_87 rfl rfl ?_
  refine J_getR (b := 37) dX5_copy_88 fl_X5_28 sh_31 rfl ?_
  refine J_iconst (v := 0) dX5_copy_91 (by decide) ?_
  refine J_aload_n (j := 0) dX5_copy_92 rfl rfl ?_
  refine J_getR (b := 9) dX5_copy_93 fl_X5_28 sh_3 rfl ?_
  refine J_iconst (v := 0) dX5_copy_96 (by decide) ?_
  refine J_bipush (v := 30) dX5_copy_97 (by decide) ?_
  refine J_cpI dX5_copy_99 wd_620 wd_622 wd_621 wd_15 sh_37 sh_9 (Nat.le_of_ble_eq_true rfl) (fun u8 => ?_)
  refine J_aload_n (j := 1) dX5_copy_102 rfl rfl ?_
  refine J_getR (b := 38) dX5_copy_103 fl_X5_31 sh_31 rfl ?_
  refine J_iconst (v := 0) dX5_copy_106 (by decide) ?_
  refine J_aload_n (j := 0) dX5_copy_107 rfl rfl ?_
  refine J_getR (b := 10) dX5_copy_108 fl_X5_31 sh_3 rfl ?_
  refine J_iconst (v := 0) dX5_copy_111 (by decide) ?_
  refine J_bipush (v := 30) dX5_copy_112 (by decide) ?_
  refine J_cpI dX5_copy_114 wd_620 wd_622 wd_621 wd_15 sh_38 sh_10 (Nat.le_of_ble_eq_true rfl) (fun u9 => ?_)
  refine J_aload_n (j := 1) dX5_copy_117 rfl rfl ?_
  refine J_getR (b := 39) dX5_copy_118 fl_X5_34 sh_31 rfl ?_
  refine J_iconst (v := 0) dX5_copy_121 (by decide) ?_
  refine J_aload_n (j := 0) dX5_copy_122 rfl rfl ?_
  refine J_getR (b := 11) dX5_copy_123 fl_X5_34 sh_3 rfl ?_
  refine J_iconst (v := 0) dX5_copy_126 (by decide) ?_
  refine J_bipush (v := 30) dX5_copy_127 (by decide) ?_
  refine J_cpI dX5_copy_129 wd_620 wd_622 wd_621 wd_15 sh_39 sh_11 (Nat.le_of_ble_eq_true rfl) (fun u10 => ?_)
  refine J_aload_n (j := 1) dX5_copy_132 rfl rfl ?_
  refine J_getR (b := 40) dX5_copy_133 fl_X5_37 sh_31 rfl ?_
  refine J_iconst (v := 0) dX5_copy_136 (by decide) ?_
  refine J_aload_n (j := 0) dX5_copy_137 rfl rfl ?_
  refine J_getR (b := 12) dX5_copy_138 fl_X5_37 sh_3 rfl ?_
  refine J_iconst (v := 0) dX5_copy_141 (by decide) ?_
  refine J_bipush (v := 30) dX5_copy_142 (by decide) ?_
  refine J_cpI dX5_copy_144 wd_620 wd_622 wd_621 wd_15 sh_40 sh_12 (Nat.le_of_ble_eq_true rfl) (fun u11 => ?_)
  refine J_aload_n (j := 1) dX5_copy_147 rfl rfl ?_
  refine J_getR (b := 41) dX5_copy_148 fl_X5_40 sh_31 rfl ?_
  refine J_iconst (v := 0) dX5_copy_151 (by decide) ?_
  refine J_aload_n (j := 0) dX5_copy_152 rfl rfl ?_
  refine J_getR (b := 13) dX5_copy_153 fl_X5_40 sh_3 rfl ?_
  refine J_iconst (v := 0) dX5_copy_156 (by decide) ?_
  refine J_bipush (v := 30) dX5_copy_157 (by decide) ?_
  refine J_cpI dX5_copy_159 wd_620 wd_622 wd_621 wd_15 sh_41 sh_13 (Nat.le_of_ble_eq_true rfl) (fun u12 => ?_)
  exact J_vret dX5_copy_162 (fun h => h)
theorem t_X5_copy_3_31 (l : Launch) (F : llFix) (d : Nat) (u : llMem)  : llCt l F yX5_copy cX5_copy 2 none d [.ref (F.2.2.1 3), .ref (F.2.2.1 31)] u llVd (fx_X5_copy_3_31 u ) := llCt.of (by decide +kernel) (by exact Nat.le_of_ble_eq_true rfl) (fun G h1 h2 => by subst h1; subst h2; exact tj_X5_copy_3_31 u )
def fx_X10_rootOf_j23_b6 (u : llMem) (v0 : Int32) (v1 : Int32) (v2 : Int32) : Option ((Int32 × Int32) ⊕ (Int32)) := lt (v2 >>> (1 &&& 31)) (fun v2_2 => some (.inl (v1, v2_2)))
set_option maxRecDepth 20000 in
theorem t_X10_rootOf_j23_b6 {G : llG} {d : Nat} (u : llMem) (v0 : Int32) (v1 : Int32) (v2 : Int32) : llJ G RX10 cX10_rootOf 4 (some .int) d (Sum.elim (fun s' => llJq G 4 6 [(0, .int v0), (1, .int s'.1), (2, .int s'.2)] [] u) (fun e => llJq G 4 30 [(1, .int e)] [] u)) 23 [(0, .int v0), (1, .int v1), (2, .int v2)] [] u (fx_X10_rootOf_j23_b6 u v0 v1 v2) := by
  unfold fx_X10_rootOf_j23_b6
  refine J_iload_n (j := 2) dX10_rootOf_23 rfl rfl ?_
  refine J_iconst (v := 1) dX10_rootOf_24 (by decide) ?_
  refine J_ishr dX10_rootOf_25 ?_
  refine J_istore_nL (fun v2_2 => [(2, .int v2_2), (0, .int v0), (1, .int v1)]) dX10_rootOf_26 rfl (by decide) (fun _ => rfl) (fun v2_2 => ?_)
  refine J_goto (tgt := 6) dX10_rootOf_27 (by decide) ?_
  exact J_cut [1, 2, 0] (lv' := [(0, .int v0), (1, .int v1), (2, .int v2_2)]) rfl (fun h => h)
def fx_X10_rootOf_l6 (u : llMem) (v0 : Int32) (s : Int32 × Int32) : Option ((Int32 × Int32) ⊕ (Int32)) := (if s.2 ≤ 0 then some (.inr s.1) else lt (s.1 + s.2) (fun v3_1 => (if v0 < (v3_1 * v3_1) then fx_X10_rootOf_j23_b6 u v0 s.1 s.2 else fx_X10_rootOf_j23_b6 u v0 v3_1 s.2)))
set_option maxRecDepth 20000 in
theorem t_X10_rootOf_l6 {G : llG} {d : Nat} (u : llMem) (v0 : Int32) (s : Int32 × Int32) : llJ G RX10 cX10_rootOf 4 (some .int) d (Sum.elim (fun s' => llJq G 4 6 [(0, .int v0), (1, .int s'.1), (2, .int s'.2)] [] u) (fun e => llJq G 4 30 [(1, .int e)] [] u)) 6 [(0, .int v0), (1, .int s.1), (2, .int s.2)] [] u (fx_X10_rootOf_l6 u v0 s) := by
  unfold fx_X10_rootOf_l6
  refine J_iload_n (j := 2) dX10_rootOf_6 rfl rfl ?_
  refine J_if_le (tgt := 30) dX10_rootOf_7 (by decide) ?_ ?_
  · exact J_cut [1] (lv' := [(1, .int s.1)]) rfl (fun h => h)
  · refine J_iload_n (j := 1) dX10_rootOf_10 rfl rfl ?_
    refine J_iload_n (j := 2) dX10_rootOf_11 rfl rfl ?_
    refine J_iadd dX10_rootOf_12 ?_
    refine J_istore_nL (fun v3_1 => [(3, .int v3_1), (0, .int v0), (1, .int s.1), (2, .int s.2)]) dX10_rootOf_13 rfl (by decide) (fun _ => rfl) (fun v3_1 => ?_)
    refine J_iload_n (j := 0) dX10_rootOf_14 rfl rfl ?_
    refine J_iload_n (j := 0) dX10_rootOf_15 rfl rfl ?_
    refine J_imul dX10_rootOf_16 ?_
    refine J_iload_n (j := 1) dX10_rootOf_17 rfl rfl ?_
    refine J_icmp_gt (tgt := 23) dX10_rootOf_18 (by decide) ?_ ?_
    · refine J_sub [1, 2, 3] (lv' := [(0, .int v0), (1, .int s.1), (2, .int s.2)]) rfl ?_
      exact t_X10_rootOf_j23_b6 u v0 s.1 s.2
    · refine J_iload_n (j := 0) dX10_rootOf_21 rfl rfl ?_
      refine J_istore_n [(1, .int v3_1), (3, .int v3_1), (0, .int v0), (2, .int s.2)] dX10_rootOf_22 rfl (by decide) rfl ?_
      refine J_sub [2, 0, 3] (lv' := [(0, .int v0), (1, .int v3_1), (2, .int s.2)]) rfl ?_
      exact t_X10_rootOf_j23_b6 u v0 v3_1 s.2
def fx_X10_rootOf (u : llMem) (a0 : Int32) : Option Int32 := (loop (fx_X10_rootOf_l6 u a0) llFuel (0, 128)).bind (fun e3 => some e3)
set_option maxRecDepth 20000 in
theorem tj_X10_rootOf {G : llG} {d : Nat} (u : llMem) (a0 : Int32) : llJ G RX10 cX10_rootOf 4 (some .int) d (fun r => llRet G (llI r) u) 0 [(0, .int a0)] [] u (fx_X10_rootOf u a0) := by
  unfold fx_X10_rootOf
  refine J_iconst (v := 0) dX10_rootOf_0 (by decide) ?_
  refine J_istore_n [(1, .int 0), (0, .int a0)] dX10_rootOf_1 rfl (by decide) rfl ?_
  refine J_sipush (v := 128) dX10_rootOf_2 (by decide) ?_
  refine J_istore_n [(2, .int 128), (1, .int 0), (0, .int a0)] dX10_rootOf_5 rfl (by decide) rfl ?_
  refine J_loopE (fun s' => [(0, .int a0), (1, .int s'.1), (2, .int s'.2)]) (fun s' => u) 30 (fun e => [(1, .int e)]) (fun e => u) (fun z => t_X10_rootOf_l6 u a0 z) [2, 1, 0] rfl rfl (fun e3 => ?_)
  refine J_iload_n (j := 0) dX10_rootOf_30 rfl rfl ?_
  exact J_iret dX10_rootOf_31 (fun h => h)
theorem t_X10_rootOf (l : Launch) (F : llFix) (d : Nat) (u : llMem) (a0 : Int32) : llCp l F yX10_rootOf cX10_rootOf 4 (some .int) d [.int a0] u llI (fx_X10_rootOf u a0) := llCp.of (by decide +kernel) (by exact Nat.le_of_ble_eq_true rfl) (fun G h1 h2 => by subst h1; subst h2; exact tj_X10_rootOf u a0)
def fx_X10_measure_48_l15_b2 (v1 : Int32) (s : llMem × Int32) : Option ((llMem × Int32) ⊕ (llMem)) := (if v1 < s.2 then some (.inr s.1) else gI v1 30 (gI s.2 30 (lt ((rI s.1 9 v1) - (rI s.1 9 s.2)) (fun v3_1 => gI v1 30 (gI s.2 30 (lt ((rI s.1 10 v1) - (rI s.1 10 s.2)) (fun v4_2 => (fx_X10_rootOf s.1 ((v3_1 * v3_1) + (v4_2 * v4_2))).bind (fun r3 => gI ((v1 * 30) + s.2) 900 (lt (llSI s.1 49 (Int32.toNatClampNeg ((v1 * 30) + s.2)) r3) (fun u4 => gI ((s.2 * 30) + v1) 900 (lt (llSI u4 49 (Int32.toNatClampNeg ((s.2 * 30) + v1)) r3) (fun u5 => lt (s.2 + 1) (fun v2_6 => some (.inl (u5, v2_6)))))))))))))))
set_option maxRecDepth 20000 in
theorem t_X10_measure_48_l15_b2 {G : llG} {d : Nat} (v1 : Int32) (s : llMem × Int32) : llJ G RX10 cX10_measure 6 none (d + 1) (Sum.elim (fun s' => llJq G 6 15 [(0, .ref (llAd G 48)), (1, .int v1), (2, .int s'.2)] [] s'.1) (fun e => llJq G 6 107 [(0, .ref (llAd G 48)), (1, .int v1)] [] e)) 15 [(0, .ref (llAd G 48)), (1, .int v1), (2, .int s.2)] [] s.1 (fx_X10_measure_48_l15_b2 v1 s) := by
  unfold fx_X10_measure_48_l15_b2
  refine J_iload_n (j := 2) dX10_measure_15 rfl rfl ?_
  refine J_iload_n (j := 1) dX10_measure_16 rfl rfl ?_
  refine J_icmp_gt (tgt := 107) dX10_measure_17 (by decide) ?_ ?_
  · exact J_cut [0, 1] (lv' := [(0, .ref (llAd G 48)), (1, .int v1)]) rfl (fun h => h)
  · refine J_aload_n (j := 0) dX10_measure_20 rfl rfl ?_
    refine J_getR (b := 3) dX10_measure_21 fl_X10_9 sh_48 rfl ?_
    refine J_getR (b := 9) dX10_measure_24 fl_X10_31 sh_3 rfl ?_
    refine J_iload_n (j := 1) dX10_measure_27 rfl rfl ?_
    refine J_iald dX10_measure_28 sh_9 ?_
    refine J_aload_n (j := 0) dX10_measure_29 rfl rfl ?_
    refine J_getR (b := 3) dX10_measure_30 fl_X10_9 sh_48 rfl ?_
    refine J_getR (b := 9) dX10_measure_33 fl_X10_31 sh_3 rfl ?_
    refine J_iload_n (j := 2) dX10_measure_36 rfl rfl ?_
    refine J_iald dX10_measure_37 sh_9 ?_
    refine J_isub dX10_measure_38 ?_
    refine J_istore_nL (fun v3_1 => [(3, .int v3_1), (0, .ref (llAd G 48)), (1, .int v1), (2, .int s.2)]) dX10_measure_39 rfl (by decide) (fun _ => rfl) (fun v3_1 => ?_)
    refine J_aload_n (j := 1) dX10_measure_40 rfl rfl ?_
    refine J_getR (b := 3) dX10_measure_41 fl_X10_9 sh_48 rfl ?_
    refine J_getR (b := 10) dX10_measure_44 fl_X10_34 sh_3 rfl ?_
    refine J_iload_n (j := 2) dX10_measure_47 rfl rfl ?_
    refine J_iald dX10_measure_48 sh_10 ?_
    refine J_aload_n (j := 1) dX10_measure_49 rfl rfl ?_
    refine J_getR (b := 3) dX10_measure_50 fl_X10_9 sh_48 rfl ?_
    refine J_getR (b := 10) dX10_measure_53 fl_X10_34 sh_3 rfl ?_
    refine J_iload_n (j := 3) dX10_measure_56 rfl rfl ?_
    refine J_iald dX10_measure_57 sh_10 ?_
    refine J_isub dX10_measure_58 ?_
    refine J_istoreL (fun v4_2 => [(4, .int v4_2), (3, .int v3_1), (0, .ref (llAd G 48)), (1, .int v1), (2, .int s.2)]) dX10_measure_59 (by decide) (fun _ => rfl) (fun v4_2 => ?_)
    refine J_iload_n (j := 1) dX10_measure_61 rfl rfl ?_
    refine J_iload_n (j := 1) dX10_measure_62 rfl rfl ?_
    refine J_imul dX10_measure_63 ?_
    refine J_iload (j := 0) dX10_measure_64 rfl ?_
    refine J_iload (j := 0) dX10_measure_66 rfl ?_
    refine J_imul dX10_measure_68 ?_
    refine J_iadd dX10_measure_69 ?_
    refine J_callSip1 dX10_measure_70 (t_X10_rootOf (llL G) (llFx G) d s.1 ((v3_1 * v3_1) + (v4_2 * v4_2))) ym_X10_rootOf wd_627 (Nat.le_of_ble_eq_true rfl) (fun r3 => ?_)
    refine J_istore [(5, .int r3), (4, .int v4_2), (3, .int v3_1), (0, .ref (llAd G 48)), (1, .int v1), (2, .int s.2)] dX10_measure_73 (by decide) rfl ?_
    refine J_aload_n (j := 3) dX10_measure_75 rfl rfl ?_
    refine J_getR (b := 49) dX10_measure_76 fl_X10_15 sh_48 rfl ?_
    refine J_iload_n (j := 4) dX10_measure_79 rfl rfl ?_
    refine J_bipush (v := 30) dX10_measure_80 (by decide) ?_
    refine J_imul dX10_measure_82 ?_
    refine J_iload_n (j := 5) dX10_measure_83 rfl rfl ?_
    refine J_iadd dX10_measure_84 ?_
    refine J_iload (j := 0) dX10_measure_85 rfl ?_
    refine J_iast dX10_measure_87 sh_49 (fun u4 => ?_)
    refine J_aload_n (j := 3) dX10_measure_88 rfl rfl ?_
    refine J_getR (b := 49) dX10_measure_89 fl_X10_15 sh_48 rfl ?_
    refine J_iload_n (j := 5) dX10_measure_92 rfl rfl ?_
    refine J_bipush (v := 30) dX10_measure_93 (by decide) ?_
    refine J_imul dX10_measure_95 ?_
    refine J_iload_n (j := 4) dX10_measure_96 rfl rfl ?_
    refine J_iadd dX10_measure_97 ?_
    refine J_iload (j := 0) dX10_measure_98 rfl ?_
    refine J_iast dX10_measure_100 sh_49 (fun u5 => ?_)
    refine J_iinc (j := 5) (b := 1) (fun v2_6 => [(2, .int v2_6), (5, .int r3), (4, .int v4_2), (3, .int v3_1), (0, .ref (llAd G 48)), (1, .int v1)]) dX10_measure_101 rfl (by decide) (by decide) (fun _ => rfl) (fun v2_6 => ?_)
    refine J_goto (tgt := 15) dX10_measure_104 (by decide) ?_
    exact J_cut [4, 5, 0] (lv' := [(0, .ref (llAd G 48)), (1, .int v1), (2, .int v2_6)]) rfl (fun h => h)
def fx_X10_measure_48_l2  (s : llMem × Int32) : Option ((llMem × Int32) ⊕ (llMem)) := (if (s.1.1 3 5) ≤ s.2 then some (.inr s.1) else (loop (fx_X10_measure_48_l15_b2 s.2) llFuel (s.1, 0)).bind (fun e7 => lt (s.2 + 1) (fun v1_8 => some (.inl (e7, v1_8)))))
set_option maxRecDepth 20000 in
theorem t_X10_measure_48_l2 {G : llG} {d : Nat}  (s : llMem × Int32) : llJ G RX10 cX10_measure 6 none (d + 1) (Sum.elim (fun s' => llJq G 6 2 [(0, .ref (llAd G 48)), (1, .int s'.2)] [] s'.1) (fun e => llJq G 6 113 [] [] e)) 2 [(0, .ref (llAd G 48)), (1, .int s.2)] [] s.1 (fx_X10_measure_48_l2 s) := by
  unfold fx_X10_measure_48_l2
  refine J_iload_n (j := 1) dX10_measure_2 rfl rfl ?_
  refine J_aload_n (j := 0) dX10_measure_3 rfl rfl ?_
  refine J_getR (b := 3) dX10_measure_4 fl_X10_9 sh_48 rfl ?_
  refine J_getI dX10_measure_7 fl_X10_25 sh_3 rfl ?_
  refine J_icmp_ge (tgt := 113) dX10_measure_10 (by decide) ?_ ?_
  · exact J_cut [] (lv' := []) rfl (fun h => h)
  · refine J_iconst (v := 0) dX10_measure_13 (by decide) ?_
    refine J_istore_n [(2, .int 0), (0, .ref (llAd G 48)), (1, .int s.2)] dX10_measure_14 rfl (by decide) rfl ?_
    refine J_loopE (fun s' => [(0, .ref (llAd G 48)), (1, .int s.2), (2, .int s'.2)]) (fun s' => s'.1) 107 (fun e => [(0, .ref (llAd G 48)), (1, .int s.2)]) (fun e => e) (fun z => t_X10_measure_48_l15_b2 s.2 z) [1, 2, 0] rfl rfl (fun e7 => ?_)
    refine J_iinc (j := 1) (b := 1) (fun v1_8 => [(1, .int v1_8), (0, .ref (llAd G 48))]) dX10_measure_107 rfl (by decide) (by decide) (fun _ => rfl) (fun v1_8 => ?_)
    refine J_goto (tgt := 2) dX10_measure_110 (by decide) ?_
    exact J_cut [1, 0] (lv' := [(0, .ref (llAd G 48)), (1, .int v1_8)]) rfl (fun h => h)
def fx_X10_measure_48 (u : llMem)  : Option (llMem × Unit) := (loop (fx_X10_measure_48_l2) llFuel (u, 0)).bind (fun e9 => some (e9, ()))
set_option maxRecDepth 20000 in
theorem tj_X10_measure_48 {G : llG} {d : Nat} (u : llMem)  : llJ G RX10 cX10_measure 6 none (d + 1) (fun r => llRet G (llVd r.2) r.1) 0 [(0, .ref (llAd G 48))] [] u (fx_X10_measure_48 u ) := by
  unfold fx_X10_measure_48
  refine J_iconst (v := 0) dX10_measure_0 (by decide) ?_
  refine J_istore_n [(1, .int 0), (0, .ref (llAd G 48))] dX10_measure_1 rfl (by decide) rfl ?_
  refine J_loopE (fun s' => [(0, .ref (llAd G 48)), (1, .int s'.2)]) (fun s' => s'.1) 113 (fun e => []) (fun e => e) (fun z => t_X10_measure_48_l2 z) [1, 0] rfl rfl (fun e9 => ?_)
  exact J_vret dX10_measure_113 (fun h => h)
theorem t_X10_measure_48 (l : Launch) (F : llFix) (d : Nat) (u : llMem)  : llCt l F yX10_measure cX10_measure 6 none (d + 1) [.ref (F.2.2.1 48)] u llVd (fx_X10_measure_48 u ) := llCt.of (by decide +kernel) (by exact Nat.le_of_ble_eq_true rfl) (fun G h1 h2 => by subst h1; subst h2; exact tj_X10_measure_48 u )
def fx_J7_fill_53178_53_l5 (v1 : Int32) (v3 : Int32) (s : llMem × Int32) : Option ((llMem × Int32) ⊕ (llMem)) := (if v3 ≤ s.2 then some (.inr s.1) else gI s.2 4 (lt (llSI s.1 53 (Int32.toNatClampNeg s.2) v1) (fun u1 => lt (s.2 + 1) (fun v2_2 => some (.inl (u1, v2_2))))))
set_option maxRecDepth 20000 in
theorem t_J7_fill_53178_53_l5 {G : llG} {d : Nat} (v1 : Int32) (v3 : Int32) (s : llMem × Int32) : llJ G RJ7 cJ7_fill_53178 4 none d (Sum.elim (fun s' => llJq G 4 5 [(0, .ref (llAd G 53)), (1, .int v1), (2, .int s'.2), (3, .int v3)] [] s'.1) (fun e => llJq G 4 20 [] [] e)) 5 [(0, .ref (llAd G 53)), (1, .int v1), (2, .int s.2), (3, .int v3)] [] s.1 (fx_J7_fill_53178_53_l5 v1 v3 s) := by
  unfold fx_J7_fill_53178_53_l5
  refine J_iload_n (j := 2) dJ7_fill_53178_5 rfl rfl ?_
  refine J_iload_n (j := 3) dJ7_fill_53178_6 rfl rfl ?_
  refine J_icmp_ge (tgt := 20) dJ7_fill_53178_7 (by decide) ?_ ?_
  · exact J_cut [] (lv' := []) rfl (fun h => h)
  · refine J_aload_n (j := 0) dJ7_fill_53178_10 rfl rfl ?_
    refine J_iload_n (j := 2) dJ7_fill_53178_11 rfl rfl ?_
    refine J_iload_n (j := 1) dJ7_fill_53178_12 rfl rfl ?_
    refine J_iast dJ7_fill_53178_13 sh_53 (fun u1 => ?_)
    refine J_iinc (j := 2) (b := 1) (fun v2_2 => [(2, .int v2_2), (0, .ref (llAd G 53)), (1, .int v1), (3, .int v3)]) dJ7_fill_53178_14 rfl (by decide) (by decide) (fun _ => rfl) (fun v2_2 => ?_)
    refine J_goto (tgt := 5) dJ7_fill_53178_17 (by decide) ?_
    exact J_cut [1, 2, 0, 3] (lv' := [(0, .ref (llAd G 53)), (1, .int v1), (2, .int v2_2), (3, .int v3)]) rfl (fun h => h)
def fx_J7_fill_53178_53 (u : llMem) (a1 : Int32) : Option (llMem × Unit) := (loop (fx_J7_fill_53178_53_l5 a1 4) llFuel (u, 0)).bind (fun e3 => some (e3, ()))
set_option maxRecDepth 20000 in
theorem tj_J7_fill_53178_53 {G : llG} {d : Nat} (u : llMem) (a1 : Int32) : llJ G RJ7 cJ7_fill_53178 4 none d (fun r => llRet G (llVd r.2) r.1) 0 [(0, .ref (llAd G 53)), (1, .int a1)] [] u (fx_J7_fill_53178_53 u a1) := by
  unfold fx_J7_fill_53178_53
  refine J_iconst (v := 0) dJ7_fill_53178_0 (by decide) ?_
  refine J_istore_n [(2, .int 0), (0, .ref (llAd G 53)), (1, .int a1)] dJ7_fill_53178_1 rfl (by decide) rfl ?_
  refine J_aload_n (j := 1) dJ7_fill_53178_2 rfl rfl ?_
  refine J_alen (v := 4) dJ7_fill_53178_3 sh_53 (by decide) (by decide) ?_
  refine J_istore_n [(3, .int 4), (2, .int 0), (0, .ref (llAd G 53)), (1, .int a1)] dJ7_fill_53178_4 rfl (by decide) rfl ?_
  refine J_loopE (fun s' => [(0, .ref (llAd G 53)), (1, .int a1), (2, .int s'.2), (3, .int 4)]) (fun s' => s'.1) 20 (fun e => []) (fun e => e) (fun z => t_J7_fill_53178_53_l5 a1 4 z) [2, 3, 1, 0] rfl rfl (fun e3 => ?_)
  exact J_vret dJ7_fill_53178_20 (fun h => h)
theorem t_J7_fill_53178_53 (l : Launch) (F : llFix) (d : Nat) (u : llMem) (a1 : Int32) : llCt l F yJ7_fill_53178 cJ7_fill_53178 4 none d [.ref (F.2.2.1 53), .int a1] u llVd (fx_J7_fill_53178_53 u a1) := llCt.of (by decide +kernel) (by exact Nat.le_of_ble_eq_true rfl) (fun G h1 h2 => by subst h1; subst h2; exact tj_J7_fill_53178_53 u a1)
def fx_X4_forgetAll_52 (u : llMem)  : Option (llMem × Unit) := bd (fx_J7_fill_53178_53 u 0) (fun u1 _ => some (u1, ()))
set_option maxRecDepth 20000 in
theorem tj_X4_forgetAll_52 {G : llG} {d : Nat} (u : llMem)  : llJ G RX4 cX4_forgetAll 1 none (d + 1) (fun r => llRet G (llVd r.2) r.1) 0 [(0, .ref (llAd G 52))] [] u (fx_X4_forgetAll_52 u ) := by
  unfold fx_X4_forgetAll_52
  refine J_aload_n (j := 0) dX4_forgetAll_0 rfl rfl ?_
  refine J_getR (b := 53) dX4_forgetAll_1 fl_X4_19 sh_52 rfl ?_
  refine J_iconst (v := 0) dX4_forgetAll_4 (by decide) ?_
  refine J_callSv2 dX4_forgetAll_5 (t_J7_fill_53178_53 (llL G) (llFx G) d u 0) ym_J7_fill_53178 wd_634 (Nat.le_of_ble_eq_true rfl) (fun u1 => ?_)
  exact J_vret dX4_forgetAll_8 (fun h => h)
theorem t_X4_forgetAll_52 (l : Launch) (F : llFix) (d : Nat) (u : llMem)  : llCt l F yX4_forgetAll cX4_forgetAll 1 none (d + 1) [.ref (F.2.2.1 52)] u llVd (fx_X4_forgetAll_52 u ) := llCt.of (by decide +kernel) (by exact Nat.le_of_ble_eq_true rfl) (fun G h1 h2 => by subst h1; subst h2; exact tj_X4_forgetAll_52 u )
def fx_X7_isTold_14 (u : llMem) (a0 : Int32) (a1 : Int32) : Option Int32 := gI ((a0 * 30) + a1) 900 ((if (rI u 17 ((a0 * 30) + a1)) = ((-1)) then gB 0 (some 0) else gB 1 (some 1)))
set_option maxRecDepth 20000 in
theorem tj_X7_isTold_14 {G : llG} {d : Nat} (u : llMem) (a0 : Int32) (a1 : Int32) : llJ G RX7 cX7_isTold 3 (some .boolean) d (fun r => llRet G (llI r) u) 0 [(0, .ref (llAd G 14)), (1, .int a0), (2, .int a1)] [] u (fx_X7_isTold_14 u a0 a1) := by
  unfold fx_X7_isTold_14
  refine J_aload_n (j := 0) dX7_isTold_0 rfl rfl ?_
  refine J_getR (b := 17) dX7_isTold_1 fl_X7_18 sh_14 rfl ?_
  refine J_iload_n (j := 1) dX7_isTold_4 rfl rfl ?_
  refine J_bipush (v := 30) dX7_isTold_5 (by decide) ?_
  refine J_imul dX7_isTold_7 ?_
  refine J_iload_n (j := 2) dX7_isTold_8 rfl rfl ?_
  refine J_iadd dX7_isTold_9 ?_
  refine J_iald dX7_isTold_10 sh_17 ?_
  refine J_iconst (v := (-1)) dX7_isTold_11 (by decide) ?_
  refine J_icmp_eq (tgt := 19) dX7_isTold_12 (by decide) ?_ ?_
  · refine J_iconst (v := 0) dX7_isTold_19 (by decide) ?_
    exact J_zret dX7_isTold_20 (fun h => h)
  · refine J_iconst (v := 1) dX7_isTold_15 (by decide) ?_
    refine J_goto (tgt := 20) dX7_isTold_16 (by decide) ?_
    exact J_zret dX7_isTold_20 (fun h => h)
theorem t_X7_isTold_14 (l : Launch) (F : llFix) (d : Nat) (u : llMem) (a0 : Int32) (a1 : Int32) : llCp l F yX7_isTold cX7_isTold 3 (some .boolean) d [.ref (F.2.2.1 14), .int a0, .int a1] u llI (fx_X7_isTold_14 u a0 a1) := llCp.of (by decide +kernel) (by exact Nat.le_of_ble_eq_true rfl) (fun G h1 h2 => by subst h1; subst h2; exact tj_X7_isTold_14 u a0 a1)
def fx_X7_homeGoals_14 (u : llMem) (a0 : Int32) (a1 : Int32) : Option Int32 := (fx_X7_isTold_14 u a0 a1).bind (fun r1 => (if r1 = 0 then some ((-1)) else gI ((a0 * 30) + a1) 900 (gZ 100 (some ((rI u 17 ((a0 * 30) + a1)) / 100)))))
set_option maxRecDepth 20000 in
theorem tj_X7_homeGoals_14 {G : llG} {d : Nat} (u : llMem) (a0 : Int32) (a1 : Int32) : llJ G RX7 cX7_homeGoals 3 (some .int) (d + 1) (fun r => llRet G (llI r) u) 0 [(0, .ref (llAd G 14)), (1, .int a0), (2, .int a1)] [] u (fx_X7_homeGoals_14 u a0 a1) := by
  unfold fx_X7_homeGoals_14
  refine J_aload_n (j := 0) dX7_homeGoals_0 rfl rfl ?_
  refine J_iload_n (j := 1) dX7_homeGoals_1 rfl rfl ?_
  refine J_iload_n (j := 2) dX7_homeGoals_2 rfl rfl ?_
  refine J_callVip2 dX7_homeGoals_3 (t_X7_isTold_14 (llL G) (llFx G) d u a0 a1) ym_X7_isTold wd_647 sh_14 rfl (Nat.le_of_ble_eq_true rfl) (fun r1 => ?_)
  refine J_if_eq (tgt := 26) dX7_homeGoals_6 (by decide) ?_ ?_
  · refine J_iconst (v := (-1)) dX7_homeGoals_26 (by decide) ?_
    exact J_iret dX7_homeGoals_27 (fun h => h)
  · refine J_aload_n (j := 0) dX7_homeGoals_9 rfl rfl ?_
    refine J_getR (b := 17) dX7_homeGoals_10 fl_X7_18 sh_14 rfl ?_
    refine J_iload_n (j := 1) dX7_homeGoals_13 rfl rfl ?_
    refine J_bipush (v := 30) dX7_homeGoals_14 (by decide) ?_
    refine J_imul dX7_homeGoals_16 ?_
    refine J_iload_n (j := 2) dX7_homeGoals_17 rfl rfl ?_
    refine J_iadd dX7_homeGoals_18 ?_
    refine J_iald dX7_homeGoals_19 sh_17 ?_
    refine J_bipush (v := 100) dX7_homeGoals_20 (by decide) ?_
    refine J_idiv dX7_homeGoals_22 ?_
    refine J_goto (tgt := 27) dX7_homeGoals_23 (by decide) ?_
    exact J_iret dX7_homeGoals_27 (fun h => h)
theorem t_X7_homeGoals_14 (l : Launch) (F : llFix) (d : Nat) (u : llMem) (a0 : Int32) (a1 : Int32) : llCp l F yX7_homeGoals cX7_homeGoals 3 (some .int) (d + 1) [.ref (F.2.2.1 14), .int a0, .int a1] u llI (fx_X7_homeGoals_14 u a0 a1) := llCp.of (by decide +kernel) (by exact Nat.le_of_ble_eq_true rfl) (fun G h1 h2 => by subst h1; subst h2; exact tj_X7_homeGoals_14 u a0 a1)
def fx_X7_awayGoals_14 (u : llMem) (a0 : Int32) (a1 : Int32) : Option Int32 := (fx_X7_isTold_14 u a0 a1).bind (fun r1 => (if r1 = 0 then some ((-1)) else gI ((a0 * 30) + a1) 900 (gZ 100 (some ((rI u 17 ((a0 * 30) + a1)) - (rI u 17 ((a0 * 30) + a1)) / 100 * 100)))))
set_option maxRecDepth 20000 in
theorem tj_X7_awayGoals_14 {G : llG} {d : Nat} (u : llMem) (a0 : Int32) (a1 : Int32) : llJ G RX7 cX7_awayGoals 3 (some .int) (d + 1) (fun r => llRet G (llI r) u) 0 [(0, .ref (llAd G 14)), (1, .int a0), (2, .int a1)] [] u (fx_X7_awayGoals_14 u a0 a1) := by
  unfold fx_X7_awayGoals_14
  refine J_aload_n (j := 0) dX7_awayGoals_0 rfl rfl ?_
  refine J_iload_n (j := 1) dX7_awayGoals_1 rfl rfl ?_
  refine J_iload_n (j := 2) dX7_awayGoals_2 rfl rfl ?_
  refine J_callVip2 dX7_awayGoals_3 (t_X7_isTold_14 (llL G) (llFx G) d u a0 a1) ym_X7_isTold wd_647 sh_14 rfl (Nat.le_of_ble_eq_true rfl) (fun r1 => ?_)
  refine J_if_eq (tgt := 26) dX7_awayGoals_6 (by decide) ?_ ?_
  · refine J_iconst (v := (-1)) dX7_awayGoals_26 (by decide) ?_
    exact J_iret dX7_awayGoals_27 (fun h => h)
  · refine J_aload_n (j := 0) dX7_awayGoals_9 rfl rfl ?_
    refine J_getR (b := 17) dX7_awayGoals_10 fl_X7_18 sh_14 rfl ?_
    refine J_iload_n (j := 1) dX7_awayGoals_13 rfl rfl ?_
    refine J_bipush (v := 30) dX7_awayGoals_14 (by decide) ?_
    refine J_imul dX7_awayGoals_16 ?_
    refine J_iload_n (j := 2) dX7_awayGoals_17 rfl rfl ?_
    refine J_iadd dX7_awayGoals_18 ?_
    refine J_iald dX7_awayGoals_19 sh_17 ?_
    refine J_bipush (v := 100) dX7_awayGoals_20 (by decide) ?_
    refine J_irem dX7_awayGoals_22 ?_
    refine J_goto (tgt := 27) dX7_awayGoals_23 (by decide) ?_
    exact J_iret dX7_awayGoals_27 (fun h => h)
theorem t_X7_awayGoals_14 (l : Launch) (F : llFix) (d : Nat) (u : llMem) (a0 : Int32) (a1 : Int32) : llCp l F yX7_awayGoals cX7_awayGoals 3 (some .int) (d + 1) [.ref (F.2.2.1 14), .int a0, .int a1] u llI (fx_X7_awayGoals_14 u a0 a1) := llCp.of (by decide +kernel) (by exact Nat.le_of_ble_eq_true rfl) (fun G h1 h2 => by subst h1; subst h2; exact tj_X7_awayGoals_14 u a0 a1)
def fx_X7_tally_14 (u : llMem) (a0 : Int32) (a1 : Int32) (a2 : Int32) (a3 : Int32) : Option (llMem × Unit) := gI a0 30 (gI a0 30 (lt (llSI u 21 (Int32.toNatClampNeg a0) ((rI u 21 a0) + a3)) (fun u1 => gI a0 30 (gI a0 30 (lt (llSI u1 24 (Int32.toNatClampNeg a0) ((rI u1 24 a0) + (a1 * a3))) (fun u2 => gI a0 30 (gI a0 30 (lt (llSI u2 25 (Int32.toNatClampNeg a0) ((rI u2 25 a0) + (a2 * a3))) (fun u3 => (if a1 ≤ a2 then (if ¬ a1 = a2 then some (u3, ()) else gI a0 30 (gI a0 30 (lt (llSI u3 23 (Int32.toNatClampNeg a0) ((rI u3 23 a0) + a3)) (fun u4 => some (u4, ()))))) else gI a0 30 (gI a0 30 (lt (llSI u3 22 (Int32.toNatClampNeg a0) ((rI u3 22 a0) + a3)) (fun u5 => some (u5, ()))))))))))))))
set_option maxRecDepth 20000 in
theorem tj_X7_tally_14 {G : llG} {d : Nat} (u : llMem) (a0 : Int32) (a1 : Int32) (a2 : Int32) (a3 : Int32) : llJ G RX7 cX7_tally 5 none d (fun r => llRet G (llVd r.2) r.1) 0 [(0, .ref (llAd G 14)), (1, .int a0), (2, .int a1), (3, .int a2), (4, .int a3)] [] u (fx_X7_tally_14 u a0 a1 a2 a3) := by
  unfold fx_X7_tally_14
  refine J_aload_n (j := 0) dX7_tally_0 rfl rfl ?_
  refine J_getR (b := 21) dX7_tally_1 fl_X7_36 sh_14 rfl ?_
  refine J_iload_n (j := 1) dX7_tally_4 rfl rfl ?_
  refine J_dup2 dX7_tally_5 rfl rfl ?_
  refine J_iald dX7_tally_6 sh_21 ?_
  refine J_iload (j := 4) dX7_tally_7 rfl ?_
  refine J_iadd dX7_tally_9 ?_
  refine J_iast dX7_tally_10 sh_21 (fun u1 => ?_)
  refine J_aload_n (j := 0) dX7_tally_11 rfl rfl ?_
  refine J_getR (b := 24) dX7_tally_12 fl_X7_45 sh_14 rfl ?_
  refine J_iload_n (j := 1) dX7_tally_15 rfl rfl ?_
  refine J_dup2 dX7_tally_16 rfl rfl ?_
  refine J_iald dX7_tally_17 sh_24 ?_
  refine J_iload_n (j := 2) dX7_tally_18 rfl rfl ?_
  refine J_iload (j := 4) dX7_tally_19 rfl ?_
  refine J_imul dX7_tally_21 ?_
  refine J_iadd dX7_tally_22 ?_
  refine J_iast dX7_tally_23 sh_24 (fun u2 => ?_)
  refine J_aload_n (j := 0) dX7_tally_24 rfl rfl ?_
  refine J_getR (b := 25) dX7_tally_25 fl_X7_48 sh_14 rfl ?_
  refine J_iload_n (j := 1) dX7_tally_28 rfl rfl ?_
  refine J_dup2 dX7_tally_29 rfl rfl ?_
  refine J_iald dX7_tally_30 sh_25 ?_
  refine J_iload_n (j := 3) dX7_tally_31 rfl rfl ?_
  refine J_iload (j := 4) dX7_tally_32 rfl ?_
  refine J_imul dX7_tally_34 ?_
  refine J_iadd dX7_tally_35 ?_
  refine J_iast dX7_tally_36 sh_25 (fun u3 => ?_)
  refine J_iload_n (j := 2) dX7_tally_37 rfl rfl ?_
  refine J_iload_n (j := 3) dX7_tally_38 rfl rfl ?_
  refine J_icmp_le (tgt := 56) dX7_tally_39 (by decide) ?_ ?_
  · refine J_iload_n (j := 2) dX7_tally_56 rfl rfl ?_
    refine J_iload_n (j := 3) dX7_tally_57 rfl rfl ?_
    refine J_icmp_ne (tgt := 72) dX7_tally_58 (by decide) ?_ ?_
    · exact J_vret dX7_tally_72 (fun h => h)
    · refine J_aload_n (j := 0) dX7_tally_61 rfl rfl ?_
      refine J_getR (b := 23) dX7_tally_62 fl_X7_42 sh_14 rfl ?_
      refine J_iload_n (j := 1) dX7_tally_65 rfl rfl ?_
      refine J_dup2 dX7_tally_66 rfl rfl ?_
      refine J_iald dX7_tally_67 sh_23 ?_
      refine J_iload (j := 4) dX7_tally_68 rfl ?_
      refine J_iadd dX7_tally_70 ?_
      refine J_iast dX7_tally_71 sh_23 (fun u4 => ?_)
      exact J_vret dX7_tally_72 (fun h => h)
  · refine J_aload_n (j := 0) dX7_tally_42 rfl rfl ?_
    refine J_getR (b := 22) dX7_tally_43 fl_X7_39 sh_14 rfl ?_
    refine J_iload_n (j := 1) dX7_tally_46 rfl rfl ?_
    refine J_dup2 dX7_tally_47 rfl rfl ?_
    refine J_iald dX7_tally_48 sh_22 ?_
    refine J_iload (j := 4) dX7_tally_49 rfl ?_
    refine J_iadd dX7_tally_51 ?_
    refine J_iast dX7_tally_52 sh_22 (fun u5 => ?_)
    refine J_goto (tgt := 72) dX7_tally_53 (by decide) ?_
    exact J_vret dX7_tally_72 (fun h => h)
theorem t_X7_tally_14 (l : Launch) (F : llFix) (d : Nat) (u : llMem) (a0 : Int32) (a1 : Int32) (a2 : Int32) (a3 : Int32) : llCt l F yX7_tally cX7_tally 5 none d [.ref (F.2.2.1 14), .int a0, .int a1, .int a2, .int a3] u llVd (fx_X7_tally_14 u a0 a1 a2 a3) := llCt.of (by decide +kernel) (by exact Nat.le_of_ble_eq_true rfl) (fun G h1 h2 => by subst h1; subst h2; exact tj_X7_tally_14 u a0 a1 a2 a3)
