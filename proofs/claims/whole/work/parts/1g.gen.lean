def fx_X12_ranked_69_j63_b18 (u : llMem) (v1 : Int32) (v2 : Int32) (v3 : Int32) (v4 : Int32) : Option ((Int32) ⊕ ((Unit) ⊕ (llMem × Int32))) := lt (v4 + 1) (fun v4_3 => some (.inl v4_3))
set_option maxRecDepth 20000 in
theorem t_X12_ranked_69_j63_b18 {G : llG} {d : Nat} (u : llMem) (v1 : Int32) (v2 : Int32) (v3 : Int32) (v4 : Int32) : llJ G RX12 cX12_ranked 5 (some .int) (d + 6) (Sum.elim (fun s' => llJq G 5 18 [(0, .ref (llAd G 69)), (1, .int v1), (2, .int v2), (3, .int v3), (4, .int s')] [] u) (Sum.elim (fun e => llJq G 5 69 [] [] u) (fun v => llRet G (llI v.2) v.1))) 63 [(0, .ref (llAd G 69)), (1, .int v1), (2, .int v2), (3, .int v3), (4, .int v4)] [] u (fx_X12_ranked_69_j63_b18 u v1 v2 v3 v4) := by
  unfold fx_X12_ranked_69_j63_b18
  refine J_iinc (j := 4) (b := 1) (fun v4_3 => [(4, .int v4_3), (0, .ref (llAd G 69)), (1, .int v1), (2, .int v2), (3, .int v3)]) dX12_ranked_63 rfl (by decide) (by decide) (fun _ => rfl) (fun v4_3 => ?_)
  refine J_goto (tgt := 18) dX12_ranked_66 (by decide) ?_
  exact J_cut [1, 2, 3, 4, 0] (lv' := [(0, .ref (llAd G 69)), (1, .int v1), (2, .int v2), (3, .int v3), (4, .int v4_3)]) rfl (fun h => h)
def fx_X12_ranked_69_l18 (u : llMem) (v1 : Int32) (v2 : Int32) (v3 : Int32) (s : Int32) : Option ((Int32) ⊕ ((Unit) ⊕ (llMem × Int32))) := (if (u.1 69 9) ≤ s then some (.inr (.inl ())) else gI s 60 ((if ¬ (rI u 74 s) = v1 then fx_X12_ranked_69_j63_b18 u v1 v2 v3 s else gI s 60 ((if ¬ (rI u 75 s) = v2 then fx_X12_ranked_69_j63_b18 u v1 v2 v3 s else gI s 30 ((if ¬ (rI u 84 s) = v3 then fx_X12_ranked_69_j63_b18 u v1 v2 v3 s else some (.inr (.inr (u, s))))))))))
set_option maxRecDepth 20000 in
theorem t_X12_ranked_69_l18 {G : llG} {d : Nat} (u : llMem) (v1 : Int32) (v2 : Int32) (v3 : Int32) (s : Int32) : llJ G RX12 cX12_ranked 5 (some .int) (d + 6) (Sum.elim (fun s' => llJq G 5 18 [(0, .ref (llAd G 69)), (1, .int v1), (2, .int v2), (3, .int v3), (4, .int s')] [] u) (Sum.elim (fun e => llJq G 5 69 [] [] u) (fun v => llRet G (llI v.2) v.1))) 18 [(0, .ref (llAd G 69)), (1, .int v1), (2, .int v2), (3, .int v3), (4, .int s)] [] u (fx_X12_ranked_69_l18 u v1 v2 v3 s) := by
  unfold fx_X12_ranked_69_l18
  refine J_iload (j := 4) dX12_ranked_18 rfl ?_
  refine J_aload_n (j := 0) dX12_ranked_20 rfl rfl ?_
  refine J_getI dX12_ranked_21 fl_X12_263 sh_69 rfl ?_
  refine J_icmp_ge (tgt := 69) dX12_ranked_24 (by decide) ?_ ?_
  · exact J_cut [] (lv' := []) rfl (fun h => h)
  · refine J_aload_n (j := 0) dX12_ranked_27 rfl rfl ?_
    refine J_getR (b := 74) dX12_ranked_28 fl_X12_23 sh_69 rfl ?_
    refine J_iload (j := 4) dX12_ranked_31 rfl ?_
    refine J_iald dX12_ranked_33 sh_74 ?_
    refine J_iload_n (j := 1) dX12_ranked_34 rfl rfl ?_
    refine J_icmp_ne (tgt := 63) dX12_ranked_35 (by decide) ?_ ?_
    · refine J_sub [0, 1, 2, 3, 4] (lv' := [(0, .ref (llAd G 69)), (1, .int v1), (2, .int v2), (3, .int v3), (4, .int s)]) rfl ?_
      exact t_X12_ranked_69_j63_b18 u v1 v2 v3 s
    · refine J_aload_n (j := 0) dX12_ranked_38 rfl rfl ?_
      refine J_getR (b := 75) dX12_ranked_39 fl_X12_26 sh_69 rfl ?_
      refine J_iload (j := 4) dX12_ranked_42 rfl ?_
      refine J_iald dX12_ranked_44 sh_75 ?_
      refine J_iload_n (j := 2) dX12_ranked_45 rfl rfl ?_
      refine J_icmp_ne (tgt := 63) dX12_ranked_46 (by decide) ?_ ?_
      · refine J_sub [0, 1, 2, 3, 4] (lv' := [(0, .ref (llAd G 69)), (1, .int v1), (2, .int v2), (3, .int v3), (4, .int s)]) rfl ?_
        exact t_X12_ranked_69_j63_b18 u v1 v2 v3 s
      · refine J_aload_n (j := 0) dX12_ranked_49 rfl rfl ?_
        refine J_getR (b := 84) dX12_ranked_50 fl_X12_57 sh_69 rfl ?_
        refine J_iload (j := 4) dX12_ranked_53 rfl ?_
        refine J_iald dX12_ranked_55 sh_84 ?_
        refine J_iload_n (j := 3) dX12_ranked_56 rfl rfl ?_
        refine J_icmp_ne (tgt := 63) dX12_ranked_57 (by decide) ?_ ?_
        · refine J_sub [0, 1, 2, 3, 4] (lv' := [(0, .ref (llAd G 69)), (1, .int v1), (2, .int v2), (3, .int v3), (4, .int s)]) rfl ?_
          exact t_X12_ranked_69_j63_b18 u v1 v2 v3 s
        · refine J_iload (j := 4) dX12_ranked_60 rfl ?_
          exact J_iret dX12_ranked_62 (fun h => h)
def fx_X12_ranked_69 (u : llMem) (a0 : Int32) (a1 : Int32) (a2 : Int32) : Option (llMem × Int32) := (fx_X12_isDivision_69 u a0 a1).bind (fun r1 => (if ¬ r1 = 0 then bd (fx_X12_laysRanks_69 u ) (fun u2 _ => (loop (fx_X12_ranked_69_l18 u2 a0 a1 a2) llFuel 0).bind (Sum.elim (fun e4 => some (u2, (-1))) (fun v => some ((fun v => v) v)))) else some (u, (-1))))
set_option maxRecDepth 20000 in
theorem tj_X12_ranked_69 {G : llG} {d : Nat} (u : llMem) (a0 : Int32) (a1 : Int32) (a2 : Int32) : llJ G RX12 cX12_ranked 5 (some .int) (d + 6) (fun r => llRet G (llI r.2) r.1) 0 [(0, .ref (llAd G 69)), (1, .int a0), (2, .int a1), (3, .int a2)] [] u (fx_X12_ranked_69 u a0 a1 a2) := by
  unfold fx_X12_ranked_69
  refine J_aload_n (j := 0) dX12_ranked_0 rfl rfl ?_
  refine J_iload_n (j := 1) dX12_ranked_1 rfl rfl ?_
  refine J_iload_n (j := 2) dX12_ranked_2 rfl rfl ?_
  refine J_callVip2 dX12_ranked_3 (t_X12_isDivision_69 (llL G) (llFx G) (d + 3) u a0 a1) ym_X12_isDivision wd_1621 sh_69 rfl (Nat.le_of_ble_eq_true rfl) (fun r1 => ?_)
  refine J_if_ne (tgt := 11) dX12_ranked_6 (by decide) ?_ ?_
  · refine J_aload_n (j := 0) dX12_ranked_11 rfl rfl ?_
    refine J_callVv0 dX12_ranked_12 (t_X12_laysRanks_69 (llL G) (llFx G) d u ) ym_X12_laysRanks wd_1517 sh_69 rfl (Nat.le_of_ble_eq_true rfl) (fun u2 => ?_)
    refine J_iconst (v := 0) dX12_ranked_15 (by decide) ?_
    refine J_istore [(4, .int 0), (0, .ref (llAd G 69)), (1, .int a0), (2, .int a1), (3, .int a2)] dX12_ranked_16 (by decide) rfl ?_
    refine J_loopR (wr := (fun v => v)) (fun s' => [(0, .ref (llAd G 69)), (1, .int a0), (2, .int a1), (3, .int a2), (4, .int s')]) (fun s' => u2) 69 (fun e => []) (fun e => u2) (fun v => llRet G (llI v.2) v.1) (fun z => t_X12_ranked_69_l18 u2 a0 a1 a2 z) [1, 2, 3, 4, 0] rfl rfl (fun v h => h) (fun e4 => ?_)
    refine J_iconst (v := (-1)) dX12_ranked_69 (by decide) ?_
    exact J_iret dX12_ranked_70 (fun h => h)
  · refine J_iconst (v := (-1)) dX12_ranked_9 (by decide) ?_
    exact J_iret dX12_ranked_10 (fun h => h)
theorem t_X12_ranked_69 (l : Launch) (F : llFix) (d : Nat) (u : llMem) (a0 : Int32) (a1 : Int32) (a2 : Int32) : llCt l F yX12_ranked cX12_ranked 5 (some .int) (d + 6) [.ref (F.2.2.1 69), .int a0, .int a1, .int a2] u llI (fx_X12_ranked_69 u a0 a1 a2) := llCt.of (by decide +kernel) (by exact Nat.le_of_ble_eq_true rfl) (fun G h1 h2 => by subst h1; subst h2; exact tj_X12_ranked_69 u a0 a1 a2)
def fx_X11_order_0 (u : llMem) (a0 : Int32) (a1 : Int32) : Option (llMem × Int32) := (fx_X5_hasLevel_3 u a0).bind (fun r1 => (if ¬ r1 = 0 then bd (fx_X8_arrange_43 u a0) (fun u2 _ => (if a1 < 0 then some (u2, (-1)) else (if (u2.1 43 2) ≤ a1 then some (u2, (-1)) else gI a1 12 (some (u2, rI u2 44 a1))))) else some (u, (-1))))
set_option maxRecDepth 20000 in
theorem tj_X11_order_0 {G : llG} {d : Nat} (u : llMem) (a0 : Int32) (a1 : Int32) : llJ G RX11 cX11_order 3 (some .int) (d + 4) (fun r => llRet G (llI r.2) r.1) 0 [(0, .ref (llAd G 0)), (1, .int a0), (2, .int a1)] [] u (fx_X11_order_0 u a0 a1) := by
  unfold fx_X11_order_0
  refine J_aload_n (j := 0) dX11_order_0 rfl rfl ?_
  refine J_getR (b := 3) dX11_order_1 fl_X11_19 sh_0 rfl ?_
  refine J_iload_n (j := 1) dX11_order_4 rfl rfl ?_
  refine J_callVip1 dX11_order_5 (t_X5_hasLevel_3 (llL G) (llFx G) (d + 3) u a0) ym_X5_hasLevel wd_956 sh_3 rfl (Nat.le_of_ble_eq_true rfl) (fun r1 => ?_)
  refine J_if_ne (tgt := 13) dX11_order_8 (by decide) ?_ ?_
  · refine J_aload_n (j := 0) dX11_order_13 rfl rfl ?_
    refine J_getR (b := 43) dX11_order_14 fl_X11_60 sh_0 rfl ?_
    refine J_iload_n (j := 1) dX11_order_17 rfl rfl ?_
    refine J_callVv1 dX11_order_18 (t_X8_arrange_43 (llL G) (llFx G) d u a0) ym_X8_arrange wd_907 sh_43 rfl (Nat.le_of_ble_eq_true rfl) (fun u2 => ?_)
    refine J_iload_n (j := 2) dX11_order_21 rfl rfl ?_
    refine J_if_lt (tgt := 48) dX11_order_22 (by decide) ?_ ?_
    · refine J_iconst (v := (-1)) dX11_order_48 (by decide) ?_
      exact J_iret dX11_order_49 (fun h => h)
    · refine J_iload_n (j := 2) dX11_order_25 rfl rfl ?_
      refine J_aload_n (j := 0) dX11_order_26 rfl rfl ?_
      refine J_getR (b := 43) dX11_order_27 fl_X11_60 sh_0 rfl ?_
      refine J_getI dX11_order_30 fl_X11_266 sh_43 rfl ?_
      refine J_icmp_ge (tgt := 48) dX11_order_33 (by decide) ?_ ?_
      · refine J_iconst (v := (-1)) dX11_order_48 (by decide) ?_
        exact J_iret dX11_order_49 (fun h => h)
      · refine J_aload_n (j := 0) dX11_order_36 rfl rfl ?_
        refine J_getR (b := 43) dX11_order_37 fl_X11_60 sh_0 rfl ?_
        refine J_getR (b := 44) dX11_order_40 fl_X11_267 sh_43 rfl ?_
        refine J_iload_n (j := 2) dX11_order_43 rfl rfl ?_
        refine J_iald dX11_order_44 sh_44 ?_
        refine J_goto (tgt := 49) dX11_order_45 (by decide) ?_
        exact J_iret dX11_order_49 (fun h => h)
  · refine J_iconst (v := (-1)) dX11_order_11 (by decide) ?_
    exact J_iret dX11_order_12 (fun h => h)
theorem t_X11_order_0 (l : Launch) (F : llFix) (d : Nat) (u : llMem) (a0 : Int32) (a1 : Int32) : llCt l F yX11_order cX11_order 3 (some .int) (d + 4) [.ref (F.2.2.1 0), .int a0, .int a1] u llI (fx_X11_order_0 u a0 a1) := llCt.of (by decide +kernel) (by exact Nat.le_of_ble_eq_true rfl) (fun G h1 h2 => by subst h1; subst h2; exact tj_X11_order_0 u a0 a1)
def fx_X12_order_69 (u : llMem) (a0 : Int32) (a1 : Int32) : Option (llMem × Int32) := (fx_X12_isLevel_69 u a0).bind (fun r1 => (if ¬ r1 = 0 then bd (fx_X12_laysOrders_69 u ) (fun u2 _ => gI a0 4 ((fx_X12_isIn u2 (Int32.toInt64 a1) 0 (Int32.toInt64 ((rI u2 87 a0) - 1))).bind (fun r3 => (if r3 = 0 then some (u2, (-1)) else gI ((12 * a0) + a1) 48 (some (u2, rI u2 86 ((12 * a0) + a1))))))) else some (u, (-1))))
set_option maxRecDepth 20000 in
theorem tj_X12_order_69 {G : llG} {d : Nat} (u : llMem) (a0 : Int32) (a1 : Int32) : llJ G RX12 cX12_order 3 (some .int) (d + 7) (fun r => llRet G (llI r.2) r.1) 0 [(0, .ref (llAd G 69)), (1, .int a0), (2, .int a1)] [] u (fx_X12_order_69 u a0 a1) := by
  unfold fx_X12_order_69
  refine J_aload_n (j := 0) dX12_order_0 rfl rfl ?_
  refine J_iload_n (j := 1) dX12_order_1 rfl rfl ?_
  refine J_callVip1 dX12_order_2 (t_X12_isLevel_69 (llL G) (llFx G) (d + 5) u a0) ym_X12_isLevel wd_1625 sh_69 rfl (Nat.le_of_ble_eq_true rfl) (fun r1 => ?_)
  refine J_if_ne (tgt := 10) dX12_order_5 (by decide) ?_ ?_
  · refine J_aload_n (j := 0) dX12_order_10 rfl rfl ?_
    refine J_callVv0 dX12_order_11 (t_X12_laysOrders_69 (llL G) (llFx G) d u ) ym_X12_laysOrders wd_1513 sh_69 rfl (Nat.le_of_ble_eq_true rfl) (fun u2 => ?_)
    refine J_iload_n (j := 2) dX12_order_14 rfl rfl ?_
    refine J_i2l dX12_order_15 ?_
    refine J_lconst (v := 0) dX12_order_16 (by decide) ?_
    refine J_aload_n (j := 0) dX12_order_17 rfl rfl ?_
    refine J_getR (b := 87) dX12_order_18 fl_X12_67 sh_69 rfl ?_
    refine J_iload_n (j := 1) dX12_order_21 rfl rfl ?_
    refine J_iald dX12_order_22 sh_87 ?_
    refine J_iconst (v := 1) dX12_order_23 (by decide) ?_
    refine J_isub dX12_order_24 ?_
    refine J_i2l dX12_order_25 ?_
    refine J_callSip3 dX12_order_26 (t_X12_isIn (llL G) (llFx G) (d + 6) u2 (Int32.toInt64 a1) 0 (Int32.toInt64 ((rI u2 87 a0) - 1))) ym_X12_isIn wd_1313 (Nat.le_of_ble_eq_true rfl) (fun r3 => ?_)
    refine J_if_eq (tgt := 46) dX12_order_29 (by decide) ?_ ?_
    · refine J_iconst (v := (-1)) dX12_order_46 (by decide) ?_
      exact J_iret dX12_order_47 (fun h => h)
    · refine J_aload_n (j := 0) dX12_order_32 rfl rfl ?_
      refine J_getR (b := 86) dX12_order_33 fl_X12_64 sh_69 rfl ?_
      refine J_bipush (v := 12) dX12_order_36 (by decide) ?_
      refine J_iload_n (j := 1) dX12_order_38 rfl rfl ?_
      refine J_imul dX12_order_39 ?_
      refine J_iload_n (j := 2) dX12_order_40 rfl rfl ?_
      refine J_iadd dX12_order_41 ?_
      refine J_iald dX12_order_42 sh_86 ?_
      refine J_goto (tgt := 47) dX12_order_43 (by decide) ?_
      exact J_iret dX12_order_47 (fun h => h)
  · refine J_iconst (v := (-1)) dX12_order_8 (by decide) ?_
    exact J_iret dX12_order_9 (fun h => h)
theorem t_X12_order_69 (l : Launch) (F : llFix) (d : Nat) (u : llMem) (a0 : Int32) (a1 : Int32) : llCt l F yX12_order cX12_order 3 (some .int) (d + 7) [.ref (F.2.2.1 69), .int a0, .int a1] u llI (fx_X12_order_69 u a0 a1) := llCt.of (by decide +kernel) (by exact Nat.le_of_ble_eq_true rfl) (fun G h1 h2 => by subst h1; subst h2; exact tj_X12_order_69 u a0 a1)
def fx_X10_withinTwice_48_j42_b5 (u : llMem) (v1 : Int32) (v2 : Int32) (v3 : Int32) (v4 : Int32) : Option ((Int32 × Int32) ⊕ (Int32)) := lt (v4 + 1) (fun v4_2 => some (.inl (v3, v4_2)))
set_option maxRecDepth 20000 in
theorem t_X10_withinTwice_48_j42_b5 {G : llG} {d : Nat} (u : llMem) (v1 : Int32) (v2 : Int32) (v3 : Int32) (v4 : Int32) : llJ G RX10 cX10_withinTwice 5 (some .int) (d + 2) (Sum.elim (fun s' => llJq G 5 5 [(0, .ref (llAd G 48)), (1, .int v1), (2, .int v2), (3, .int s'.1), (4, .int s'.2)] [] u) (fun e => llJq G 5 48 [(3, .int e)] [] u)) 42 [(0, .ref (llAd G 48)), (1, .int v1), (2, .int v2), (3, .int v3), (4, .int v4)] [] u (fx_X10_withinTwice_48_j42_b5 u v1 v2 v3 v4) := by
  unfold fx_X10_withinTwice_48_j42_b5
  refine J_iinc (j := 4) (b := 1) (fun v4_2 => [(4, .int v4_2), (0, .ref (llAd G 48)), (1, .int v1), (2, .int v2), (3, .int v3)]) dX10_withinTwice_42 rfl (by decide) (by decide) (fun _ => rfl) (fun v4_2 => ?_)
  refine J_goto (tgt := 5) dX10_withinTwice_45 (by decide) ?_
  exact J_cut [1, 2, 3, 4, 0] (lv' := [(0, .ref (llAd G 48)), (1, .int v1), (2, .int v2), (3, .int v3), (4, .int v4_2)]) rfl (fun h => h)
def fx_X10_withinTwice_48_l5 (u : llMem) (v1 : Int32) (v2 : Int32) (s : Int32 × Int32) : Option ((Int32 × Int32) ⊕ (Int32)) := (if (u.1 3 5) ≤ s.2 then some (.inr s.1) else (fx_X5_standsIn_3 u s.2 v1 v2).bind (fun r1 => (if r1 = 0 then fx_X10_withinTwice_48_j42_b5 u v1 v2 s.1 s.2 else (fx_X10_toDivision_48 u s.2 v1 v2).bind (fun r3 => lt (s.1 + r3) (fun v3_4 => fx_X10_withinTwice_48_j42_b5 u v1 v2 v3_4 s.2)))))
set_option maxRecDepth 20000 in
theorem t_X10_withinTwice_48_l5 {G : llG} {d : Nat} (u : llMem) (v1 : Int32) (v2 : Int32) (s : Int32 × Int32) : llJ G RX10 cX10_withinTwice 5 (some .int) (d + 2) (Sum.elim (fun s' => llJq G 5 5 [(0, .ref (llAd G 48)), (1, .int v1), (2, .int v2), (3, .int s'.1), (4, .int s'.2)] [] u) (fun e => llJq G 5 48 [(3, .int e)] [] u)) 5 [(0, .ref (llAd G 48)), (1, .int v1), (2, .int v2), (3, .int s.1), (4, .int s.2)] [] u (fx_X10_withinTwice_48_l5 u v1 v2 s) := by
  unfold fx_X10_withinTwice_48_l5
  refine J_iload (j := 4) dX10_withinTwice_5 rfl ?_
  refine J_aload_n (j := 0) dX10_withinTwice_7 rfl rfl ?_
  refine J_getR (b := 3) dX10_withinTwice_8 fl_X10_9 sh_48 rfl ?_
  refine J_getI dX10_withinTwice_11 fl_X10_25 sh_3 rfl ?_
  refine J_icmp_ge (tgt := 48) dX10_withinTwice_14 (by decide) ?_ ?_
  · exact J_cut [3] (lv' := [(3, .int s.1)]) rfl (fun h => h)
  · refine J_aload_n (j := 0) dX10_withinTwice_17 rfl rfl ?_
    refine J_getR (b := 3) dX10_withinTwice_18 fl_X10_9 sh_48 rfl ?_
    refine J_iload (j := 4) dX10_withinTwice_21 rfl ?_
    refine J_iload_n (j := 1) dX10_withinTwice_23 rfl rfl ?_
    refine J_iload_n (j := 2) dX10_withinTwice_24 rfl rfl ?_
    refine J_callVip3 dX10_withinTwice_25 (t_X5_standsIn_3 (llL G) (llFx G) (d + 1) u s.2 v1 v2) ym_X5_standsIn wd_916 sh_3 rfl (Nat.le_of_ble_eq_true rfl) (fun r1 => ?_)
    refine J_if_eq (tgt := 42) dX10_withinTwice_28 (by decide) ?_ ?_
    · refine J_sub [0, 1, 2, 3, 4] (lv' := [(0, .ref (llAd G 48)), (1, .int v1), (2, .int v2), (3, .int s.1), (4, .int s.2)]) rfl ?_
      exact t_X10_withinTwice_48_j42_b5 u v1 v2 s.1 s.2
    · refine J_iload_n (j := 3) dX10_withinTwice_31 rfl rfl ?_
      refine J_aload_n (j := 0) dX10_withinTwice_32 rfl rfl ?_
      refine J_iload (j := 4) dX10_withinTwice_33 rfl ?_
      refine J_iload_n (j := 1) dX10_withinTwice_35 rfl rfl ?_
      refine J_iload_n (j := 2) dX10_withinTwice_36 rfl rfl ?_
      refine J_callVip3 dX10_withinTwice_37 (t_X10_toDivision_48 (llL G) (llFx G) d u s.2 v1 v2) ym_X10_toDivision wd_971 sh_48 rfl (Nat.le_of_ble_eq_true rfl) (fun r3 => ?_)
      refine J_iadd dX10_withinTwice_40 ?_
      refine J_istore_nL (fun v3_4 => [(3, .int v3_4), (0, .ref (llAd G 48)), (1, .int v1), (2, .int v2), (4, .int s.2)]) dX10_withinTwice_41 rfl (by decide) (fun _ => rfl) (fun v3_4 => ?_)
      refine J_sub [1, 2, 3, 0, 4] (lv' := [(0, .ref (llAd G 48)), (1, .int v1), (2, .int v2), (3, .int v3_4), (4, .int s.2)]) rfl ?_
      exact t_X10_withinTwice_48_j42_b5 u v1 v2 v3_4 s.2
def fx_X10_withinTwice_48 (u : llMem) (a0 : Int32) (a1 : Int32) : Option Int32 := (loop (fx_X10_withinTwice_48_l5 u a0 a1) llFuel (0, 0)).bind (fun e5 => some e5)
set_option maxRecDepth 20000 in
theorem tj_X10_withinTwice_48 {G : llG} {d : Nat} (u : llMem) (a0 : Int32) (a1 : Int32) : llJ G RX10 cX10_withinTwice 5 (some .int) (d + 2) (fun r => llRet G (llI r) u) 0 [(0, .ref (llAd G 48)), (1, .int a0), (2, .int a1)] [] u (fx_X10_withinTwice_48 u a0 a1) := by
  unfold fx_X10_withinTwice_48
  refine J_iconst (v := 0) dX10_withinTwice_0 (by decide) ?_
  refine J_istore_n [(3, .int 0), (0, .ref (llAd G 48)), (1, .int a0), (2, .int a1)] dX10_withinTwice_1 rfl (by decide) rfl ?_
  refine J_iconst (v := 0) dX10_withinTwice_2 (by decide) ?_
  refine J_istore [(4, .int 0), (3, .int 0), (0, .ref (llAd G 48)), (1, .int a0), (2, .int a1)] dX10_withinTwice_3 (by decide) rfl ?_
  refine J_loopE (fun s' => [(0, .ref (llAd G 48)), (1, .int a0), (2, .int a1), (3, .int s'.1), (4, .int s'.2)]) (fun s' => u) 48 (fun e => [(3, .int e)]) (fun e => u) (fun z => t_X10_withinTwice_48_l5 u a0 a1 z) [2, 3, 4, 1, 0] rfl rfl (fun e5 => ?_)
  refine J_iload_n (j := 0) dX10_withinTwice_48 rfl rfl ?_
  exact J_iret dX10_withinTwice_49 (fun h => h)
theorem t_X10_withinTwice_48 (l : Launch) (F : llFix) (d : Nat) (u : llMem) (a0 : Int32) (a1 : Int32) : llCp l F yX10_withinTwice cX10_withinTwice 5 (some .int) (d + 2) [.ref (F.2.2.1 48), .int a0, .int a1] u llI (fx_X10_withinTwice_48 u a0 a1) := llCp.of (by decide +kernel) (by exact Nat.le_of_ble_eq_true rfl) (fun G h1 h2 => by subst h1; subst h2; exact tj_X10_withinTwice_48 u a0 a1)
def fx_X10_ofLevel_48_l4 (u : llMem) (v1 : Int32) (s : Int32 × Int32) : Option ((Int32 × Int32) ⊕ (Int32)) := gI v1 4 ((if (rI u 4 v1) ≤ s.2 then some (.inr s.1) else (fx_X10_withinTwice_48 u v1 s.2).bind (fun r1 => lt (s.1 + r1) (fun v2_2 => lt (s.2 + 1) (fun v3_3 => some (.inl (v2_2, v3_3)))))))
set_option maxRecDepth 20000 in
theorem t_X10_ofLevel_48_l4 {G : llG} {d : Nat} (u : llMem) (v1 : Int32) (s : Int32 × Int32) : llJ G RX10 cX10_ofLevel 4 (some .int) (d + 3) (Sum.elim (fun s' => llJq G 4 4 [(0, .ref (llAd G 48)), (1, .int v1), (2, .int s'.1), (3, .int s'.2)] [] u) (fun e => llJq G 4 32 [(2, .int e)] [] u)) 4 [(0, .ref (llAd G 48)), (1, .int v1), (2, .int s.1), (3, .int s.2)] [] u (fx_X10_ofLevel_48_l4 u v1 s) := by
  unfold fx_X10_ofLevel_48_l4
  refine J_iload_n (j := 3) dX10_ofLevel_4 rfl rfl ?_
  refine J_aload_n (j := 0) dX10_ofLevel_5 rfl rfl ?_
  refine J_getR (b := 3) dX10_ofLevel_6 fl_X10_9 sh_48 rfl ?_
  refine J_getR (b := 4) dX10_ofLevel_9 fl_X10_53 sh_3 rfl ?_
  refine J_iload_n (j := 1) dX10_ofLevel_12 rfl rfl ?_
  refine J_iald dX10_ofLevel_13 sh_4 ?_
  refine J_icmp_ge (tgt := 32) dX10_ofLevel_14 (by decide) ?_ ?_
  · exact J_cut [2] (lv' := [(2, .int s.1)]) rfl (fun h => h)
  · refine J_iload_n (j := 2) dX10_ofLevel_17 rfl rfl ?_
    refine J_aload_n (j := 0) dX10_ofLevel_18 rfl rfl ?_
    refine J_iload_n (j := 1) dX10_ofLevel_19 rfl rfl ?_
    refine J_iload_n (j := 3) dX10_ofLevel_20 rfl rfl ?_
    refine J_callVip2 dX10_ofLevel_21 (t_X10_withinTwice_48 (llL G) (llFx G) d u v1 s.2) ym_X10_withinTwice wd_967 sh_48 rfl (Nat.le_of_ble_eq_true rfl) (fun r1 => ?_)
    refine J_iadd dX10_ofLevel_24 ?_
    refine J_istore_nL (fun v2_2 => [(2, .int v2_2), (0, .ref (llAd G 48)), (1, .int v1), (3, .int s.2)]) dX10_ofLevel_25 rfl (by decide) (fun _ => rfl) (fun v2_2 => ?_)
    refine J_iinc (j := 3) (b := 1) (fun v3_3 => [(3, .int v3_3), (2, .int v2_2), (0, .ref (llAd G 48)), (1, .int v1)]) dX10_ofLevel_26 rfl (by decide) (by decide) (fun _ => rfl) (fun v3_3 => ?_)
    refine J_goto (tgt := 4) dX10_ofLevel_29 (by decide) ?_
    exact J_cut [2, 3, 1, 0] (lv' := [(0, .ref (llAd G 48)), (1, .int v1), (2, .int v2_2), (3, .int v3_3)]) rfl (fun h => h)
def fx_X10_ofLevel_48 (u : llMem) (a0 : Int32) : Option Int32 := (loop (fx_X10_ofLevel_48_l4 u a0) llFuel (0, 0)).bind (fun e4 => gZ 2 (some (e4 / 2)))
set_option maxRecDepth 20000 in
theorem tj_X10_ofLevel_48 {G : llG} {d : Nat} (u : llMem) (a0 : Int32) : llJ G RX10 cX10_ofLevel 4 (some .int) (d + 3) (fun r => llRet G (llI r) u) 0 [(0, .ref (llAd G 48)), (1, .int a0)] [] u (fx_X10_ofLevel_48 u a0) := by
  unfold fx_X10_ofLevel_48
  refine J_iconst (v := 0) dX10_ofLevel_0 (by decide) ?_
  refine J_istore_n [(2, .int 0), (0, .ref (llAd G 48)), (1, .int a0)] dX10_ofLevel_1 rfl (by decide) rfl ?_
  refine J_iconst (v := 0) dX10_ofLevel_2 (by decide) ?_
  refine J_istore_n [(3, .int 0), (2, .int 0), (0, .ref (llAd G 48)), (1, .int a0)] dX10_ofLevel_3 rfl (by decide) rfl ?_
  refine J_loopE (fun s' => [(0, .ref (llAd G 48)), (1, .int a0), (2, .int s'.1), (3, .int s'.2)]) (fun s' => u) 32 (fun e => [(2, .int e)]) (fun e => u) (fun z => t_X10_ofLevel_48_l4 u a0 z) [2, 3, 1, 0] rfl rfl (fun e4 => ?_)
  refine J_iload_n (j := 0) dX10_ofLevel_32 rfl rfl ?_
  refine J_iconst (v := 2) dX10_ofLevel_33 (by decide) ?_
  refine J_idiv dX10_ofLevel_34 ?_
  exact J_iret dX10_ofLevel_35 (fun h => h)
theorem t_X10_ofLevel_48 (l : Launch) (F : llFix) (d : Nat) (u : llMem) (a0 : Int32) : llCp l F yX10_ofLevel cX10_ofLevel 4 (some .int) (d + 3) [.ref (F.2.2.1 48), .int a0] u llI (fx_X10_ofLevel_48 u a0) := llCp.of (by decide +kernel) (by exact Nat.le_of_ble_eq_true rfl) (fun G h1 h2 => by subst h1; subst h2; exact tj_X10_ofLevel_48 u a0)
def fx_X11_level_0 (u : llMem) (a0 : Int32) (a1 : Int32) : Option (llMem × Int32) := (fx_X5_hasLevel_3 u a0).bind (fun r1 => (if ¬ r1 = 0 then (if a1 = 0 then gI a0 4 (some (u, rI u 4 a0)) else if a1 = 1 then gI a0 4 (some (u, rI u 5 a0)) else if a1 = 2 then gI a0 4 (some (u, rI u 6 a0)) else if a1 = 3 then gI a0 4 (some (u, rI u 7 a0)) else if a1 = 4 then (fx_X3_wantingOf_63 u a0).bind (fun r2 => some (u, r2)) else if a1 = 5 then (fx_X3_mayRiseFrom_63 u a0).bind (fun r3 => some (u, r3)) else if a1 = 6 then (fx_X10_ofLevel_48 u a0).bind (fun r4 => some (u, r4)) else if a1 = 7 then bd (fx_X4_partAnew_52 u a0) (fun u5 _ => gI a0 4 (some (u5, rI u5 54 a0))) else some (u, (-1))) else some (u, (-1))))
set_option maxRecDepth 20000 in
theorem tj_X11_level_0 {G : llG} {d : Nat} (u : llMem) (a0 : Int32) (a1 : Int32) : llJ G RX11 cX11_level 3 (some .int) (d + 44) (fun r => llRet G (llI r.2) r.1) 0 [(0, .ref (llAd G 0)), (1, .int a0), (2, .int a1)] [] u (fx_X11_level_0 u a0 a1) := by
  unfold fx_X11_level_0
  refine J_aload_n (j := 0) dX11_level_0 rfl rfl ?_
  refine J_getR (b := 3) dX11_level_1 fl_X11_19 sh_0 rfl ?_
  refine J_iload_n (j := 1) dX11_level_4 rfl rfl ?_
  refine J_callVip1 dX11_level_5 (t_X5_hasLevel_3 (llL G) (llFx G) (d + 43) u a0) ym_X5_hasLevel wd_956 sh_3 rfl (Nat.le_of_ble_eq_true rfl) (fun r1 => ?_)
  refine J_if_ne (tgt := 13) dX11_level_8 (by decide) ?_ ?_
  · refine J_iload_n (j := 2) dX11_level_13 rfl rfl ?_
    refine J_case (fun hq0 => ?_) (fun hn0 => ?_)
    · refine J_tableIn (tgt := 60) hq0 dX11_level_14 (by decide) (by decide) rfl (by decide) ?_
      refine J_aload_n (j := 0) dX11_level_60 rfl rfl ?_
      refine J_getR (b := 3) dX11_level_61 fl_X11_19 sh_0 rfl ?_
      refine J_getR (b := 4) dX11_level_64 fl_X11_270 sh_3 rfl ?_
      refine J_iload_n (j := 1) dX11_level_67 rfl rfl ?_
      refine J_iald dX11_level_68 sh_4 ?_
      exact J_iret dX11_level_69 (fun h => h)
    refine J_case (fun hq1 => ?_) (fun hn1 => ?_)
    · refine J_tableIn (tgt := 70) hq1 dX11_level_14 (by decide) (by decide) rfl (by decide) ?_
      refine J_aload_n (j := 0) dX11_level_70 rfl rfl ?_
      refine J_getR (b := 3) dX11_level_71 fl_X11_19 sh_0 rfl ?_
      refine J_getR (b := 5) dX11_level_74 fl_X11_273 sh_3 rfl ?_
      refine J_iload_n (j := 1) dX11_level_77 rfl rfl ?_
      refine J_iald dX11_level_78 sh_5 ?_
      exact J_iret dX11_level_79 (fun h => h)
    refine J_case (fun hq2 => ?_) (fun hn2 => ?_)
    · refine J_tableIn (tgt := 80) hq2 dX11_level_14 (by decide) (by decide) rfl (by decide) ?_
      refine J_aload_n (j := 0) dX11_level_80 rfl rfl ?_
      refine J_getR (b := 3) dX11_level_81 fl_X11_19 sh_0 rfl ?_
      refine J_getR (b := 6) dX11_level_84 fl_X11_276 sh_3 rfl ?_
      refine J_iload_n (j := 1) dX11_level_87 rfl rfl ?_
      refine J_iald dX11_level_88 sh_6 ?_
      exact J_iret dX11_level_89 (fun h => h)
    refine J_case (fun hq3 => ?_) (fun hn3 => ?_)
    · refine J_tableIn (tgt := 90) hq3 dX11_level_14 (by decide) (by decide) rfl (by decide) ?_
      refine J_aload_n (j := 0) dX11_level_90 rfl rfl ?_
      refine J_getR (b := 3) dX11_level_91 fl_X11_19 sh_0 rfl ?_
      refine J_getR (b := 7) dX11_level_94 fl_X11_279 sh_3 rfl ?_
      refine J_iload_n (j := 1) dX11_level_97 rfl rfl ?_
      refine J_iald dX11_level_98 sh_7 ?_
      exact J_iret dX11_level_99 (fun h => h)
    refine J_case (fun hq4 => ?_) (fun hn4 => ?_)
    · refine J_tableIn (tgt := 100) hq4 dX11_level_14 (by decide) (by decide) rfl (by decide) ?_
      refine J_aload_n (j := 0) dX11_level_100 rfl rfl ?_
      refine J_getR (b := 63) dX11_level_101 fl_X11_87 sh_0 rfl ?_
      refine J_iload_n (j := 1) dX11_level_104 rfl rfl ?_
      refine J_callVip1 dX11_level_105 (t_X3_wantingOf_63 (llL G) (llFx G) (d + 41) u a0) ym_X3_wantingOf wd_961 sh_63 rfl (Nat.le_of_ble_eq_true rfl) (fun r2 => ?_)
      exact J_iret dX11_level_108 (fun h => h)
    refine J_case (fun hq5 => ?_) (fun hn5 => ?_)
    · refine J_tableIn (tgt := 109) hq5 dX11_level_14 (by decide) (by decide) rfl (by decide) ?_
      refine J_aload_n (j := 0) dX11_level_109 rfl rfl ?_
      refine J_getR (b := 63) dX11_level_110 fl_X11_87 sh_0 rfl ?_
      refine J_iload_n (j := 1) dX11_level_113 rfl rfl ?_
      refine J_callVip1 dX11_level_114 (t_X3_mayRiseFrom_63 (llL G) (llFx G) (d + 42) u a0) ym_X3_mayRiseFrom wd_962 sh_63 rfl (Nat.le_of_ble_eq_true rfl) (fun r3 => ?_)
      exact J_iret dX11_level_117 (fun h => h)
    refine J_case (fun hq6 => ?_) (fun hn6 => ?_)
    · refine J_tableIn (tgt := 118) hq6 dX11_level_14 (by decide) (by decide) rfl (by decide) ?_
      refine J_aload_n (j := 0) dX11_level_118 rfl rfl ?_
      refine J_getR (b := 48) dX11_level_119 fl_X11_69 sh_0 rfl ?_
      refine J_iload_n (j := 1) dX11_level_122 rfl rfl ?_
      refine J_callVip1 dX11_level_123 (t_X10_ofLevel_48 (llL G) (llFx G) (d + 40) u a0) ym_X10_ofLevel wd_963 sh_48 rfl (Nat.le_of_ble_eq_true rfl) (fun r4 => ?_)
      exact J_iret dX11_level_126 (fun h => h)
    refine J_case (fun hq7 => ?_) (fun hn7 => ?_)
    · refine J_tableIn (tgt := 127) hq7 dX11_level_14 (by decide) (by decide) rfl (by decide) ?_
      refine J_aload_n (j := 0) dX11_level_127 rfl rfl ?_
      refine J_getR (b := 52) dX11_level_128 fl_X11_78 sh_0 rfl ?_
      refine J_iload_n (j := 1) dX11_level_131 rfl rfl ?_
      refine J_callVv1 dX11_level_132 (t_X4_partAnew_52 (llL G) (llFx G) d u a0) ym_X4_partAnew wd_972 sh_52 rfl (Nat.le_of_ble_eq_true rfl) (fun u5 => ?_)
      refine J_aload_n (j := 0) dX11_level_135 rfl rfl ?_
      refine J_getR (b := 52) dX11_level_136 fl_X11_78 sh_0 rfl ?_
      refine J_getR (b := 54) dX11_level_139 fl_X11_294 sh_52 rfl ?_
      refine J_iload_n (j := 1) dX11_level_142 rfl rfl ?_
      refine J_iald dX11_level_143 sh_54 ?_
      exact J_iret dX11_level_144 (fun h => h)
    refine J_tableOut (tgt := 145) dX11_level_14 (llTabG (by decide) (by decide) (fun k hk1 hk2 => by rcases (show k = 0 ∨ k = 1 ∨ k = 2 ∨ k = 3 ∨ k = 4 ∨ k = 5 ∨ k = 6 ∨ k = 7 by omega) with rfl | rfl | rfl | rfl | rfl | rfl | rfl | rfl <;> assumption)) (by decide) ?_
    refine J_iconst (v := (-1)) dX11_level_145 (by decide) ?_
    exact J_iret dX11_level_146 (fun h => h)
  · refine J_iconst (v := (-1)) dX11_level_11 (by decide) ?_
    exact J_iret dX11_level_12 (fun h => h)
theorem t_X11_level_0 (l : Launch) (F : llFix) (d : Nat) (u : llMem) (a0 : Int32) (a1 : Int32) : llCt l F yX11_level cX11_level 3 (some .int) (d + 44) [.ref (F.2.2.1 0), .int a0, .int a1] u llI (fx_X11_level_0 u a0 a1) := llCt.of (by decide +kernel) (by exact Nat.le_of_ble_eq_true rfl) (fun G h1 h2 => by subst h1; subst h2; exact tj_X11_level_0 u a0 a1)
def fx_X12_milesOf_69_j49_b5 (u : llMem) (v1 : Int32) (v2 : Int32) (v4 : Int32) (t0 : Int32) (t1 : Int32) : Option ((Int32 × Int32) ⊕ (Int32)) := lt (t0 + t1) (fun v3_1 => lt (v4 + 1) (fun v4_2 => some (.inl (v3_1, v4_2))))
set_option maxRecDepth 20000 in
theorem t_X12_milesOf_69_j49_b5 {G : llG} {d : Nat} (u : llMem) (v1 : Int32) (v2 : Int32) (v4 : Int32) (t0 : Int32) (t1 : Int32) : llJ G RX12 cX12_milesOf 5 (some .int) (d + 2) (Sum.elim (fun s' => llJq G 5 5 [(0, .ref (llAd G 69)), (1, .int v1), (2, .int v2), (3, .int s'.1), (4, .int s'.2)] [] u) (fun e => llJq G 5 57 [(3, .int e)] [] u)) 49 [(0, .ref (llAd G 69)), (1, .int v1), (2, .int v2), (4, .int v4)] [.int t1, .int t0] u (fx_X12_milesOf_69_j49_b5 u v1 v2 v4 t0 t1) := by
  unfold fx_X12_milesOf_69_j49_b5
  refine J_iadd dX12_milesOf_49 ?_
  refine J_istore_nL (fun v3_1 => [(3, .int v3_1), (0, .ref (llAd G 69)), (1, .int v1), (2, .int v2), (4, .int v4)]) dX12_milesOf_50 rfl (by decide) (fun _ => rfl) (fun v3_1 => ?_)
  refine J_iinc (j := 4) (b := 1) (fun v4_2 => [(4, .int v4_2), (3, .int v3_1), (0, .ref (llAd G 69)), (1, .int v1), (2, .int v2)]) dX12_milesOf_51 rfl (by decide) (by decide) (fun _ => rfl) (fun v4_2 => ?_)
  refine J_goto (tgt := 5) dX12_milesOf_54 (by decide) ?_
  exact J_cut [2, 3, 4, 1, 0] (lv' := [(0, .ref (llAd G 69)), (1, .int v1), (2, .int v2), (3, .int v3_1), (4, .int v4_2)]) rfl (fun h => h)
def fx_X12_milesOf_69_j48_b5 (u : llMem) (v1 : Int32) (v2 : Int32) (v4 : Int32) (t0 : Int32) : Option ((Int32 × Int32) ⊕ (Int32)) := fx_X12_milesOf_69_j49_b5 u v1 v2 v4 t0 0
set_option maxRecDepth 20000 in
theorem t_X12_milesOf_69_j48_b5 {G : llG} {d : Nat} (u : llMem) (v1 : Int32) (v2 : Int32) (v4 : Int32) (t0 : Int32) : llJ G RX12 cX12_milesOf 5 (some .int) (d + 2) (Sum.elim (fun s' => llJq G 5 5 [(0, .ref (llAd G 69)), (1, .int v1), (2, .int v2), (3, .int s'.1), (4, .int s'.2)] [] u) (fun e => llJq G 5 57 [(3, .int e)] [] u)) 48 [(0, .ref (llAd G 69)), (1, .int v1), (2, .int v2), (4, .int v4)] [.int t0] u (fx_X12_milesOf_69_j48_b5 u v1 v2 v4 t0) := by
  unfold fx_X12_milesOf_69_j48_b5
  refine J_iconst (v := 0) dX12_milesOf_48 (by decide) ?_
  refine J_sub [0, 1, 2, 3] (lv' := [(0, .ref (llAd G 69)), (1, .int v1), (2, .int v2), (4, .int v4)]) rfl ?_
  exact t_X12_milesOf_69_j49_b5 u v1 v2 v4 t0 0
def fx_X12_milesOf_69_l5 (u : llMem) (v1 : Int32) (v2 : Int32) (s : Int32 × Int32) : Option ((Int32 × Int32) ⊕ (Int32)) := (if (u.1 69 9) ≤ s.2 then some (.inr s.1) else gI s.2 60 ((if ¬ (rI u 74 s.2) = v1 then fx_X12_milesOf_69_j48_b5 u v1 v2 s.2 s.1 else gI s.2 60 ((if ¬ (rI u 75 s.2) = v2 then fx_X12_milesOf_69_j48_b5 u v1 v2 s.2 s.1 else (fx_X12_milesIn_69 u s.2 v1 v2).bind (fun r3 => fx_X12_milesOf_69_j49_b5 u v1 v2 s.2 s.1 r3))))))
set_option maxRecDepth 20000 in
theorem t_X12_milesOf_69_l5 {G : llG} {d : Nat} (u : llMem) (v1 : Int32) (v2 : Int32) (s : Int32 × Int32) : llJ G RX12 cX12_milesOf 5 (some .int) (d + 2) (Sum.elim (fun s' => llJq G 5 5 [(0, .ref (llAd G 69)), (1, .int v1), (2, .int v2), (3, .int s'.1), (4, .int s'.2)] [] u) (fun e => llJq G 5 57 [(3, .int e)] [] u)) 5 [(0, .ref (llAd G 69)), (1, .int v1), (2, .int v2), (3, .int s.1), (4, .int s.2)] [] u (fx_X12_milesOf_69_l5 u v1 v2 s) := by
  unfold fx_X12_milesOf_69_l5
  refine J_iload (j := 4) dX12_milesOf_5 rfl ?_
  refine J_aload_n (j := 0) dX12_milesOf_7 rfl rfl ?_
  refine J_getI dX12_milesOf_8 fl_X12_263 sh_69 rfl ?_
  refine J_icmp_ge (tgt := 57) dX12_milesOf_11 (by decide) ?_ ?_
  · exact J_cut [3] (lv' := [(3, .int s.1)]) rfl (fun h => h)
  · refine J_iload_n (j := 3) dX12_milesOf_14 rfl rfl ?_
    refine J_aload_n (j := 0) dX12_milesOf_15 rfl rfl ?_
    refine J_getR (b := 74) dX12_milesOf_16 fl_X12_23 sh_69 rfl ?_
    refine J_iload (j := 4) dX12_milesOf_19 rfl ?_
    refine J_iald dX12_milesOf_21 sh_74 ?_
    refine J_iload_n (j := 1) dX12_milesOf_22 rfl rfl ?_
    refine J_icmp_ne (tgt := 48) dX12_milesOf_23 (by decide) ?_ ?_
    · refine J_sub [0, 1, 2, 4] (lv' := [(0, .ref (llAd G 69)), (1, .int v1), (2, .int v2), (4, .int s.2)]) rfl ?_
      exact t_X12_milesOf_69_j48_b5 u v1 v2 s.2 s.1
    · refine J_aload_n (j := 0) dX12_milesOf_26 rfl rfl ?_
      refine J_getR (b := 75) dX12_milesOf_27 fl_X12_26 sh_69 rfl ?_
      refine J_iload (j := 4) dX12_milesOf_30 rfl ?_
      refine J_iald dX12_milesOf_32 sh_75 ?_
      refine J_iload_n (j := 2) dX12_milesOf_33 rfl rfl ?_
      refine J_icmp_ne (tgt := 48) dX12_milesOf_34 (by decide) ?_ ?_
      · refine J_sub [0, 1, 2, 4] (lv' := [(0, .ref (llAd G 69)), (1, .int v1), (2, .int v2), (4, .int s.2)]) rfl ?_
        exact t_X12_milesOf_69_j48_b5 u v1 v2 s.2 s.1
      · refine J_aload_n (j := 0) dX12_milesOf_37 rfl rfl ?_
        refine J_iload (j := 4) dX12_milesOf_38 rfl ?_
        refine J_iload_n (j := 1) dX12_milesOf_40 rfl rfl ?_
        refine J_iload_n (j := 2) dX12_milesOf_41 rfl rfl ?_
        refine J_callVip3 dX12_milesOf_42 (t_X12_milesIn_69 (llL G) (llFx G) d u s.2 v1 v2) ym_X12_milesIn wd_1594 sh_69 rfl (Nat.le_of_ble_eq_true rfl) (fun r3 => ?_)
        refine J_goto (tgt := 49) dX12_milesOf_45 (by decide) ?_
        refine J_sub [0, 1, 2, 4] (lv' := [(0, .ref (llAd G 69)), (1, .int v1), (2, .int v2), (4, .int s.2)]) rfl ?_
        exact t_X12_milesOf_69_j49_b5 u v1 v2 s.2 s.1 r3
def fx_X12_milesOf_69 (u : llMem) (a0 : Int32) (a1 : Int32) : Option Int32 := (loop (fx_X12_milesOf_69_l5 u a0 a1) llFuel (0, 0)).bind (fun e4 => gZ 2 (some (e4 / 2)))
set_option maxRecDepth 20000 in
theorem tj_X12_milesOf_69 {G : llG} {d : Nat} (u : llMem) (a0 : Int32) (a1 : Int32) : llJ G RX12 cX12_milesOf 5 (some .int) (d + 2) (fun r => llRet G (llI r) u) 0 [(0, .ref (llAd G 69)), (1, .int a0), (2, .int a1)] [] u (fx_X12_milesOf_69 u a0 a1) := by
  unfold fx_X12_milesOf_69
  refine J_iconst (v := 0) dX12_milesOf_0 (by decide) ?_
  refine J_istore_n [(3, .int 0), (0, .ref (llAd G 69)), (1, .int a0), (2, .int a1)] dX12_milesOf_1 rfl (by decide) rfl ?_
  refine J_iconst (v := 0) dX12_milesOf_2 (by decide) ?_
  refine J_istore [(4, .int 0), (3, .int 0), (0, .ref (llAd G 69)), (1, .int a0), (2, .int a1)] dX12_milesOf_3 (by decide) rfl ?_
  refine J_loopE (fun s' => [(0, .ref (llAd G 69)), (1, .int a0), (2, .int a1), (3, .int s'.1), (4, .int s'.2)]) (fun s' => u) 57 (fun e => [(3, .int e)]) (fun e => u) (fun z => t_X12_milesOf_69_l5 u a0 a1 z) [2, 3, 4, 1, 0] rfl rfl (fun e4 => ?_)
  refine J_iload_n (j := 0) dX12_milesOf_57 rfl rfl ?_
  refine J_iconst (v := 2) dX12_milesOf_58 (by decide) ?_
  refine J_idiv dX12_milesOf_59 ?_
  exact J_iret dX12_milesOf_60 (fun h => h)
theorem t_X12_milesOf_69 (l : Launch) (F : llFix) (d : Nat) (u : llMem) (a0 : Int32) (a1 : Int32) : llCp l F yX12_milesOf cX12_milesOf 5 (some .int) (d + 2) [.ref (F.2.2.1 69), .int a0, .int a1] u llI (fx_X12_milesOf_69 u a0 a1) := llCp.of (by decide +kernel) (by exact Nat.le_of_ble_eq_true rfl) (fun G h1 h2 => by subst h1; subst h2; exact tj_X12_milesOf_69 u a0 a1)
def fx_X12_level_69_l47 (u : llMem) (v1 : Int32) (v2 : Int32) (s : Int32 × Int32) : Option ((Int32 × Int32) ⊕ (Int32)) := gI ((4 * v1) + 0) 32 ((if (rI u 70 ((4 * v1) + 0)) ≤ s.2 then some (.inr s.1) else (fx_X12_milesOf_69 u v1 s.2).bind (fun r4 => lt (s.1 + r4) (fun v3_5 => lt (s.2 + 1) (fun v4_6 => some (.inl (v3_5, v4_6)))))))
set_option maxRecDepth 20000 in
theorem t_X12_level_69_l47 {G : llG} {d : Nat} (u : llMem) (v1 : Int32) (v2 : Int32) (s : Int32 × Int32) : llJ G RX12 cX12_level 5 (some .int) (d + 42) (Sum.elim (fun s' => llJq G 5 47 [(0, .ref (llAd G 69)), (1, .int v1), (2, .int v2), (3, .int s'.1), (4, .int s'.2)] [] u) (fun e => llJq G 5 78 [(0, .ref (llAd G 69)), (1, .int v1), (2, .int v2), (3, .int e)] [] u)) 47 [(0, .ref (llAd G 69)), (1, .int v1), (2, .int v2), (3, .int s.1), (4, .int s.2)] [] u (fx_X12_level_69_l47 u v1 v2 s) := by
  unfold fx_X12_level_69_l47
  refine J_iload (j := 4) dX12_level_47 rfl ?_
  refine J_aload_n (j := 0) dX12_level_49 rfl rfl ?_
  refine J_getR (b := 70) dX12_level_50 fl_X12_7 sh_69 rfl ?_
  refine J_iconst (v := 4) dX12_level_53 (by decide) ?_
  refine J_iload_n (j := 1) dX12_level_54 rfl rfl ?_
  refine J_imul dX12_level_55 ?_
  refine J_iconst (v := 0) dX12_level_56 (by decide) ?_
  refine J_iadd dX12_level_57 ?_
  refine J_iald dX12_level_58 sh_70 ?_
  refine J_icmp_ge (tgt := 78) dX12_level_59 (by decide) ?_ ?_
  · exact J_cut [0, 1, 2, 3] (lv' := [(0, .ref (llAd G 69)), (1, .int v1), (2, .int v2), (3, .int s.1)]) rfl (fun h => h)
  · refine J_iload_n (j := 3) dX12_level_62 rfl rfl ?_
    refine J_aload_n (j := 0) dX12_level_63 rfl rfl ?_
    refine J_iload_n (j := 1) dX12_level_64 rfl rfl ?_
    refine J_iload (j := 4) dX12_level_65 rfl ?_
    refine J_callVip2 dX12_level_67 (t_X12_milesOf_69 (llL G) (llFx G) (d + 39) u v1 s.2) ym_X12_milesOf wd_1637 sh_69 rfl (Nat.le_of_ble_eq_true rfl) (fun r4 => ?_)
    refine J_iadd dX12_level_70 ?_
    refine J_istore_nL (fun v3_5 => [(3, .int v3_5), (0, .ref (llAd G 69)), (1, .int v1), (2, .int v2), (4, .int s.2)]) dX12_level_71 rfl (by decide) (fun _ => rfl) (fun v3_5 => ?_)
    refine J_iinc (j := 4) (b := 1) (fun v4_6 => [(4, .int v4_6), (3, .int v3_5), (0, .ref (llAd G 69)), (1, .int v1), (2, .int v2)]) dX12_level_72 rfl (by decide) (by decide) (fun _ => rfl) (fun v4_6 => ?_)
    refine J_goto (tgt := 47) dX12_level_75 (by decide) ?_
    exact J_cut [2, 3, 4, 1, 0] (lv' := [(0, .ref (llAd G 69)), (1, .int v1), (2, .int v2), (3, .int v3_5), (4, .int v4_6)]) rfl (fun h => h)
def fx_X12_level_69_j89 (u : llMem) (v1 : Int32) (v2 : Int32) (v3 : Int32) : Option ((llMem × Int32)) := (if ¬ v2 = 4 then (if ¬ v2 = 5 then (if ¬ v2 = 6 then some (u, u.1 69 43) else some (u, v3)) else (fx_X12_mayFrom_69 u v1).bind (fun r8 => some (u, r8))) else gI v1 4 (some (u, rI u 98 v1)))
set_option maxRecDepth 20000 in
theorem t_X12_level_69_j89 {G : llG} {d : Nat} (u : llMem) (v1 : Int32) (v2 : Int32) (v3 : Int32) : llJ G RX12 cX12_level 5 (some .int) (d + 42) (fun r => llRet G (llI r.2) r.1) 89 [(0, .ref (llAd G 69)), (1, .int v1), (2, .int v2), (3, .int v3)] [] u (fx_X12_level_69_j89 u v1 v2 v3) := by
  unfold fx_X12_level_69_j89
  refine J_iload_n (j := 2) dX12_level_89 rfl rfl ?_
  refine J_iconst (v := 4) dX12_level_90 (by decide) ?_
  refine J_icmp_ne (tgt := 103) dX12_level_91 (by decide) ?_ ?_
  · refine J_iload_n (j := 2) dX12_level_103 rfl rfl ?_
    refine J_iconst (v := 5) dX12_level_104 (by decide) ?_
    refine J_icmp_ne (tgt := 116) dX12_level_105 (by decide) ?_ ?_
    · refine J_iload_n (j := 2) dX12_level_116 rfl rfl ?_
      refine J_bipush (v := 6) dX12_level_117 (by decide) ?_
      refine J_icmp_ne (tgt := 126) dX12_level_119 (by decide) ?_ ?_
      · refine J_aload_n (j := 0) dX12_level_126 rfl rfl ?_
        refine J_getI dX12_level_127 fl_X12_332 sh_69 rfl ?_
        exact J_iret dX12_level_130 (fun h => h)
      · refine J_iload_n (j := 3) dX12_level_122 rfl rfl ?_
        refine J_goto (tgt := 130) dX12_level_123 (by decide) ?_
        exact J_iret dX12_level_130 (fun h => h)
    · refine J_aload_n (j := 0) dX12_level_108 rfl rfl ?_
      refine J_iload_n (j := 1) dX12_level_109 rfl rfl ?_
      refine J_callVip1 dX12_level_110 (t_X12_mayFrom_69 (llL G) (llFx G) (d + 40) u v1) ym_X12_mayFrom wd_1553 sh_69 rfl (Nat.le_of_ble_eq_true rfl) (fun r8 => ?_)
      refine J_goto (tgt := 130) dX12_level_113 (by decide) ?_
      exact J_iret dX12_level_130 (fun h => h)
  · refine J_aload_n (j := 0) dX12_level_94 rfl rfl ?_
    refine J_getR (b := 98) dX12_level_95 fl_X12_101 sh_69 rfl ?_
    refine J_iload_n (j := 1) dX12_level_98 rfl rfl ?_
    refine J_iald dX12_level_99 sh_98 ?_
    refine J_goto (tgt := 130) dX12_level_100 (by decide) ?_
    exact J_iret dX12_level_130 (fun h => h)
def fx_X12_level_69 (u : llMem) (a0 : Int32) (a1 : Int32) : Option (llMem × Int32) := (fx_X12_isLevel_69 u a0).bind (fun r1 => (if r1 = 0 then some (u, (-1)) else (fx_X12_isIn u (Int32.toInt64 a1) 0 7).bind (fun r2 => (if ¬ r2 = 0 then (if 4 ≤ a1 then bd (fx_X12_laysWanting_69 u ) (fun u3 _ => (loop (fx_X12_level_69_l47 u3 a0 a1) llFuel (0, 0)).bind (fun e7 => (if ¬ a1 = 7 then fx_X12_level_69_j89 u3 a0 a1 e7 else bd (fx_X12_laysParts_69 u3 a0) (fun u9 _ => fx_X12_level_69_j89 u9 a0 a1 e7)))) else gI ((4 * a0) + a1) 32 (some (u, rI u 70 ((4 * a0) + a1)))) else some (u, (-1))))))
set_option maxRecDepth 20000 in
theorem tj_X12_level_69 {G : llG} {d : Nat} (u : llMem) (a0 : Int32) (a1 : Int32) : llJ G RX12 cX12_level 5 (some .int) (d + 42) (fun r => llRet G (llI r.2) r.1) 0 [(0, .ref (llAd G 69)), (1, .int a0), (2, .int a1)] [] u (fx_X12_level_69 u a0 a1) := by
  unfold fx_X12_level_69
  refine J_aload_n (j := 0) dX12_level_0 rfl rfl ?_
  refine J_iload_n (j := 1) dX12_level_1 rfl rfl ?_
  refine J_callVip1 dX12_level_2 (t_X12_isLevel_69 (llL G) (llFx G) (d + 40) u a0) ym_X12_isLevel wd_1625 sh_69 rfl (Nat.le_of_ble_eq_true rfl) (fun r1 => ?_)
  refine J_if_eq (tgt := 20) dX12_level_5 (by decide) ?_ ?_
  · refine J_iconst (v := (-1)) dX12_level_20 (by decide) ?_
    exact J_iret dX12_level_21 (fun h => h)
  · refine J_iload_n (j := 2) dX12_level_8 rfl rfl ?_
    refine J_i2l dX12_level_9 ?_
    refine J_lconst (v := 0) dX12_level_10 (by decide) ?_
    refine J_ldc2 (v := 7) dX12_level_11 wd_1593 ?_
    refine J_callSip3 dX12_level_14 (t_X12_isIn (llL G) (llFx G) (d + 41) u (Int32.toInt64 a1) 0 7) ym_X12_isIn wd_1313 (Nat.le_of_ble_eq_true rfl) (fun r2 => ?_)
    refine J_if_ne (tgt := 22) dX12_level_17 (by decide) ?_ ?_
    · refine J_iload_n (j := 2) dX12_level_22 rfl rfl ?_
      refine J_iconst (v := 4) dX12_level_23 (by decide) ?_
      refine J_icmp_ge (tgt := 38) dX12_level_24 (by decide) ?_ ?_
      · refine J_aload_n (j := 0) dX12_level_38 rfl rfl ?_
        refine J_callVv0 dX12_level_39 (t_X12_laysWanting_69 (llL G) (llFx G) (d + 40) u ) ym_X12_laysWanting wd_1548 sh_69 rfl (Nat.le_of_ble_eq_true rfl) (fun u3 => ?_)
        refine J_iconst (v := 0) dX12_level_42 (by decide) ?_
        refine J_istore_n [(3, .int 0), (0, .ref (llAd G 69)), (1, .int a0), (2, .int a1)] dX12_level_43 rfl (by decide) rfl ?_
        refine J_iconst (v := 0) dX12_level_44 (by decide) ?_
        refine J_istore [(4, .int 0), (3, .int 0), (0, .ref (llAd G 69)), (1, .int a0), (2, .int a1)] dX12_level_45 (by decide) rfl ?_
        refine J_loopE (fun s' => [(0, .ref (llAd G 69)), (1, .int a0), (2, .int a1), (3, .int s'.1), (4, .int s'.2)]) (fun s' => u3) 78 (fun e => [(0, .ref (llAd G 69)), (1, .int a0), (2, .int a1), (3, .int e)]) (fun e => u3) (fun z => t_X12_level_69_l47 u3 a0 a1 z) [2, 3, 4, 1, 0] rfl rfl (fun e7 => ?_)
        refine J_iload_n (j := 2) dX12_level_78 rfl rfl ?_
        refine J_bipush (v := 7) dX12_level_79 (by decide) ?_
        refine J_icmp_ne (tgt := 89) dX12_level_81 (by decide) ?_ ?_
        · refine J_sub [0, 1, 2, 3] (lv' := [(0, .ref (llAd G 69)), (1, .int a0), (2, .int a1), (3, .int e7)]) rfl ?_
          exact t_X12_level_69_j89 u3 a0 a1 e7
        · refine J_aload_n (j := 0) dX12_level_84 rfl rfl ?_
          refine J_iload_n (j := 1) dX12_level_85 rfl rfl ?_
          refine J_callVv1 dX12_level_86 (t_X12_laysParts_69 (llL G) (llFx G) d u3 a0) ym_X12_laysParts wd_1573 sh_69 rfl (Nat.le_of_ble_eq_true rfl) (fun u9 => ?_)
          refine J_sub [0, 1, 2, 3] (lv' := [(0, .ref (llAd G 69)), (1, .int a0), (2, .int a1), (3, .int e7)]) rfl ?_
          exact t_X12_level_69_j89 u9 a0 a1 e7
      · refine J_aload_n (j := 0) dX12_level_27 rfl rfl ?_
        refine J_getR (b := 70) dX12_level_28 fl_X12_7 sh_69 rfl ?_
        refine J_iconst (v := 4) dX12_level_31 (by decide) ?_
        refine J_iload_n (j := 1) dX12_level_32 rfl rfl ?_
        refine J_imul dX12_level_33 ?_
        refine J_iload_n (j := 2) dX12_level_34 rfl rfl ?_
        refine J_iadd dX12_level_35 ?_
        refine J_iald dX12_level_36 sh_70 ?_
        exact J_iret dX12_level_37 (fun h => h)
    · refine J_iconst (v := (-1)) dX12_level_20 (by decide) ?_
      exact J_iret dX12_level_21 (fun h => h)
theorem t_X12_level_69 (l : Launch) (F : llFix) (d : Nat) (u : llMem) (a0 : Int32) (a1 : Int32) : llCt l F yX12_level cX12_level 5 (some .int) (d + 42) [.ref (F.2.2.1 69), .int a0, .int a1] u llI (fx_X12_level_69 u a0 a1) := llCt.of (by decide +kernel) (by exact Nat.le_of_ble_eq_true rfl) (fun G h1 h2 => by subst h1; subst h2; exact tj_X12_level_69 u a0 a1)
def fx_X3_mover_63 (u : llMem) (a0 : Int32) (a1 : Int32) (a2 : Int32) : Option Int32 := gI ((((a0 * 4) + a1) * 30) + a2) 480 (some (rI u 67 ((((a0 * 4) + a1) * 30) + a2)))
set_option maxRecDepth 20000 in
theorem tj_X3_mover_63 {G : llG} {d : Nat} (u : llMem) (a0 : Int32) (a1 : Int32) (a2 : Int32) : llJ G RX3 cX3_mover 4 (some .int) d (fun r => llRet G (llI r) u) 0 [(0, .ref (llAd G 63)), (1, .int a0), (2, .int a1), (3, .int a2)] [] u (fx_X3_mover_63 u a0 a1 a2) := by
  unfold fx_X3_mover_63
  refine J_aload_n (j := 0) dX3_mover_0 rfl rfl ?_
  refine J_getR (b := 67) dX3_mover_1 fl_X3_33 sh_63 rfl ?_
  refine J_iload_n (j := 1) dX3_mover_4 rfl rfl ?_
  refine J_iconst (v := 4) dX3_mover_5 (by decide) ?_
  refine J_imul dX3_mover_6 ?_
  refine J_iload_n (j := 2) dX3_mover_7 rfl rfl ?_
  refine J_iadd dX3_mover_8 ?_
  refine J_bipush (v := 30) dX3_mover_9 (by decide) ?_
  refine J_imul dX3_mover_11 ?_
  refine J_iload_n (j := 3) dX3_mover_12 rfl rfl ?_
  refine J_iadd dX3_mover_13 ?_
  refine J_iald dX3_mover_14 sh_67 ?_
  exact J_iret dX3_mover_15 (fun h => h)
theorem t_X3_mover_63 (l : Launch) (F : llFix) (d : Nat) (u : llMem) (a0 : Int32) (a1 : Int32) (a2 : Int32) : llCp l F yX3_mover cX3_mover 4 (some .int) d [.ref (F.2.2.1 63), .int a0, .int a1, .int a2] u llI (fx_X3_mover_63 u a0 a1 a2) := llCp.of (by decide +kernel) (by exact Nat.le_of_ble_eq_true rfl) (fun G h1 h2 => by subst h1; subst h2; exact tj_X3_mover_63 u a0 a1 a2)
def fx_X11_moves_0 (u : llMem) (a0 : Int32) (a1 : Int32) (a2 : Int32) : Option (llMem × Int32) := (fx_X5_hasLevel_3 u a0).bind (fun r1 => (if r1 = 0 then some (u, (-1)) else (if a1 < 0 then some (u, (-1)) else (if 3 < a1 then some (u, (-1)) else bd (fx_X3_weigh_63 u ) (fun u2 r3 => (if ¬ r3 = 0 then (fx_X3_countOf_63 u2 a0 a1).bind (fun r4 => (if ¬ a2 = ((-1)) then (if a2 < 0 then some (u2, (-1)) else (if r4 ≤ a2 then some (u2, (-1)) else (fx_X3_mover_63 u2 a0 a1 a2).bind (fun r5 => some (u2, r5)))) else some (u2, r4))) else some (u2, (-1))))))))
set_option maxRecDepth 20000 in
theorem tj_X11_moves_0 {G : llG} {d : Nat} (u : llMem) (a0 : Int32) (a1 : Int32) (a2 : Int32) : llJ G RX11 cX11_moves 5 (some .int) (d + 5) (fun r => llRet G (llI r.2) r.1) 0 [(0, .ref (llAd G 0)), (1, .int a0), (2, .int a1), (3, .int a2)] [] u (fx_X11_moves_0 u a0 a1 a2) := by
  unfold fx_X11_moves_0
  refine J_aload_n (j := 0) dX11_moves_0 rfl rfl ?_
  refine J_getR (b := 3) dX11_moves_1 fl_X11_19 sh_0 rfl ?_
  refine J_iload_n (j := 1) dX11_moves_4 rfl rfl ?_
  refine J_callVip1 dX11_moves_5 (t_X5_hasLevel_3 (llL G) (llFx G) (d + 4) u a0) ym_X5_hasLevel wd_956 sh_3 rfl (Nat.le_of_ble_eq_true rfl) (fun r1 => ?_)
  refine J_if_eq (tgt := 30) dX11_moves_8 (by decide) ?_ ?_
  · refine J_iconst (v := (-1)) dX11_moves_30 (by decide) ?_
    exact J_iret dX11_moves_31 (fun h => h)
  · refine J_iload_n (j := 2) dX11_moves_11 rfl rfl ?_
    refine J_if_lt (tgt := 30) dX11_moves_12 (by decide) ?_ ?_
    · refine J_iconst (v := (-1)) dX11_moves_30 (by decide) ?_
      exact J_iret dX11_moves_31 (fun h => h)
    · refine J_iload_n (j := 2) dX11_moves_15 rfl rfl ?_
      refine J_iconst (v := 3) dX11_moves_16 (by decide) ?_
      refine J_icmp_gt (tgt := 30) dX11_moves_17 (by decide) ?_ ?_
      · refine J_iconst (v := (-1)) dX11_moves_30 (by decide) ?_
        exact J_iret dX11_moves_31 (fun h => h)
      · refine J_aload_n (j := 0) dX11_moves_20 rfl rfl ?_
        refine J_getR (b := 63) dX11_moves_21 fl_X11_87 sh_0 rfl ?_
        refine J_callVi0 dX11_moves_24 (t_X3_weigh_63 (llL G) (llFx G) d u ) ym_X3_weigh wd_743 sh_63 rfl (Nat.le_of_ble_eq_true rfl) (fun u2 r3 => ?_)
        refine J_if_ne (tgt := 32) dX11_moves_27 (by decide) ?_ ?_
        · refine J_aload_n (j := 0) dX11_moves_32 rfl rfl ?_
          refine J_getR (b := 63) dX11_moves_33 fl_X11_87 sh_0 rfl ?_
          refine J_iload_n (j := 1) dX11_moves_36 rfl rfl ?_
          refine J_iload_n (j := 2) dX11_moves_37 rfl rfl ?_
          refine J_callVip2 dX11_moves_38 (t_X3_countOf_63 (llL G) (llFx G) (d + 4) u2 a0 a1) ym_X3_countOf wd_977 sh_63 rfl (Nat.le_of_ble_eq_true rfl) (fun r4 => ?_)
          refine J_istore [(4, .int r4), (0, .ref (llAd G 0)), (1, .int a0), (2, .int a1), (3, .int a2)] dX11_moves_41 (by decide) rfl ?_
          refine J_iload_n (j := 4) dX11_moves_43 rfl rfl ?_
          refine J_iconst (v := (-1)) dX11_moves_44 (by decide) ?_
          refine J_icmp_ne (tgt := 51) dX11_moves_45 (by decide) ?_ ?_
          · refine J_iload_n (j := 4) dX11_moves_51 rfl rfl ?_
            refine J_if_lt (tgt := 74) dX11_moves_52 (by decide) ?_ ?_
            · refine J_iconst (v := (-1)) dX11_moves_74 (by decide) ?_
              exact J_iret dX11_moves_75 (fun h => h)
            · refine J_iload_n (j := 4) dX11_moves_55 rfl rfl ?_
              refine J_iload (j := 0) dX11_moves_56 rfl ?_
              refine J_icmp_ge (tgt := 74) dX11_moves_58 (by decide) ?_ ?_
              · refine J_iconst (v := (-1)) dX11_moves_74 (by decide) ?_
                exact J_iret dX11_moves_75 (fun h => h)
              · refine J_aload_n (j := 1) dX11_moves_61 rfl rfl ?_
                refine J_getR (b := 63) dX11_moves_62 fl_X11_87 sh_0 rfl ?_
                refine J_iload_n (j := 2) dX11_moves_65 rfl rfl ?_
                refine J_iload_n (j := 3) dX11_moves_66 rfl rfl ?_
                refine J_iload_n (j := 4) dX11_moves_67 rfl rfl ?_
                refine J_callVip3 dX11_moves_68 (t_X3_mover_63 (llL G) (llFx G) (d + 4) u2 a0 a1 a2) ym_X3_mover wd_978 sh_63 rfl (Nat.le_of_ble_eq_true rfl) (fun r5 => ?_)
                refine J_goto (tgt := 75) dX11_moves_71 (by decide) ?_
                exact J_iret dX11_moves_75 (fun h => h)
          · refine J_iload (j := 0) dX11_moves_48 rfl ?_
            exact J_iret dX11_moves_50 (fun h => h)
        · refine J_iconst (v := (-1)) dX11_moves_30 (by decide) ?_
          exact J_iret dX11_moves_31 (fun h => h)
theorem t_X11_moves_0 (l : Launch) (F : llFix) (d : Nat) (u : llMem) (a0 : Int32) (a1 : Int32) (a2 : Int32) : llCt l F yX11_moves cX11_moves 5 (some .int) (d + 5) [.ref (F.2.2.1 0), .int a0, .int a1, .int a2] u llI (fx_X11_moves_0 u a0 a1 a2) := llCt.of (by decide +kernel) (by exact Nat.le_of_ble_eq_true rfl) (fun G h1 h2 => by subst h1; subst h2; exact tj_X11_moves_0 u a0 a1 a2)
def fx_X12_moves_69_j225_b157 (u : llMem) (v1 : Int32) (v2 : Int32) (v3 : Int32) (v4 : Int32) (v5 : Int32) : Option ((Int32 × Int32) ⊕ ((Int32) ⊕ (llMem × Int32))) := lt (v5 + 1) (fun v5_7 => some (.inl (v4, v5_7)))
set_option maxRecDepth 20000 in
theorem t_X12_moves_69_j225_b157 {G : llG} {d : Nat} (u : llMem) (v1 : Int32) (v2 : Int32) (v3 : Int32) (v4 : Int32) (v5 : Int32) : llJ G RX12 cX12_moves 7 (some .int) (d + 8) (Sum.elim (fun s' => llJq G 7 157 [(0, .ref (llAd G 69)), (1, .int v1), (2, .int v2), (3, .int v3), (4, .int s'.1), (5, .int s'.2)] [] u) (Sum.elim (fun e => llJq G 7 231 [(3, .int v3), (4, .int e)] [] u) (fun v => llRet G (llI v.2) v.1))) 225 [(0, .ref (llAd G 69)), (1, .int v1), (2, .int v2), (3, .int v3), (4, .int v4), (5, .int v5)] [] u (fx_X12_moves_69_j225_b157 u v1 v2 v3 v4 v5) := by
  unfold fx_X12_moves_69_j225_b157
  refine J_iinc (j := 5) (b := 1) (fun v5_7 => [(5, .int v5_7), (0, .ref (llAd G 69)), (1, .int v1), (2, .int v2), (3, .int v3), (4, .int v4)]) dX12_moves_225 rfl (by decide) (by decide) (fun _ => rfl) (fun v5_7 => ?_)
  refine J_goto (tgt := 157) dX12_moves_228 (by decide) ?_
  exact J_cut [1, 2, 3, 4, 5, 0] (lv' := [(0, .ref (llAd G 69)), (1, .int v1), (2, .int v2), (3, .int v3), (4, .int v4), (5, .int v5_7)]) rfl (fun h => h)
def fx_X12_moves_69_j213_b157 (u : llMem) (v1 : Int32) (v2 : Int32) (v3 : Int32) (v4 : Int32) (v5 : Int32) (v6 : Int32) : Option ((Int32 × Int32) ⊕ ((Int32) ⊕ (llMem × Int32))) := (if ¬ v4 = v3 then lt (v4 + 1) (fun v4_6 => fx_X12_moves_69_j225_b157 u v1 v2 v3 v4_6 v5) else some (.inr (.inr (u, v6))))
set_option maxRecDepth 20000 in
theorem t_X12_moves_69_j213_b157 {G : llG} {d : Nat} (u : llMem) (v1 : Int32) (v2 : Int32) (v3 : Int32) (v4 : Int32) (v5 : Int32) (v6 : Int32) : llJ G RX12 cX12_moves 7 (some .int) (d + 8) (Sum.elim (fun s' => llJq G 7 157 [(0, .ref (llAd G 69)), (1, .int v1), (2, .int v2), (3, .int v3), (4, .int s'.1), (5, .int s'.2)] [] u) (Sum.elim (fun e => llJq G 7 231 [(3, .int v3), (4, .int e)] [] u) (fun v => llRet G (llI v.2) v.1))) 213 [(0, .ref (llAd G 69)), (1, .int v1), (2, .int v2), (3, .int v3), (4, .int v4), (5, .int v5), (6, .int v6)] [] u (fx_X12_moves_69_j213_b157 u v1 v2 v3 v4 v5 v6) := by
  unfold fx_X12_moves_69_j213_b157
  refine J_iload (j := 4) dX12_moves_213 rfl ?_
  refine J_iload_n (j := 3) dX12_moves_215 rfl rfl ?_
  refine J_icmp_ne (tgt := 222) dX12_moves_216 (by decide) ?_ ?_
  · refine J_iinc (j := 4) (b := 1) (fun v4_6 => [(4, .int v4_6), (0, .ref (llAd G 69)), (1, .int v1), (2, .int v2), (3, .int v3), (5, .int v5), (6, .int v6)]) dX12_moves_222 rfl (by decide) (by decide) (fun _ => rfl) (fun v4_6 => ?_)
    refine J_sub [1, 2, 3, 4, 0, 5] (lv' := [(0, .ref (llAd G 69)), (1, .int v1), (2, .int v2), (3, .int v3), (4, .int v4_6), (5, .int v5)]) rfl ?_
    exact t_X12_moves_69_j225_b157 u v1 v2 v3 v4_6 v5
  · refine J_iload (j := 6) dX12_moves_219 rfl ?_
    exact J_iret dX12_moves_221 (fun h => h)
def fx_X12_moves_69_l157 (u : llMem) (v1 : Int32) (v2 : Int32) (v3 : Int32) (s : Int32 × Int32) : Option ((Int32 × Int32) ⊕ ((Int32) ⊕ (llMem × Int32))) := gI v1 4 ((if (rI u 87 v1) ≤ s.2 then some (.inr (.inl s.1)) else gI ((12 * v1) + s.2) 48 (lt (rI u 86 ((12 * v1) + s.2)) (fun v6_5 => (if ¬ v2 = 1 then gI v6_5 30 ((if ¬ (rI u 95 v6_5) = 0 then fx_X12_moves_69_j213_b157 u v1 v2 v3 s.1 s.2 v6_5 else fx_X12_moves_69_j225_b157 u v1 v2 v3 s.1 s.2)) else gI v6_5 30 ((if ¬ (rI u 93 v6_5) = 0 then fx_X12_moves_69_j213_b157 u v1 v2 v3 s.1 s.2 v6_5 else fx_X12_moves_69_j225_b157 u v1 v2 v3 s.1 s.2)))))))
set_option maxRecDepth 20000 in
theorem t_X12_moves_69_l157 {G : llG} {d : Nat} (u : llMem) (v1 : Int32) (v2 : Int32) (v3 : Int32) (s : Int32 × Int32) : llJ G RX12 cX12_moves 7 (some .int) (d + 8) (Sum.elim (fun s' => llJq G 7 157 [(0, .ref (llAd G 69)), (1, .int v1), (2, .int v2), (3, .int v3), (4, .int s'.1), (5, .int s'.2)] [] u) (Sum.elim (fun e => llJq G 7 231 [(3, .int v3), (4, .int e)] [] u) (fun v => llRet G (llI v.2) v.1))) 157 [(0, .ref (llAd G 69)), (1, .int v1), (2, .int v2), (3, .int v3), (4, .int s.1), (5, .int s.2)] [] u (fx_X12_moves_69_l157 u v1 v2 v3 s) := by
  unfold fx_X12_moves_69_l157
  refine J_iload (j := 5) dX12_moves_157 rfl ?_
  refine J_aload_n (j := 0) dX12_moves_159 rfl rfl ?_
  refine J_getR (b := 87) dX12_moves_160 fl_X12_67 sh_69 rfl ?_
  refine J_iload_n (j := 1) dX12_moves_163 rfl rfl ?_
  refine J_iald dX12_moves_164 sh_87 ?_
  refine J_icmp_ge (tgt := 231) dX12_moves_165 (by decide) ?_ ?_
  · exact J_cut [3, 4] (lv' := [(3, .int v3), (4, .int s.1)]) rfl (fun h => h)
  · refine J_aload_n (j := 0) dX12_moves_168 rfl rfl ?_
    refine J_getR (b := 86) dX12_moves_169 fl_X12_64 sh_69 rfl ?_
    refine J_bipush (v := 12) dX12_moves_172 (by decide) ?_
    refine J_iload_n (j := 1) dX12_moves_174 rfl rfl ?_
    refine J_imul dX12_moves_175 ?_
    refine J_iload (j := 5) dX12_moves_176 rfl ?_
    refine J_iadd dX12_moves_178 ?_
    refine J_iald dX12_moves_179 sh_86 ?_
    refine J_istoreL (fun v6_5 => [(6, .int v6_5), (0, .ref (llAd G 69)), (1, .int v1), (2, .int v2), (3, .int v3), (4, .int s.1), (5, .int s.2)]) dX12_moves_180 (by decide) (fun _ => rfl) (fun v6_5 => ?_)
    refine J_iload_n (j := 3) dX12_moves_182 rfl rfl ?_
    refine J_iconst (v := 1) dX12_moves_183 (by decide) ?_
    refine J_icmp_ne (tgt := 200) dX12_moves_184 (by decide) ?_ ?_
    · refine J_aload_n (j := 1) dX12_moves_200 rfl rfl ?_
      refine J_getR (b := 95) dX12_moves_201 fl_X12_92 sh_69 rfl ?_
      refine J_iload (j := 0) dX12_moves_204 rfl ?_
      refine J_zald dX12_moves_206 sh_95 ?_
      refine J_if_ne (tgt := 213) dX12_moves_207 (by decide) ?_ ?_
      · refine J_sub [1, 2, 3, 4, 5, 6, 0] (lv' := [(0, .ref (llAd G 69)), (1, .int v1), (2, .int v2), (3, .int v3), (4, .int s.1), (5, .int s.2), (6, .int v6_5)]) rfl ?_
        exact t_X12_moves_69_j213_b157 u v1 v2 v3 s.1 s.2 v6_5
      · refine J_goto (tgt := 225) dX12_moves_210 (by decide) ?_
        refine J_sub [1, 2, 3, 4, 5, 6] (lv' := [(0, .ref (llAd G 69)), (1, .int v1), (2, .int v2), (3, .int v3), (4, .int s.1), (5, .int s.2)]) rfl ?_
        exact t_X12_moves_69_j225_b157 u v1 v2 v3 s.1 s.2
    · refine J_aload_n (j := 1) dX12_moves_187 rfl rfl ?_
      refine J_getR (b := 93) dX12_moves_188 fl_X12_86 sh_69 rfl ?_
      refine J_iload (j := 0) dX12_moves_191 rfl ?_
      refine J_zald dX12_moves_193 sh_93 ?_
      refine J_if_ne (tgt := 213) dX12_moves_194 (by decide) ?_ ?_
      · refine J_sub [1, 2, 3, 4, 5, 6, 0] (lv' := [(0, .ref (llAd G 69)), (1, .int v1), (2, .int v2), (3, .int v3), (4, .int s.1), (5, .int s.2), (6, .int v6_5)]) rfl ?_
        exact t_X12_moves_69_j213_b157 u v1 v2 v3 s.1 s.2 v6_5
      · refine J_goto (tgt := 225) dX12_moves_197 (by decide) ?_
        refine J_sub [1, 2, 3, 4, 5, 6] (lv' := [(0, .ref (llAd G 69)), (1, .int v1), (2, .int v2), (3, .int v3), (4, .int s.1), (5, .int s.2)]) rfl ?_
        exact t_X12_moves_69_j225_b157 u v1 v2 v3 s.1 s.2
def fx_X12_moves_69_j136_b92 (u : llMem) (v1 : Int32) (v3 : Int32) (v4 : Int32) (v5 : Int32) : Option ((Int32 × Int32) ⊕ ((Int32) ⊕ (llMem × Int32))) := lt (v5 + 1) (fun v5_10 => some (.inl (v4, v5_10)))
set_option maxRecDepth 20000 in
theorem t_X12_moves_69_j136_b92 {G : llG} {d : Nat} (u : llMem) (v1 : Int32) (v3 : Int32) (v4 : Int32) (v5 : Int32) : llJ G RX12 cX12_moves 7 (some .int) (d + 8) (Sum.elim (fun s' => llJq G 7 92 [(0, .ref (llAd G 69)), (1, .int v1), (3, .int v3), (4, .int s'.1), (5, .int s'.2)] [] u) (Sum.elim (fun e => llJq G 7 142 [(3, .int v3), (4, .int e)] [] u) (fun v => llRet G (llI v.2) v.1))) 136 [(0, .ref (llAd G 69)), (1, .int v1), (3, .int v3), (4, .int v4), (5, .int v5)] [] u (fx_X12_moves_69_j136_b92 u v1 v3 v4 v5) := by
  unfold fx_X12_moves_69_j136_b92
  refine J_iinc (j := 4) (b := 1) (fun v5_10 => [(5, .int v5_10), (0, .ref (llAd G 69)), (1, .int v1), (3, .int v3), (4, .int v4)]) dX12_moves_136 rfl (by decide) (by decide) (fun _ => rfl) (fun v5_10 => ?_)
  refine J_goto (tgt := 92) dX12_moves_139 (by decide) ?_
  exact J_cut [1, 2, 3, 4, 0] (lv' := [(0, .ref (llAd G 69)), (1, .int v1), (3, .int v3), (4, .int v4), (5, .int v5_10)]) rfl (fun h => h)
def fx_X12_moves_69_l92 (u : llMem) (v1 : Int32) (v3 : Int32) (s : Int32 × Int32) : Option ((Int32 × Int32) ⊕ ((Int32) ⊕ (llMem × Int32))) := (if (u.1 69 9) ≤ s.2 then some (.inr (.inl s.1)) else (if ¬ v1 = ((u.1 69 1) - 1) then some (.inr (.inl s.1)) else gI s.2 30 ((if ¬ (rI u 94 s.2) = 0 then (if ¬ s.1 = v3 then lt (s.1 + 1) (fun v4_9 => fx_X12_moves_69_j136_b92 u v1 v3 v4_9 s.2) else some (.inr (.inr (u, s.2)))) else fx_X12_moves_69_j136_b92 u v1 v3 s.1 s.2))))
set_option maxRecDepth 20000 in
theorem t_X12_moves_69_l92 {G : llG} {d : Nat} (u : llMem) (v1 : Int32) (v3 : Int32) (s : Int32 × Int32) : llJ G RX12 cX12_moves 7 (some .int) (d + 8) (Sum.elim (fun s' => llJq G 7 92 [(0, .ref (llAd G 69)), (1, .int v1), (3, .int v3), (4, .int s'.1), (5, .int s'.2)] [] u) (Sum.elim (fun e => llJq G 7 142 [(3, .int v3), (4, .int e)] [] u) (fun v => llRet G (llI v.2) v.1))) 92 [(0, .ref (llAd G 69)), (1, .int v1), (3, .int v3), (4, .int s.1), (5, .int s.2)] [] u (fx_X12_moves_69_l92 u v1 v3 s) := by
  unfold fx_X12_moves_69_l92
  refine J_iload (j := 4) dX12_moves_92 rfl ?_
  refine J_aload_n (j := 0) dX12_moves_94 rfl rfl ?_
  refine J_getI dX12_moves_95 fl_X12_263 sh_69 rfl ?_
  refine J_icmp_ge (tgt := 142) dX12_moves_98 (by decide) ?_ ?_
  · exact J_cut [2, 3] (lv' := [(3, .int v3), (4, .int s.1)]) rfl (fun h => h)
  · refine J_iload_n (j := 1) dX12_moves_101 rfl rfl ?_
    refine J_aload_n (j := 0) dX12_moves_102 rfl rfl ?_
    refine J_getI dX12_moves_103 fl_X12_260 sh_69 rfl ?_
    refine J_iconst (v := 1) dX12_moves_106 (by decide) ?_
    refine J_isub dX12_moves_107 ?_
    refine J_icmp_ne (tgt := 142) dX12_moves_108 (by decide) ?_ ?_
    · exact J_cut [2, 3] (lv' := [(3, .int v3), (4, .int s.1)]) rfl (fun h => h)
    · refine J_aload_n (j := 0) dX12_moves_111 rfl rfl ?_
      refine J_getR (b := 94) dX12_moves_112 fl_X12_89 sh_69 rfl ?_
      refine J_iload (j := 4) dX12_moves_115 rfl ?_
      refine J_zald dX12_moves_117 sh_94 ?_
      refine J_if_ne (tgt := 124) dX12_moves_118 (by decide) ?_ ?_
      · refine J_iload (j := 3) dX12_moves_124 rfl ?_
        refine J_iload_n (j := 2) dX12_moves_126 rfl rfl ?_
        refine J_icmp_ne (tgt := 133) dX12_moves_127 (by decide) ?_ ?_
        · refine J_iinc (j := 3) (b := 1) (fun v4_9 => [(4, .int v4_9), (0, .ref (llAd G 69)), (1, .int v1), (3, .int v3), (5, .int s.2)]) dX12_moves_133 rfl (by decide) (by decide) (fun _ => rfl) (fun v4_9 => ?_)
          refine J_sub [1, 2, 3, 0, 4] (lv' := [(0, .ref (llAd G 69)), (1, .int v1), (3, .int v3), (4, .int v4_9), (5, .int s.2)]) rfl ?_
          exact t_X12_moves_69_j136_b92 u v1 v3 v4_9 s.2
        · refine J_iload (j := 4) dX12_moves_130 rfl ?_
          exact J_iret dX12_moves_132 (fun h => h)
      · refine J_goto (tgt := 136) dX12_moves_121 (by decide) ?_
        refine J_sub [0, 1, 2, 3, 4] (lv' := [(0, .ref (llAd G 69)), (1, .int v1), (3, .int v3), (4, .int s.1), (5, .int s.2)]) rfl ?_
        exact t_X12_moves_69_j136_b92 u v1 v3 s.1 s.2
def fx_X12_moves_69 (u : llMem) (a0 : Int32) (a1 : Int32) (a2 : Int32) : Option (llMem × Int32) := (fx_X12_isLevel_69 u a0).bind (fun r1 => (if r1 = 0 then some (u, (-1)) else (fx_X12_isIn u (Int32.toInt64 a1) 0 3).bind (fun r2 => (if r2 = 0 then some (u, (-1)) else bd (fx_X12_ends_69 u ) (fun u3 r4 => (if ¬ r4 = 0 then (if ¬ a1 = 0 then (if ¬ a1 = 3 then (loop (fx_X12_moves_69_l157 u3 a0 a1 a2) llFuel (0, 0)).bind (Sum.elim (fun e8 => (if ¬ a2 = ((-1)) then some (u3, (-1)) else some (u3, e8))) (fun v => some ((fun v => v) v))) else (loop (fx_X12_moves_69_l92 u3 a0 a2) llFuel (0, 0)).bind (Sum.elim (fun e11 => (if ¬ a2 = ((-1)) then some (u3, (-1)) else some (u3, e11))) (fun v => some ((fun v => v) v)))) else (if ¬ a2 = ((-1)) then gI a0 4 ((fx_X12_isIn u3 (Int32.toInt64 a2) 0 (Int32.toInt64 ((rI u3 97 a0) - 1))).bind (fun r12 => (if r12 = 0 then some (u3, (-1)) else gI ((12 * a0) + a2) 48 (some (u3, rI u3 96 ((12 * a0) + a2)))))) else gI a0 4 (some (u3, rI u3 97 a0)))) else some (u3, (-1))))))))
set_option maxRecDepth 20000 in
theorem tj_X12_moves_69 {G : llG} {d : Nat} (u : llMem) (a0 : Int32) (a1 : Int32) (a2 : Int32) : llJ G RX12 cX12_moves 7 (some .int) (d + 8) (fun r => llRet G (llI r.2) r.1) 0 [(0, .ref (llAd G 69)), (1, .int a0), (2, .int a1), (3, .int a2)] [] u (fx_X12_moves_69 u a0 a1 a2) := by
  unfold fx_X12_moves_69
  refine J_aload_n (j := 0) dX12_moves_0 rfl rfl ?_
  refine J_iload_n (j := 1) dX12_moves_1 rfl rfl ?_
  refine J_callVip1 dX12_moves_2 (t_X12_isLevel_69 (llL G) (llFx G) (d + 6) u a0) ym_X12_isLevel wd_1625 sh_69 rfl (Nat.le_of_ble_eq_true rfl) (fun r1 => ?_)
  refine J_if_eq (tgt := 27) dX12_moves_5 (by decide) ?_ ?_
  · refine J_iconst (v := (-1)) dX12_moves_27 (by decide) ?_
    exact J_iret dX12_moves_28 (fun h => h)
  · refine J_iload_n (j := 2) dX12_moves_8 rfl rfl ?_
    refine J_i2l dX12_moves_9 ?_
    refine J_lconst (v := 0) dX12_moves_10 (by decide) ?_
    refine J_ldc2 (v := 3) dX12_moves_11 wd_1645 ?_
    refine J_callSip3 dX12_moves_14 (t_X12_isIn (llL G) (llFx G) (d + 7) u (Int32.toInt64 a1) 0 3) ym_X12_isIn wd_1313 (Nat.le_of_ble_eq_true rfl) (fun r2 => ?_)
    refine J_if_eq (tgt := 27) dX12_moves_17 (by decide) ?_ ?_
    · refine J_iconst (v := (-1)) dX12_moves_27 (by decide) ?_
      exact J_iret dX12_moves_28 (fun h => h)
    · refine J_aload_n (j := 0) dX12_moves_20 rfl rfl ?_
      refine J_callVi0 dX12_moves_21 (t_X12_ends_69 (llL G) (llFx G) d u ) ym_X12_ends wd_1509 sh_69 rfl (Nat.le_of_ble_eq_true rfl) (fun u3 r4 => ?_)
      refine J_if_ne (tgt := 29) dX12_moves_24 (by decide) ?_ ?_
      · refine J_iload_n (j := 2) dX12_moves_29 rfl rfl ?_
        refine J_if_ne (tgt := 81) dX12_moves_30 (by decide) ?_ ?_
        · refine J_iconst (v := 0) dX12_moves_81 (by decide) ?_
          refine J_istore [(4, .int 0), (0, .ref (llAd G 69)), (1, .int a0), (2, .int a1), (3, .int a2)] dX12_moves_82 (by decide) rfl ?_
          refine J_iload_n (j := 3) dX12_moves_84 rfl rfl ?_
          refine J_iconst (v := 3) dX12_moves_85 (by decide) ?_
          refine J_icmp_ne (tgt := 154) dX12_moves_86 (by decide) ?_ ?_
          · refine J_iconst (v := 0) dX12_moves_154 (by decide) ?_
            refine J_istore [(5, .int 0), (4, .int 0), (0, .ref (llAd G 69)), (1, .int a0), (2, .int a1), (3, .int a2)] dX12_moves_155 (by decide) rfl ?_
            refine J_loopR (wr := (fun v => v)) (fun s' => [(0, .ref (llAd G 69)), (1, .int a0), (2, .int a1), (3, .int a2), (4, .int s'.1), (5, .int s'.2)]) (fun s' => u3) 231 (fun e => [(3, .int a2), (4, .int e)]) (fun e => u3) (fun v => llRet G (llI v.2) v.1) (fun z => t_X12_moves_69_l157 u3 a0 a1 a2 z) [2, 3, 4, 5, 1, 0] rfl rfl (fun v h => h) (fun e8 => ?_)
            refine J_iload_n (j := 0) dX12_moves_231 rfl rfl ?_
            refine J_iconst (v := (-1)) dX12_moves_232 (by decide) ?_
            refine J_icmp_ne (tgt := 241) dX12_moves_233 (by decide) ?_ ?_
            · refine J_iconst (v := (-1)) dX12_moves_241 (by decide) ?_
              exact J_iret dX12_moves_242 (fun h => h)
            · refine J_iload (j := 1) dX12_moves_236 rfl ?_
              refine J_goto (tgt := 242) dX12_moves_238 (by decide) ?_
              exact J_iret dX12_moves_242 (fun h => h)
          · refine J_iconst (v := 0) dX12_moves_89 (by decide) ?_
            refine J_istore [(5, .int 0), (4, .int 0), (0, .ref (llAd G 69)), (1, .int a0), (2, .int a1), (3, .int a2)] dX12_moves_90 (by decide) rfl ?_
            refine J_loopR (wr := (fun v => v)) (fun s' => [(0, .ref (llAd G 69)), (1, .int a0), (3, .int a2), (4, .int s'.1), (5, .int s'.2)]) (fun s' => u3) 142 (fun e => [(3, .int a2), (4, .int e)]) (fun e => u3) (fun v => llRet G (llI v.2) v.1) (fun z => t_X12_moves_69_l92 u3 a0 a2 z) [2, 3, 5, 1, 0] rfl rfl (fun v h => h) (fun e11 => ?_)
            refine J_iload_n (j := 0) dX12_moves_142 rfl rfl ?_
            refine J_iconst (v := (-1)) dX12_moves_143 (by decide) ?_
            refine J_icmp_ne (tgt := 152) dX12_moves_144 (by decide) ?_ ?_
            · refine J_iconst (v := (-1)) dX12_moves_152 (by decide) ?_
              exact J_iret dX12_moves_153 (fun h => h)
            · refine J_iload (j := 1) dX12_moves_147 rfl ?_
              refine J_goto (tgt := 153) dX12_moves_149 (by decide) ?_
              exact J_iret dX12_moves_153 (fun h => h)
        · refine J_iload_n (j := 3) dX12_moves_33 rfl rfl ?_
          refine J_iconst (v := (-1)) dX12_moves_34 (by decide) ?_
          refine J_icmp_ne (tgt := 47) dX12_moves_35 (by decide) ?_ ?_
          · refine J_iload_n (j := 3) dX12_moves_47 rfl rfl ?_
            refine J_i2l dX12_moves_48 ?_
            refine J_lconst (v := 0) dX12_moves_49 (by decide) ?_
            refine J_aload_n (j := 0) dX12_moves_50 rfl rfl ?_
            refine J_getR (b := 97) dX12_moves_51 fl_X12_98 sh_69 rfl ?_
            refine J_iload_n (j := 1) dX12_moves_54 rfl rfl ?_
            refine J_iald dX12_moves_55 sh_97 ?_
            refine J_iconst (v := 1) dX12_moves_56 (by decide) ?_
            refine J_isub dX12_moves_57 ?_
            refine J_i2l dX12_moves_58 ?_
            refine J_callSip3 dX12_moves_59 (t_X12_isIn (llL G) (llFx G) (d + 7) u3 (Int32.toInt64 a2) 0 (Int32.toInt64 ((rI u3 97 a0) - 1))) ym_X12_isIn wd_1313 (Nat.le_of_ble_eq_true rfl) (fun r12 => ?_)
            refine J_if_eq (tgt := 79) dX12_moves_62 (by decide) ?_ ?_
            · refine J_iconst (v := (-1)) dX12_moves_79 (by decide) ?_
              exact J_iret dX12_moves_80 (fun h => h)
            · refine J_aload_n (j := 0) dX12_moves_65 rfl rfl ?_
              refine J_getR (b := 96) dX12_moves_66 fl_X12_95 sh_69 rfl ?_
              refine J_bipush (v := 12) dX12_moves_69 (by decide) ?_
              refine J_iload_n (j := 1) dX12_moves_71 rfl rfl ?_
              refine J_imul dX12_moves_72 ?_
              refine J_iload_n (j := 3) dX12_moves_73 rfl rfl ?_
              refine J_iadd dX12_moves_74 ?_
              refine J_iald dX12_moves_75 sh_96 ?_
              refine J_goto (tgt := 80) dX12_moves_76 (by decide) ?_
              exact J_iret dX12_moves_80 (fun h => h)
          · refine J_aload_n (j := 0) dX12_moves_38 rfl rfl ?_
            refine J_getR (b := 97) dX12_moves_39 fl_X12_98 sh_69 rfl ?_
            refine J_iload_n (j := 1) dX12_moves_42 rfl rfl ?_
            refine J_iald dX12_moves_43 sh_97 ?_
            refine J_goto (tgt := 80) dX12_moves_44 (by decide) ?_
            exact J_iret dX12_moves_80 (fun h => h)
      · refine J_iconst (v := (-1)) dX12_moves_27 (by decide) ?_
        exact J_iret dX12_moves_28 (fun h => h)
theorem t_X12_moves_69 (l : Launch) (F : llFix) (d : Nat) (u : llMem) (a0 : Int32) (a1 : Int32) (a2 : Int32) : llCt l F yX12_moves cX12_moves 7 (some .int) (d + 8) [.ref (F.2.2.1 69), .int a0, .int a1, .int a2] u llI (fx_X12_moves_69 u a0 a1 a2) := llCt.of (by decide +kernel) (by exact Nat.le_of_ble_eq_true rfl) (fun G h1 h2 => by subst h1; subst h2; exact tj_X12_moves_69 u a0 a1 a2)
def fx_X11_would_0 (u : llMem) (a0 : Int32) : Option (llMem × Int32) := (fx_X5_isClub_3 u a0).bind (fun r1 => (if r1 = 0 then some (u, (-3)) else bd (fx_X3_weigh_63 u ) (fun u2 r3 => (if r3 = 0 then some (u2, (-3)) else gI a0 30 (some (u2, rI u2 68 a0))))))
set_option maxRecDepth 20000 in
theorem tj_X11_would_0 {G : llG} {d : Nat} (u : llMem) (a0 : Int32) : llJ G RX11 cX11_would 2 (some .int) (d + 5) (fun r => llRet G (llI r.2) r.1) 0 [(0, .ref (llAd G 0)), (1, .int a0)] [] u (fx_X11_would_0 u a0) := by
  unfold fx_X11_would_0
  refine J_aload_n (j := 0) dX11_would_0 rfl rfl ?_
  refine J_getR (b := 3) dX11_would_1 fl_X11_19 sh_0 rfl ?_
  refine J_iload_n (j := 1) dX11_would_4 rfl rfl ?_
  refine J_callVip1 dX11_would_5 (t_X5_isClub_3 (llL G) (llFx G) (d + 4) u a0) ym_X5_isClub wd_738 sh_3 rfl (Nat.le_of_ble_eq_true rfl) (fun r1 => ?_)
  refine J_if_eq (tgt := 33) dX11_would_8 (by decide) ?_ ?_
  · refine J_bipush (v := (-3)) dX11_would_33 (by decide) ?_
    exact J_iret dX11_would_35 (fun h => h)
  · refine J_aload_n (j := 0) dX11_would_11 rfl rfl ?_
    refine J_getR (b := 63) dX11_would_12 fl_X11_87 sh_0 rfl ?_
    refine J_callVi0 dX11_would_15 (t_X3_weigh_63 (llL G) (llFx G) d u ) ym_X3_weigh wd_743 sh_63 rfl (Nat.le_of_ble_eq_true rfl) (fun u2 r3 => ?_)
    refine J_if_eq (tgt := 33) dX11_would_18 (by decide) ?_ ?_
    · refine J_bipush (v := (-3)) dX11_would_33 (by decide) ?_
      exact J_iret dX11_would_35 (fun h => h)
    · refine J_aload_n (j := 0) dX11_would_21 rfl rfl ?_
      refine J_getR (b := 63) dX11_would_22 fl_X11_87 sh_0 rfl ?_
      refine J_getR (b := 68) dX11_would_25 fl_X11_189 sh_63 rfl ?_
      refine J_iload_n (j := 1) dX11_would_28 rfl rfl ?_
      refine J_iald dX11_would_29 sh_68 ?_
      refine J_goto (tgt := 35) dX11_would_30 (by decide) ?_
      exact J_iret dX11_would_35 (fun h => h)
theorem t_X11_would_0 (l : Launch) (F : llFix) (d : Nat) (u : llMem) (a0 : Int32) : llCt l F yX11_would cX11_would 2 (some .int) (d + 5) [.ref (F.2.2.1 0), .int a0] u llI (fx_X11_would_0 u a0) := llCt.of (by decide +kernel) (by exact Nat.le_of_ble_eq_true rfl) (fun G h1 h2 => by subst h1; subst h2; exact tj_X11_would_0 u a0)
def fx_X12_would_69 (u : llMem) (a0 : Int32) : Option (llMem × Int32) := (fx_X12_isClub_69 u a0).bind (fun r1 => (if r1 = 0 then some (u, (-3)) else bd (fx_X12_ends_69 u ) (fun u2 r3 => (if r3 = 0 then some (u2, (-3)) else (fx_X12_levelThen_69 u2 a0).bind (fun r4 => some (u2, r4))))))
set_option maxRecDepth 20000 in
theorem tj_X12_would_69 {G : llG} {d : Nat} (u : llMem) (a0 : Int32) : llJ G RX12 cX12_would 2 (some .int) (d + 8) (fun r => llRet G (llI r.2) r.1) 0 [(0, .ref (llAd G 69)), (1, .int a0)] [] u (fx_X12_would_69 u a0) := by
  unfold fx_X12_would_69
  refine J_aload_n (j := 0) dX12_would_0 rfl rfl ?_
  refine J_iload_n (j := 1) dX12_would_1 rfl rfl ?_
  refine J_callVip1 dX12_would_2 (t_X12_isClub_69 (llL G) (llFx G) (d + 6) u a0) ym_X12_isClub wd_1471 sh_69 rfl (Nat.le_of_ble_eq_true rfl) (fun r1 => ?_)
  refine J_if_eq (tgt := 23) dX12_would_5 (by decide) ?_ ?_
  · refine J_bipush (v := (-3)) dX12_would_23 (by decide) ?_
    exact J_iret dX12_would_25 (fun h => h)
  · refine J_aload_n (j := 0) dX12_would_8 rfl rfl ?_
    refine J_callVi0 dX12_would_9 (t_X12_ends_69 (llL G) (llFx G) d u ) ym_X12_ends wd_1509 sh_69 rfl (Nat.le_of_ble_eq_true rfl) (fun u2 r3 => ?_)
    refine J_if_eq (tgt := 23) dX12_would_12 (by decide) ?_ ?_
    · refine J_bipush (v := (-3)) dX12_would_23 (by decide) ?_
      exact J_iret dX12_would_25 (fun h => h)
    · refine J_aload_n (j := 0) dX12_would_15 rfl rfl ?_
      refine J_iload_n (j := 1) dX12_would_16 rfl rfl ?_
      refine J_callVip1 dX12_would_17 (t_X12_levelThen_69 (llL G) (llFx G) (d + 7) u2 a0) ym_X12_levelThen wd_1569 sh_69 rfl (Nat.le_of_ble_eq_true rfl) (fun r4 => ?_)
      refine J_goto (tgt := 25) dX12_would_20 (by decide) ?_
      exact J_iret dX12_would_25 (fun h => h)
theorem t_X12_would_69 (l : Launch) (F : llFix) (d : Nat) (u : llMem) (a0 : Int32) : llCt l F yX12_would cX12_would 2 (some .int) (d + 8) [.ref (F.2.2.1 69), .int a0] u llI (fx_X12_would_69 u a0) := llCt.of (by decide +kernel) (by exact Nat.le_of_ble_eq_true rfl) (fun G h1 h2 => by subst h1; subst h2; exact tj_X12_would_69 u a0)
def fx_X3_risesWith_63_j52 (u : llMem) (v1 : Int32) (v3 : Int32) (t0 : Int32) : Option ((llMem × Int32)) := gI v1 30 (lt (llSI u 11 (Int32.toNatClampNeg v1) v3) (fun u5 => gB t0 (some (u5, t0))))
set_option maxRecDepth 20000 in
theorem t_X3_risesWith_63_j52 {G : llG} {d : Nat} (u : llMem) (v1 : Int32) (v3 : Int32) (t0 : Int32) : llJ G RX3 cX3_risesWith 5 (some .boolean) (d + 5) (fun r => llRet G (llI r.2) r.1) 52 [(0, .ref (llAd G 63)), (1, .int v1), (3, .int v3)] [.int t0] u (fx_X3_risesWith_63_j52 u v1 v3 t0) := by
  unfold fx_X3_risesWith_63_j52
  refine J_istore [(4, .int t0), (0, .ref (llAd G 63)), (1, .int v1), (3, .int v3)] dX3_risesWith_52 (by decide) rfl ?_
  refine J_aload_n (j := 1) dX3_risesWith_54 rfl rfl ?_
  refine J_getR (b := 3) dX3_risesWith_55 fl_X3_9 sh_63 rfl ?_
  refine J_getR (b := 11) dX3_risesWith_58 fl_X3_60 sh_3 rfl ?_
  refine J_iload_n (j := 2) dX3_risesWith_61 rfl rfl ?_
  refine J_iload_n (j := 3) dX3_risesWith_62 rfl rfl ?_
  refine J_iast dX3_risesWith_63 sh_11 (fun u5 => ?_)
  refine J_iload (j := 0) dX3_risesWith_64 rfl ?_
  exact J_zret dX3_risesWith_66 (fun h => h)
def fx_X3_risesWith_63_j51 (u : llMem) (v1 : Int32) (v3 : Int32) : Option ((llMem × Int32)) := fx_X3_risesWith_63_j52 u v1 v3 0
set_option maxRecDepth 20000 in
theorem t_X3_risesWith_63_j51 {G : llG} {d : Nat} (u : llMem) (v1 : Int32) (v3 : Int32) : llJ G RX3 cX3_risesWith 5 (some .boolean) (d + 5) (fun r => llRet G (llI r.2) r.1) 51 [(0, .ref (llAd G 63)), (1, .int v1), (3, .int v3)] [] u (fx_X3_risesWith_63_j51 u v1 v3) := by
  unfold fx_X3_risesWith_63_j51
  refine J_iconst (v := 0) dX3_risesWith_51 (by decide) ?_
  refine J_sub [0, 1, 2] (lv' := [(0, .ref (llAd G 63)), (1, .int v1), (3, .int v3)]) rfl ?_
  exact t_X3_risesWith_63_j52 u v1 v3 0
def fx_X3_risesWith_63 (u : llMem) (a0 : Int32) (a1 : Int32) : Option (llMem × Int32) := gI a0 30 (lt (rI u 11 a0) (fun v3_1 => gI a0 30 (lt (llSI u 11 (Int32.toNatClampNeg a0) a1) (fun u2 => bd (fx_X3_weigh_63 u2 ) (fun u3 r4 => (if r4 = 0 then fx_X3_risesWith_63_j51 u3 a0 v3_1 else gI a0 30 (gI a0 30 ((if ¬ (rI u3 68 a0) = ((rI u3 12 a0) - 1) then fx_X3_risesWith_63_j51 u3 a0 v3_1 else fx_X3_risesWith_63_j52 u3 a0 v3_1 1)))))))))
set_option maxRecDepth 20000 in
theorem tj_X3_risesWith_63 {G : llG} {d : Nat} (u : llMem) (a0 : Int32) (a1 : Int32) : llJ G RX3 cX3_risesWith 5 (some .boolean) (d + 5) (fun r => llRet G (llI r.2) r.1) 0 [(0, .ref (llAd G 63)), (1, .int a0), (2, .int a1)] [] u (fx_X3_risesWith_63 u a0 a1) := by
  unfold fx_X3_risesWith_63
  refine J_aload_n (j := 0) dX3_risesWith_0 rfl rfl ?_
  refine J_getR (b := 3) dX3_risesWith_1 fl_X3_9 sh_63 rfl ?_
  refine J_getR (b := 11) dX3_risesWith_4 fl_X3_60 sh_3 rfl ?_
  refine J_iload_n (j := 1) dX3_risesWith_7 rfl rfl ?_
  refine J_iald dX3_risesWith_8 sh_11 ?_
  refine J_istore_nL (fun v3_1 => [(3, .int v3_1), (0, .ref (llAd G 63)), (1, .int a0), (2, .int a1)]) dX3_risesWith_9 rfl (by decide) (fun _ => rfl) (fun v3_1 => ?_)
  refine J_aload_n (j := 1) dX3_risesWith_10 rfl rfl ?_
  refine J_getR (b := 3) dX3_risesWith_11 fl_X3_9 sh_63 rfl ?_
  refine J_getR (b := 11) dX3_risesWith_14 fl_X3_60 sh_3 rfl ?_
  refine J_iload_n (j := 2) dX3_risesWith_17 rfl rfl ?_
  refine J_iload_n (j := 3) dX3_risesWith_18 rfl rfl ?_
  refine J_iast dX3_risesWith_19 sh_11 (fun u2 => ?_)
  refine J_aload_n (j := 1) dX3_risesWith_20 rfl rfl ?_
  refine J_callVi0 dX3_risesWith_21 (t_X3_weigh_63 (llL G) (llFx G) d u2 ) ym_X3_weigh wd_994 sh_63 rfl (Nat.le_of_ble_eq_true rfl) (fun u3 r4 => ?_)
  refine J_if_eq (tgt := 51) dX3_risesWith_24 (by decide) ?_ ?_
  · refine J_sub [1, 2, 0] (lv' := [(0, .ref (llAd G 63)), (1, .int a0), (3, .int v3_1)]) rfl ?_
    exact t_X3_risesWith_63_j51 u3 a0 v3_1
  · refine J_aload_n (j := 1) dX3_risesWith_27 rfl rfl ?_
    refine J_getR (b := 68) dX3_risesWith_28 fl_X3_36 sh_63 rfl ?_
    refine J_iload_n (j := 2) dX3_risesWith_31 rfl rfl ?_
    refine J_iald dX3_risesWith_32 sh_68 ?_
    refine J_aload_n (j := 1) dX3_risesWith_33 rfl rfl ?_
    refine J_getR (b := 3) dX3_risesWith_34 fl_X3_9 sh_63 rfl ?_
    refine J_getR (b := 12) dX3_risesWith_37 fl_X3_54 sh_3 rfl ?_
    refine J_iload_n (j := 2) dX3_risesWith_40 rfl rfl ?_
    refine J_iald dX3_risesWith_41 sh_12 ?_
    refine J_iconst (v := 1) dX3_risesWith_42 (by decide) ?_
    refine J_isub dX3_risesWith_43 ?_
    refine J_icmp_ne (tgt := 51) dX3_risesWith_44 (by decide) ?_ ?_
    · refine J_sub [1, 2, 0] (lv' := [(0, .ref (llAd G 63)), (1, .int a0), (3, .int v3_1)]) rfl ?_
      exact t_X3_risesWith_63_j51 u3 a0 v3_1
    · refine J_iconst (v := 1) dX3_risesWith_47 (by decide) ?_
      refine J_goto (tgt := 52) dX3_risesWith_48 (by decide) ?_
      refine J_sub [1, 2, 0] (lv' := [(0, .ref (llAd G 63)), (1, .int a0), (3, .int v3_1)]) rfl ?_
      exact t_X3_risesWith_63_j52 u3 a0 v3_1 1
theorem t_X3_risesWith_63 (l : Launch) (F : llFix) (d : Nat) (u : llMem) (a0 : Int32) (a1 : Int32) : llCt l F yX3_risesWith cX3_risesWith 5 (some .boolean) (d + 5) [.ref (F.2.2.1 63), .int a0, .int a1] u llI (fx_X3_risesWith_63 u a0 a1) := llCt.of (by decide +kernel) (by exact Nat.le_of_ble_eq_true rfl) (fun G h1 h2 => by subst h1; subst h2; exact tj_X3_risesWith_63 u a0 a1)
def fx_X11_needs_0 (u : llMem) (a0 : Int32) : Option (llMem × Int32) := (fx_X5_plays_3 u a0).bind (fun r1 => (if r1 = 0 then some (u, (-1)) else gI a0 30 ((if 1 ≤ (rI u 12 a0) then bd (fx_X3_risesWith_63 u a0 0) (fun u2 r3 => (if r3 = 0 then gI a0 30 (gI ((rI u2 12 a0) - 1) 4 (lt (rI u2 7 ((rI u2 12 a0) - 1)) (fun v2_4 => bd (fx_X3_risesWith_63 u2 a0 v2_4) (fun u5 r6 => (if r6 = 0 then some (u5, (-1)) else some (u5, v2_4)))))) else some (u2, 0))) else some (u, (-1))))))
set_option maxRecDepth 20000 in
theorem tj_X11_needs_0 {G : llG} {d : Nat} (u : llMem) (a0 : Int32) : llJ G RX11 cX11_needs 3 (some .int) (d + 6) (fun r => llRet G (llI r.2) r.1) 0 [(0, .ref (llAd G 0)), (1, .int a0)] [] u (fx_X11_needs_0 u a0) := by
  unfold fx_X11_needs_0
  refine J_aload_n (j := 0) dX11_needs_0 rfl rfl ?_
  refine J_getR (b := 3) dX11_needs_1 fl_X11_19 sh_0 rfl ?_
  refine J_iload_n (j := 1) dX11_needs_4 rfl rfl ?_
  refine J_callVip1 dX11_needs_5 (t_X5_plays_3 (llL G) (llFx G) (d + 4) u a0) ym_X5_plays wd_725 sh_3 rfl (Nat.le_of_ble_eq_true rfl) (fun r1 => ?_)
  refine J_if_eq (tgt := 24) dX11_needs_8 (by decide) ?_ ?_
  · refine J_iconst (v := (-1)) dX11_needs_24 (by decide) ?_
    exact J_iret dX11_needs_25 (fun h => h)
  · refine J_aload_n (j := 0) dX11_needs_11 rfl rfl ?_
    refine J_getR (b := 3) dX11_needs_12 fl_X11_19 sh_0 rfl ?_
    refine J_getR (b := 12) dX11_needs_15 fl_X11_176 sh_3 rfl ?_
    refine J_iload_n (j := 1) dX11_needs_18 rfl rfl ?_
    refine J_iald dX11_needs_19 sh_12 ?_
    refine J_iconst (v := 1) dX11_needs_20 (by decide) ?_
    refine J_icmp_ge (tgt := 26) dX11_needs_21 (by decide) ?_ ?_
    · refine J_aload_n (j := 0) dX11_needs_26 rfl rfl ?_
      refine J_getR (b := 63) dX11_needs_27 fl_X11_87 sh_0 rfl ?_
      refine J_iload_n (j := 1) dX11_needs_30 rfl rfl ?_
      refine J_iconst (v := 0) dX11_needs_31 (by decide) ?_
      refine J_callVi2 dX11_needs_32 (t_X3_risesWith_63 (llL G) (llFx G) d u a0 0) ym_X3_risesWith wd_990 sh_63 rfl (Nat.le_of_ble_eq_true rfl) (fun u2 r3 => ?_)
      refine J_if_eq (tgt := 40) dX11_needs_35 (by decide) ?_ ?_
      · refine J_aload_n (j := 0) dX11_needs_40 rfl rfl ?_
        refine J_getR (b := 3) dX11_needs_41 fl_X11_19 sh_0 rfl ?_
        refine J_getR (b := 7) dX11_needs_44 fl_X11_279 sh_3 rfl ?_
        refine J_aload_n (j := 0) dX11_needs_47 rfl rfl ?_
        refine J_getR (b := 3) dX11_needs_48 fl_X11_19 sh_0 rfl ?_
        refine J_getR (b := 12) dX11_needs_51 fl_X11_176 sh_3 rfl ?_
        refine J_iload_n (j := 1) dX11_needs_54 rfl rfl ?_
        refine J_iald dX11_needs_55 sh_12 ?_
        refine J_iconst (v := 1) dX11_needs_56 (by decide) ?_
        refine J_isub dX11_needs_57 ?_
        refine J_iald dX11_needs_58 sh_7 ?_
        refine J_istore_nL (fun v2_4 => [(2, .int v2_4), (0, .ref (llAd G 0)), (1, .int a0)]) dX11_needs_59 rfl (by decide) (fun _ => rfl) (fun v2_4 => ?_)
        refine J_aload_n (j := 1) dX11_needs_60 rfl rfl ?_
        refine J_getR (b := 63) dX11_needs_61 fl_X11_87 sh_0 rfl ?_
        refine J_iload_n (j := 2) dX11_needs_64 rfl rfl ?_
        refine J_iload_n (j := 0) dX11_needs_65 rfl rfl ?_
        refine J_callVi2 dX11_needs_66 (t_X3_risesWith_63 (llL G) (llFx G) d u2 a0 v2_4) ym_X3_risesWith wd_990 sh_63 rfl (Nat.le_of_ble_eq_true rfl) (fun u5 r6 => ?_)
        refine J_if_eq (tgt := 76) dX11_needs_69 (by decide) ?_ ?_
        · refine J_iconst (v := (-1)) dX11_needs_76 (by decide) ?_
          exact J_iret dX11_needs_77 (fun h => h)
        · refine J_iload_n (j := 0) dX11_needs_72 rfl rfl ?_
          refine J_goto (tgt := 77) dX11_needs_73 (by decide) ?_
          exact J_iret dX11_needs_77 (fun h => h)
      · refine J_iconst (v := 0) dX11_needs_38 (by decide) ?_
        exact J_iret dX11_needs_39 (fun h => h)
    · refine J_iconst (v := (-1)) dX11_needs_24 (by decide) ?_
      exact J_iret dX11_needs_25 (fun h => h)
theorem t_X11_needs_0 (l : Launch) (F : llFix) (d : Nat) (u : llMem) (a0 : Int32) : llCt l F yX11_needs cX11_needs 3 (some .int) (d + 6) [.ref (F.2.2.1 0), .int a0] u llI (fx_X11_needs_0 u a0) := llCt.of (by decide +kernel) (by exact Nat.le_of_ble_eq_true rfl) (fun G h1 h2 => by subst h1; subst h2; exact tj_X11_needs_0 u a0)
def fx_X12_needs_69_j59_b25 (u : llMem) (v1 : Int32) (v2 : Int32) (v3 : Int32) (v4 : Int32) : Option ((llMem × Int32 × Int32) ⊕ (llMem × Int32)) := lt (v4 + (-1)) (fun v4_6 => some (.inl (u, v3, v4_6)))
set_option maxRecDepth 20000 in
theorem t_X12_needs_69_j59_b25 {G : llG} {d : Nat} (u : llMem) (v1 : Int32) (v2 : Int32) (v3 : Int32) (v4 : Int32) : llJ G RX12 cX12_needs 5 (some .int) (d + 8) (Sum.elim (fun s' => llJq G 5 25 [(0, .ref (llAd G 69)), (1, .int v1), (2, .int v2), (3, .int s'.2.1), (4, .int s'.2.2)] [] s'.1) (fun e => llJq G 5 65 [(0, .ref (llAd G 69)), (1, .int v1), (2, .int v2), (3, .int e.2)] [] e.1)) 59 [(0, .ref (llAd G 69)), (1, .int v1), (2, .int v2), (3, .int v3), (4, .int v4)] [] u (fx_X12_needs_69_j59_b25 u v1 v2 v3 v4) := by
  unfold fx_X12_needs_69_j59_b25
  refine J_iinc (j := 4) (b := (-1)) (fun v4_6 => [(4, .int v4_6), (0, .ref (llAd G 69)), (1, .int v1), (2, .int v2), (3, .int v3)]) dX12_needs_59 rfl (by decide) (by decide) (fun _ => rfl) (fun v4_6 => ?_)
  refine J_goto (tgt := 25) dX12_needs_62 (by decide) ?_
  exact J_cut [1, 2, 3, 4, 0] (lv' := [(0, .ref (llAd G 69)), (1, .int v1), (2, .int v2), (3, .int v3), (4, .int v4_6)]) rfl (fun h => h)
def fx_X12_needs_69_l25 (v1 : Int32) (v2 : Int32) (s : llMem × Int32 × Int32) : Option ((llMem × Int32 × Int32) ⊕ (llMem × Int32)) := (if s.2.2 < 0 then some (.inr (s.1, s.2.1)) else gI (0 + v1) 1020 (lt (llSI s.1 77 (Int32.toNatClampNeg (0 + v1)) s.2.2) (fun u3 => bd (fx_X12_ends_69 u3 ) (fun u4 r5 => (if r5 = 0 then fx_X12_needs_69_j59_b25 u4 v1 v2 s.2.1 s.2.2 else gI v1 30 ((if (rI u4 92 v1) = 0 then fx_X12_needs_69_j59_b25 u4 v1 v2 s.2.1 s.2.2 else fx_X12_needs_69_j59_b25 u4 v1 v2 s.2.2 s.2.2)))))))
set_option maxRecDepth 20000 in
theorem t_X12_needs_69_l25 {G : llG} {d : Nat} (v1 : Int32) (v2 : Int32) (s : llMem × Int32 × Int32) : llJ G RX12 cX12_needs 5 (some .int) (d + 8) (Sum.elim (fun s' => llJq G 5 25 [(0, .ref (llAd G 69)), (1, .int v1), (2, .int v2), (3, .int s'.2.1), (4, .int s'.2.2)] [] s'.1) (fun e => llJq G 5 65 [(0, .ref (llAd G 69)), (1, .int v1), (2, .int v2), (3, .int e.2)] [] e.1)) 25 [(0, .ref (llAd G 69)), (1, .int v1), (2, .int v2), (3, .int s.2.1), (4, .int s.2.2)] [] s.1 (fx_X12_needs_69_l25 v1 v2 s) := by
  unfold fx_X12_needs_69_l25
  refine J_iload (j := 4) dX12_needs_25 rfl ?_
  refine J_if_lt (tgt := 65) dX12_needs_27 (by decide) ?_ ?_
  · exact J_cut [0, 1, 2, 3] (lv' := [(0, .ref (llAd G 69)), (1, .int v1), (2, .int v2), (3, .int s.2.1)]) rfl (fun h => h)
  · refine J_aload_n (j := 0) dX12_needs_30 rfl rfl ?_
    refine J_getR (b := 77) dX12_needs_31 fl_X12_32 sh_69 rfl ?_
    refine J_iconst (v := 0) dX12_needs_34 (by decide) ?_
    refine J_iload_n (j := 1) dX12_needs_35 rfl rfl ?_
    refine J_iadd dX12_needs_36 ?_
    refine J_iload (j := 4) dX12_needs_37 rfl ?_
    refine J_iast dX12_needs_39 sh_77 (fun u3 => ?_)
    refine J_aload_n (j := 0) dX12_needs_40 rfl rfl ?_
    refine J_callVi0 dX12_needs_41 (t_X12_ends_69 (llL G) (llFx G) d u3 ) ym_X12_ends wd_1509 sh_69 rfl (Nat.le_of_ble_eq_true rfl) (fun u4 r5 => ?_)
    refine J_if_eq (tgt := 59) dX12_needs_44 (by decide) ?_ ?_
    · refine J_sub [0, 1, 2, 3, 4] (lv' := [(0, .ref (llAd G 69)), (1, .int v1), (2, .int v2), (3, .int s.2.1), (4, .int s.2.2)]) rfl ?_
      exact t_X12_needs_69_j59_b25 u4 v1 v2 s.2.1 s.2.2
    · refine J_aload_n (j := 0) dX12_needs_47 rfl rfl ?_
      refine J_getR (b := 92) dX12_needs_48 fl_X12_82 sh_69 rfl ?_
      refine J_iload_n (j := 1) dX12_needs_51 rfl rfl ?_
      refine J_zald dX12_needs_52 sh_92 ?_
      refine J_if_eq (tgt := 59) dX12_needs_53 (by decide) ?_ ?_
      · refine J_sub [0, 1, 2, 3, 4] (lv' := [(0, .ref (llAd G 69)), (1, .int v1), (2, .int v2), (3, .int s.2.1), (4, .int s.2.2)]) rfl ?_
        exact t_X12_needs_69_j59_b25 u4 v1 v2 s.2.1 s.2.2
      · refine J_iload (j := 4) dX12_needs_56 rfl ?_
        refine J_istore_n [(3, .int s.2.2), (0, .ref (llAd G 69)), (1, .int v1), (2, .int v2), (4, .int s.2.2)] dX12_needs_58 rfl (by decide) rfl ?_
        refine J_sub [1, 2, 3, 0, 4] (lv' := [(0, .ref (llAd G 69)), (1, .int v1), (2, .int v2), (3, .int s.2.2), (4, .int s.2.2)]) rfl ?_
        exact t_X12_needs_69_j59_b25 u4 v1 v2 s.2.2 s.2.2
def fx_X12_needs_69 (u : llMem) (a0 : Int32) : Option (llMem × Int32) := (fx_X12_plays_69 u a0).bind (fun r1 => (if ¬ r1 = 0 then gI (0 + a0) 1020 (lt (rI u 77 (0 + a0)) (fun v2_2 => (loop (fx_X12_needs_69_l25 a0 v2_2) llFuel (u, (-1), 9)).bind (fun e7 => gI (0 + a0) 1020 (lt (llSI e7.1 77 (Int32.toNatClampNeg (0 + a0)) v2_2) (fun u8 => some (u8, e7.2)))))) else some (u, (-1))))
set_option maxRecDepth 20000 in
theorem tj_X12_needs_69 {G : llG} {d : Nat} (u : llMem) (a0 : Int32) : llJ G RX12 cX12_needs 5 (some .int) (d + 8) (fun r => llRet G (llI r.2) r.1) 0 [(0, .ref (llAd G 69)), (1, .int a0)] [] u (fx_X12_needs_69 u a0) := by
  unfold fx_X12_needs_69
  refine J_aload_n (j := 0) dX12_needs_0 rfl rfl ?_
  refine J_iload_n (j := 1) dX12_needs_1 rfl rfl ?_
  refine J_callVip1 dX12_needs_2 (t_X12_plays_69 (llL G) (llFx G) (d + 5) u a0) ym_X12_plays wd_1467 sh_69 rfl (Nat.le_of_ble_eq_true rfl) (fun r1 => ?_)
  refine J_if_ne (tgt := 10) dX12_needs_5 (by decide) ?_ ?_
  · refine J_aload_n (j := 0) dX12_needs_10 rfl rfl ?_
    refine J_getR (b := 77) dX12_needs_11 fl_X12_32 sh_69 rfl ?_
    refine J_iconst (v := 0) dX12_needs_14 (by decide) ?_
    refine J_iload_n (j := 1) dX12_needs_15 rfl rfl ?_
    refine J_iadd dX12_needs_16 ?_
    refine J_iald dX12_needs_17 sh_77 ?_
    refine J_istore_nL (fun v2_2 => [(2, .int v2_2), (0, .ref (llAd G 69)), (1, .int a0)]) dX12_needs_18 rfl (by decide) (fun _ => rfl) (fun v2_2 => ?_)
    refine J_iconst (v := (-1)) dX12_needs_19 (by decide) ?_
    refine J_istore_n [(3, .int ((-1))), (2, .int v2_2), (0, .ref (llAd G 69)), (1, .int a0)] dX12_needs_20 rfl (by decide) rfl ?_
    refine J_bipush (v := 9) dX12_needs_21 (by decide) ?_
    refine J_istore [(4, .int 9), (3, .int ((-1))), (2, .int v2_2), (0, .ref (llAd G 69)), (1, .int a0)] dX12_needs_23 (by decide) rfl ?_
    refine J_loopE (fun s' => [(0, .ref (llAd G 69)), (1, .int a0), (2, .int v2_2), (3, .int s'.2.1), (4, .int s'.2.2)]) (fun s' => s'.1) 65 (fun e => [(0, .ref (llAd G 69)), (1, .int a0), (2, .int v2_2), (3, .int e.2)]) (fun e => e.1) (fun z => t_X12_needs_69_l25 a0 v2_2 z) [3, 4, 2, 1, 0] rfl rfl (fun e7 => ?_)
    refine J_aload_n (j := 0) dX12_needs_65 rfl rfl ?_
    refine J_getR (b := 77) dX12_needs_66 fl_X12_32 sh_69 rfl ?_
    refine J_iconst (v := 0) dX12_needs_69 (by decide) ?_
    refine J_iload_n (j := 1) dX12_needs_70 rfl rfl ?_
    refine J_iadd dX12_needs_71 ?_
    refine J_iload_n (j := 2) dX12_needs_72 rfl rfl ?_
    refine J_iast dX12_needs_73 sh_77 (fun u8 => ?_)
    refine J_iload_n (j := 3) dX12_needs_74 rfl rfl ?_
    exact J_iret dX12_needs_75 (fun h => h)
  · refine J_iconst (v := (-1)) dX12_needs_8 (by decide) ?_
    exact J_iret dX12_needs_9 (fun h => h)
theorem t_X12_needs_69 (l : Launch) (F : llFix) (d : Nat) (u : llMem) (a0 : Int32) : llCt l F yX12_needs cX12_needs 5 (some .int) (d + 8) [.ref (F.2.2.1 69), .int a0] u llI (fx_X12_needs_69 u a0) := llCt.of (by decide +kernel) (by exact Nat.le_of_ble_eq_true rfl) (fun G h1 h2 => by subst h1; subst h2; exact tj_X12_needs_69 u a0)
def fx_X11_parted_0 (u : llMem) (a0 : Int32) : Option (llMem × Int32) := (fx_X5_plays_3 u a0).bind (fun r1 => (if ¬ r1 = 0 then gI a0 30 (bd (fx_X4_partAnew_52 u (rI u 12 a0)) (fun u2 _ => gI a0 30 (some (u2, rI u2 55 a0)))) else some (u, (-1))))
set_option maxRecDepth 20000 in
theorem tj_X11_parted_0 {G : llG} {d : Nat} (u : llMem) (a0 : Int32) : llJ G RX11 cX11_parted 2 (some .int) (d + 44) (fun r => llRet G (llI r.2) r.1) 0 [(0, .ref (llAd G 0)), (1, .int a0)] [] u (fx_X11_parted_0 u a0) := by
  unfold fx_X11_parted_0
  refine J_aload_n (j := 0) dX11_parted_0 rfl rfl ?_
  refine J_getR (b := 3) dX11_parted_1 fl_X11_19 sh_0 rfl ?_
  refine J_iload_n (j := 1) dX11_parted_4 rfl rfl ?_
  refine J_callVip1 dX11_parted_5 (t_X5_plays_3 (llL G) (llFx G) (d + 42) u a0) ym_X5_plays wd_725 sh_3 rfl (Nat.le_of_ble_eq_true rfl) (fun r1 => ?_)
  refine J_if_ne (tgt := 13) dX11_parted_8 (by decide) ?_ ?_
  · refine J_aload_n (j := 0) dX11_parted_13 rfl rfl ?_
    refine J_getR (b := 52) dX11_parted_14 fl_X11_78 sh_0 rfl ?_
    refine J_aload_n (j := 0) dX11_parted_17 rfl rfl ?_
    refine J_getR (b := 3) dX11_parted_18 fl_X11_19 sh_0 rfl ?_
    refine J_getR (b := 12) dX11_parted_21 fl_X11_176 sh_3 rfl ?_
    refine J_iload_n (j := 1) dX11_parted_24 rfl rfl ?_
    refine J_iald dX11_parted_25 sh_12 ?_
    refine J_callVv1 dX11_parted_26 (t_X4_partAnew_52 (llL G) (llFx G) d u (rI u 12 a0)) ym_X4_partAnew wd_972 sh_52 rfl (Nat.le_of_ble_eq_true rfl) (fun u2 => ?_)
    refine J_aload_n (j := 0) dX11_parted_29 rfl rfl ?_
    refine J_getR (b := 52) dX11_parted_30 fl_X11_78 sh_0 rfl ?_
    refine J_getR (b := 55) dX11_parted_33 fl_X11_306 sh_52 rfl ?_
    refine J_iload_n (j := 1) dX11_parted_36 rfl rfl ?_
    refine J_iald dX11_parted_37 sh_55 ?_
    exact J_iret dX11_parted_38 (fun h => h)
  · refine J_iconst (v := (-1)) dX11_parted_11 (by decide) ?_
    exact J_iret dX11_parted_12 (fun h => h)
theorem t_X11_parted_0 (l : Launch) (F : llFix) (d : Nat) (u : llMem) (a0 : Int32) : llCt l F yX11_parted cX11_parted 2 (some .int) (d + 44) [.ref (F.2.2.1 0), .int a0] u llI (fx_X11_parted_0 u a0) := llCt.of (by decide +kernel) (by exact Nat.le_of_ble_eq_true rfl) (fun G h1 h2 => by subst h1; subst h2; exact tj_X11_parted_0 u a0)
def fx_X12_parted_69_l22 (u : llMem) (v1 : Int32) (s : Int32) : Option ((Int32) ⊕ (Int32)) := gI s 12 ((if (rI u 88 s) = v1 then some (.inr s) else lt (s + 1) (fun v2_3 => some (.inl v2_3))))
set_option maxRecDepth 20000 in
theorem t_X12_parted_69_l22 {G : llG} {d : Nat} (u : llMem) (v1 : Int32) (s : Int32) : llJ G RX12 cX12_parted 3 (some .int) (d + 42) (Sum.elim (fun s' => llJq G 3 22 [(0, .ref (llAd G 69)), (1, .int v1), (2, .int s')] [] u) (fun e => llJq G 3 38 [(0, .ref (llAd G 69)), (2, .int e)] [] u)) 22 [(0, .ref (llAd G 69)), (1, .int v1), (2, .int s)] [] u (fx_X12_parted_69_l22 u v1 s) := by
  unfold fx_X12_parted_69_l22
  refine J_aload_n (j := 0) dX12_parted_22 rfl rfl ?_
  refine J_getR (b := 88) dX12_parted_23 fl_X12_70 sh_69 rfl ?_
  refine J_iload_n (j := 2) dX12_parted_26 rfl rfl ?_
  refine J_iald dX12_parted_27 sh_88 ?_
  refine J_iload_n (j := 1) dX12_parted_28 rfl rfl ?_
  refine J_icmp_eq (tgt := 38) dX12_parted_29 (by decide) ?_ ?_
  · exact J_cut [0, 2] (lv' := [(0, .ref (llAd G 69)), (2, .int s)]) rfl (fun h => h)
  · refine J_iinc (j := 2) (b := 1) (fun v2_3 => [(2, .int v2_3), (0, .ref (llAd G 69)), (1, .int v1)]) dX12_parted_32 rfl (by decide) (by decide) (fun _ => rfl) (fun v2_3 => ?_)
    refine J_goto (tgt := 22) dX12_parted_35 (by decide) ?_
    exact J_cut [1, 2, 0] (lv' := [(0, .ref (llAd G 69)), (1, .int v1), (2, .int v2_3)]) rfl (fun h => h)
def fx_X12_parted_69 (u : llMem) (a0 : Int32) : Option (llMem × Int32) := (fx_X12_plays_69 u a0).bind (fun r1 => (if ¬ r1 = 0 then gI a0 60 (bd (fx_X12_laysParts_69 u (rI u 74 a0)) (fun u2 _ => (loop (fx_X12_parted_69_l22 u2 a0) llFuel 0).bind (fun e4 => gI e4 12 (some (u2, rI u2 91 e4))))) else some (u, (-1))))
set_option maxRecDepth 20000 in
theorem tj_X12_parted_69 {G : llG} {d : Nat} (u : llMem) (a0 : Int32) : llJ G RX12 cX12_parted 3 (some .int) (d + 42) (fun r => llRet G (llI r.2) r.1) 0 [(0, .ref (llAd G 69)), (1, .int a0)] [] u (fx_X12_parted_69 u a0) := by
  unfold fx_X12_parted_69
  refine J_aload_n (j := 0) dX12_parted_0 rfl rfl ?_
  refine J_iload_n (j := 1) dX12_parted_1 rfl rfl ?_
  refine J_callVip1 dX12_parted_2 (t_X12_plays_69 (llL G) (llFx G) (d + 39) u a0) ym_X12_plays wd_1467 sh_69 rfl (Nat.le_of_ble_eq_true rfl) (fun r1 => ?_)
  refine J_if_ne (tgt := 10) dX12_parted_5 (by decide) ?_ ?_
  · refine J_aload_n (j := 0) dX12_parted_10 rfl rfl ?_
    refine J_aload_n (j := 0) dX12_parted_11 rfl rfl ?_
    refine J_getR (b := 74) dX12_parted_12 fl_X12_23 sh_69 rfl ?_
    refine J_iload_n (j := 1) dX12_parted_15 rfl rfl ?_
    refine J_iald dX12_parted_16 sh_74 ?_
    refine J_callVv1 dX12_parted_17 (t_X12_laysParts_69 (llL G) (llFx G) d u (rI u 74 a0)) ym_X12_laysParts wd_1573 sh_69 rfl (Nat.le_of_ble_eq_true rfl) (fun u2 => ?_)
    refine J_iconst (v := 0) dX12_parted_20 (by decide) ?_
    refine J_istore_n [(2, .int 0), (0, .ref (llAd G 69)), (1, .int a0)] dX12_parted_21 rfl (by decide) rfl ?_
    refine J_loopE (fun s' => [(0, .ref (llAd G 69)), (1, .int a0), (2, .int s')]) (fun s' => u2) 38 (fun e => [(0, .ref (llAd G 69)), (2, .int e)]) (fun e => u2) (fun z => t_X12_parted_69_l22 u2 a0 z) [1, 2, 0] rfl rfl (fun e4 => ?_)
    refine J_aload_n (j := 0) dX12_parted_38 rfl rfl ?_
    refine J_getR (b := 91) dX12_parted_39 fl_X12_79 sh_69 rfl ?_
    refine J_iload_n (j := 1) dX12_parted_42 rfl rfl ?_
    refine J_iald dX12_parted_43 sh_91 ?_
    exact J_iret dX12_parted_44 (fun h => h)
  · refine J_iconst (v := (-1)) dX12_parted_8 (by decide) ?_
    exact J_iret dX12_parted_9 (fun h => h)
theorem t_X12_parted_69 (l : Launch) (F : llFix) (d : Nat) (u : llMem) (a0 : Int32) : llCt l F yX12_parted cX12_parted 3 (some .int) (d + 42) [.ref (F.2.2.1 69), .int a0] u llI (fx_X12_parted_69 u a0) := llCt.of (by decide +kernel) (by exact Nat.le_of_ble_eq_true rfl) (fun G h1 h2 => by subst h1; subst h2; exact tj_X12_parted_69 u a0)
def fx_X5_gather_3_50_j39_b5 (u : llMem) (v1 : Int32) (v3 : Int32) (v4 : Int32) : Option ((llMem × Int32 × Int32) ⊕ (llMem × Int32)) := lt (v4 + 1) (fun v4_1 => some (.inl (u, v3, v4_1)))
set_option maxRecDepth 20000 in
theorem t_X5_gather_3_50_j39_b5 {G : llG} {d : Nat} (u : llMem) (v1 : Int32) (v3 : Int32) (v4 : Int32) : llJ G RX5 cX5_gather 5 (some .int) d (Sum.elim (fun s' => llJq G 5 5 [(0, .ref (llAd G 3)), (1, .int v1), (2, .ref (llAd G 50)), (3, .int s'.2.1), (4, .int s'.2.2)] [] s'.1) (fun e => llJq G 5 45 [(3, .int e.2)] [] e.1)) 39 [(0, .ref (llAd G 3)), (1, .int v1), (2, .ref (llAd G 50)), (3, .int v3), (4, .int v4)] [] u (fx_X5_gather_3_50_j39_b5 u v1 v3 v4) := by
  unfold fx_X5_gather_3_50_j39_b5
  refine J_iinc (j := 4) (b := 1) (fun v4_1 => [(4, .int v4_1), (0, .ref (llAd G 3)), (1, .int v1), (2, .ref (llAd G 50)), (3, .int v3)]) dX5_gather_39 rfl (by decide) (by decide) (fun _ => rfl) (fun v4_1 => ?_)
  refine J_goto (tgt := 5) dX5_gather_42 (by decide) ?_
  exact J_cut [1, 2, 3, 4, 0] (lv' := [(0, .ref (llAd G 3)), (1, .int v1), (2, .ref (llAd G 50)), (3, .int v3), (4, .int v4_1)]) rfl (fun h => h)
def fx_X5_gather_3_50_l5 (v1 : Int32) (s : llMem × Int32 × Int32) : Option ((llMem × Int32 × Int32) ⊕ (llMem × Int32)) := (if (s.1.1 3 5) ≤ s.2.2 then some (.inr (s.1, s.2.1)) else gI s.2.2 30 ((if ¬ (rI s.1 12 s.2.2) = v1 then fx_X5_gather_3_50_j39_b5 s.1 v1 s.2.1 s.2.2 else (if 12 ≤ s.2.1 then fx_X5_gather_3_50_j39_b5 s.1 v1 s.2.1 s.2.2 else gI s.2.1 12 (lt (llSI s.1 50 (Int32.toNatClampNeg s.2.1) s.2.2) (fun u2 => lt (s.2.1 + 1) (fun v3_3 => fx_X5_gather_3_50_j39_b5 u2 v1 v3_3 s.2.2)))))))
set_option maxRecDepth 20000 in
theorem t_X5_gather_3_50_l5 {G : llG} {d : Nat} (v1 : Int32) (s : llMem × Int32 × Int32) : llJ G RX5 cX5_gather 5 (some .int) d (Sum.elim (fun s' => llJq G 5 5 [(0, .ref (llAd G 3)), (1, .int v1), (2, .ref (llAd G 50)), (3, .int s'.2.1), (4, .int s'.2.2)] [] s'.1) (fun e => llJq G 5 45 [(3, .int e.2)] [] e.1)) 5 [(0, .ref (llAd G 3)), (1, .int v1), (2, .ref (llAd G 50)), (3, .int s.2.1), (4, .int s.2.2)] [] s.1 (fx_X5_gather_3_50_l5 v1 s) := by
  unfold fx_X5_gather_3_50_l5
  refine J_iload (j := 4) dX5_gather_5 rfl ?_
  refine J_aload_n (j := 0) dX5_gather_7 rfl rfl ?_
  refine J_getI dX5_gather_8 fl_X5_53 sh_3 rfl ?_
  refine J_icmp_ge (tgt := 45) dX5_gather_11 (by decide) ?_ ?_
  · exact J_cut [3] (lv' := [(3, .int s.2.1)]) rfl (fun h => h)
  · refine J_aload_n (j := 0) dX5_gather_14 rfl rfl ?_
    refine J_getR (b := 12) dX5_gather_15 fl_X5_37 sh_3 rfl ?_
    refine J_iload (j := 4) dX5_gather_18 rfl ?_
    refine J_iald dX5_gather_20 sh_12 ?_
    refine J_iload_n (j := 1) dX5_gather_21 rfl rfl ?_
    refine J_icmp_ne (tgt := 39) dX5_gather_22 (by decide) ?_ ?_
    · refine J_sub [0, 1, 2, 3, 4] (lv' := [(0, .ref (llAd G 3)), (1, .int v1), (2, .ref (llAd G 50)), (3, .int s.2.1), (4, .int s.2.2)]) rfl ?_
      exact t_X5_gather_3_50_j39_b5 s.1 v1 s.2.1 s.2.2
    · refine J_iload_n (j := 3) dX5_gather_25 rfl rfl ?_
      refine J_aload_n (j := 2) dX5_gather_26 rfl rfl ?_
      refine J_alen (v := 12) dX5_gather_27 sh_50 (by decide) (by decide) ?_
      refine J_icmp_ge (tgt := 39) dX5_gather_28 (by decide) ?_ ?_
      · refine J_sub [0, 1, 2, 3, 4] (lv' := [(0, .ref (llAd G 3)), (1, .int v1), (2, .ref (llAd G 50)), (3, .int s.2.1), (4, .int s.2.2)]) rfl ?_
        exact t_X5_gather_3_50_j39_b5 s.1 v1 s.2.1 s.2.2
      · refine J_aload_n (j := 2) dX5_gather_31 rfl rfl ?_
        refine J_iload_n (j := 3) dX5_gather_32 rfl rfl ?_
        refine J_iload (j := 4) dX5_gather_33 rfl ?_
        refine J_iast dX5_gather_35 sh_50 (fun u2 => ?_)
        refine J_iinc (j := 3) (b := 1) (fun v3_3 => [(3, .int v3_3), (0, .ref (llAd G 3)), (1, .int v1), (2, .ref (llAd G 50)), (4, .int s.2.2)]) dX5_gather_36 rfl (by decide) (by decide) (fun _ => rfl) (fun v3_3 => ?_)
        refine J_sub [1, 2, 3, 0, 4] (lv' := [(0, .ref (llAd G 3)), (1, .int v1), (2, .ref (llAd G 50)), (3, .int v3_3), (4, .int s.2.2)]) rfl ?_
        exact t_X5_gather_3_50_j39_b5 u2 v1 v3_3 s.2.2
def fx_X5_gather_3_50 (u : llMem) (a0 : Int32) : Option (llMem × Int32) := (loop (fx_X5_gather_3_50_l5 a0) llFuel (u, 0, 0)).bind (fun e4 => some (e4.1, e4.2))
set_option maxRecDepth 20000 in
theorem tj_X5_gather_3_50 {G : llG} {d : Nat} (u : llMem) (a0 : Int32) : llJ G RX5 cX5_gather 5 (some .int) d (fun r => llRet G (llI r.2) r.1) 0 [(0, .ref (llAd G 3)), (1, .int a0), (2, .ref (llAd G 50))] [] u (fx_X5_gather_3_50 u a0) := by
  unfold fx_X5_gather_3_50
  refine J_iconst (v := 0) dX5_gather_0 (by decide) ?_
  refine J_istore_n [(3, .int 0), (0, .ref (llAd G 3)), (1, .int a0), (2, .ref (llAd G 50))] dX5_gather_1 rfl (by decide) rfl ?_
  refine J_iconst (v := 0) dX5_gather_2 (by decide) ?_
  refine J_istore [(4, .int 0), (3, .int 0), (0, .ref (llAd G 3)), (1, .int a0), (2, .ref (llAd G 50))] dX5_gather_3 (by decide) rfl ?_
  refine J_loopE (fun s' => [(0, .ref (llAd G 3)), (1, .int a0), (2, .ref (llAd G 50)), (3, .int s'.2.1), (4, .int s'.2.2)]) (fun s' => s'.1) 45 (fun e => [(3, .int e.2)]) (fun e => e.1) (fun z => t_X5_gather_3_50_l5 a0 z) [2, 3, 4, 1, 0] rfl rfl (fun e4 => ?_)
  refine J_iload_n (j := 0) dX5_gather_45 rfl rfl ?_
  exact J_iret dX5_gather_46 (fun h => h)
theorem t_X5_gather_3_50 (l : Launch) (F : llFix) (d : Nat) (u : llMem) (a0 : Int32) : llCt l F yX5_gather cX5_gather 5 (some .int) d [.ref (F.2.2.1 3), .int a0, .ref (F.2.2.1 50)] u llI (fx_X5_gather_3_50 u a0) := llCt.of (by decide +kernel) (by exact Nat.le_of_ble_eq_true rfl) (fun G h1 h2 => by subst h1; subst h2; exact tj_X5_gather_3_50 u a0)
def fx_X10_survey_48_l28_b18 (v1 : Int32) (v2 : Int32) (s : llMem × Int32) : Option ((llMem × Int32) ⊕ (llMem)) := (if 3 ≤ s.2 then some (.inr s.1) else gI v2 12 ((fx_X10_toDivision_48 s.1 (rI s.1 50 v2) v1 s.2).bind (fun r4 => gI ((v2 * 3) + s.2) 36 (lt (llSI s.1 51 (Int32.toNatClampNeg ((v2 * 3) + s.2)) r4) (fun u5 => lt (s.2 + 1) (fun v3_6 => some (.inl (u5, v3_6))))))))
set_option maxRecDepth 20000 in
theorem t_X10_survey_48_l28_b18 {G : llG} {d : Nat} (v1 : Int32) (v2 : Int32) (s : llMem × Int32) : llJ G RX10 cX10_survey 4 none (d + 2) (Sum.elim (fun s' => llJq G 4 28 [(0, .ref (llAd G 48)), (1, .int v1), (2, .int v2), (3, .int s'.2)] [] s'.1) (fun e => llJq G 4 61 [(0, .ref (llAd G 48)), (1, .int v1), (2, .int v2)] [] e)) 28 [(0, .ref (llAd G 48)), (1, .int v1), (2, .int v2), (3, .int s.2)] [] s.1 (fx_X10_survey_48_l28_b18 v1 v2 s) := by
  unfold fx_X10_survey_48_l28_b18
  refine J_iload_n (j := 3) dX10_survey_28 rfl rfl ?_
  refine J_iconst (v := 3) dX10_survey_29 (by decide) ?_
  refine J_icmp_ge (tgt := 61) dX10_survey_30 (by decide) ?_ ?_
  · exact J_cut [0, 1, 2] (lv' := [(0, .ref (llAd G 48)), (1, .int v1), (2, .int v2)]) rfl (fun h => h)
  · refine J_aload_n (j := 0) dX10_survey_33 rfl rfl ?_
    refine J_getR (b := 51) dX10_survey_34 fl_X10_22 sh_48 rfl ?_
    refine J_iload_n (j := 2) dX10_survey_37 rfl rfl ?_
    refine J_iconst (v := 3) dX10_survey_38 (by decide) ?_
    refine J_imul dX10_survey_39 ?_
    refine J_iload_n (j := 3) dX10_survey_40 rfl rfl ?_
    refine J_iadd dX10_survey_41 ?_
    refine J_aload_n (j := 0) dX10_survey_42 rfl rfl ?_
    refine J_aload_n (j := 0) dX10_survey_43 rfl rfl ?_
    refine J_getR (b := 50) dX10_survey_44 fl_X10_19 sh_48 rfl ?_
    refine J_iload_n (j := 2) dX10_survey_47 rfl rfl ?_
    refine J_iald dX10_survey_48 sh_50 ?_
    refine J_iload_n (j := 1) dX10_survey_49 rfl rfl ?_
    refine J_iload_n (j := 3) dX10_survey_50 rfl rfl ?_
    refine J_callVip3 dX10_survey_51 (t_X10_toDivision_48 (llL G) (llFx G) d s.1 (rI s.1 50 v2) v1 s.2) ym_X10_toDivision wd_971 sh_48 rfl (Nat.le_of_ble_eq_true rfl) (fun r4 => ?_)
    refine J_iast dX10_survey_54 sh_51 (fun u5 => ?_)
    refine J_iinc (j := 3) (b := 1) (fun v3_6 => [(3, .int v3_6), (0, .ref (llAd G 48)), (1, .int v1), (2, .int v2)]) dX10_survey_55 rfl (by decide) (by decide) (fun _ => rfl) (fun v3_6 => ?_)
    refine J_goto (tgt := 28) dX10_survey_58 (by decide) ?_
    exact J_cut [1, 2, 3, 0] (lv' := [(0, .ref (llAd G 48)), (1, .int v1), (2, .int v2), (3, .int v3_6)]) rfl (fun h => h)
def fx_X10_survey_48_l18 (v1 : Int32) (s : llMem × Int32) : Option ((llMem × Int32) ⊕ (llMem)) := (if (s.1.1 48 2) ≤ s.2 then some (.inr s.1) else (loop (fx_X10_survey_48_l28_b18 v1 s.2) llFuel (s.1, 0)).bind (fun e7 => lt (s.2 + 1) (fun v2_8 => some (.inl (e7, v2_8)))))
set_option maxRecDepth 20000 in
theorem t_X10_survey_48_l18 {G : llG} {d : Nat} (v1 : Int32) (s : llMem × Int32) : llJ G RX10 cX10_survey 4 none (d + 2) (Sum.elim (fun s' => llJq G 4 18 [(0, .ref (llAd G 48)), (1, .int v1), (2, .int s'.2)] [] s'.1) (fun e => llJq G 4 67 [] [] e)) 18 [(0, .ref (llAd G 48)), (1, .int v1), (2, .int s.2)] [] s.1 (fx_X10_survey_48_l18 v1 s) := by
  unfold fx_X10_survey_48_l18
  refine J_iload_n (j := 2) dX10_survey_18 rfl rfl ?_
  refine J_aload_n (j := 0) dX10_survey_19 rfl rfl ?_
  refine J_getI dX10_survey_20 fl_X10_63 sh_48 rfl ?_
  refine J_icmp_ge (tgt := 67) dX10_survey_23 (by decide) ?_ ?_
  · exact J_cut [] (lv' := []) rfl (fun h => h)
  · refine J_iconst (v := 0) dX10_survey_26 (by decide) ?_
    refine J_istore_n [(3, .int 0), (0, .ref (llAd G 48)), (1, .int v1), (2, .int s.2)] dX10_survey_27 rfl (by decide) rfl ?_
    refine J_loopE (fun s' => [(0, .ref (llAd G 48)), (1, .int v1), (2, .int s.2), (3, .int s'.2)]) (fun s' => s'.1) 61 (fun e => [(0, .ref (llAd G 48)), (1, .int v1), (2, .int s.2)]) (fun e => e) (fun z => t_X10_survey_48_l28_b18 v1 s.2 z) [1, 2, 3, 0] rfl rfl (fun e7 => ?_)
    refine J_iinc (j := 2) (b := 1) (fun v2_8 => [(2, .int v2_8), (0, .ref (llAd G 48)), (1, .int v1)]) dX10_survey_61 rfl (by decide) (by decide) (fun _ => rfl) (fun v2_8 => ?_)
    refine J_goto (tgt := 18) dX10_survey_64 (by decide) ?_
    exact J_cut [1, 2, 0] (lv' := [(0, .ref (llAd G 48)), (1, .int v1), (2, .int v2_8)]) rfl (fun h => h)
def fx_X10_survey_48 (u : llMem) (a0 : Int32) : Option (llMem × Unit) := bd (fx_X5_gather_3_50 u a0) (fun u1 r2 => lt (llSI u1 48 2 r2) (fun u3 => (loop (fx_X10_survey_48_l18 a0) llFuel (u3, 0)).bind (fun e9 => some (e9, ()))))
set_option maxRecDepth 20000 in
theorem tj_X10_survey_48 {G : llG} {d : Nat} (u : llMem) (a0 : Int32) : llJ G RX10 cX10_survey 4 none (d + 2) (fun r => llRet G (llVd r.2) r.1) 0 [(0, .ref (llAd G 48)), (1, .int a0)] [] u (fx_X10_survey_48 u a0) := by
  unfold fx_X10_survey_48
  refine J_aload_n (j := 0) dX10_survey_0 rfl rfl ?_
  refine J_aload_n (j := 0) dX10_survey_1 rfl rfl ?_
  refine J_getR (b := 3) dX10_survey_2 fl_X10_9 sh_48 rfl ?_
  refine J_iload_n (j := 1) dX10_survey_5 rfl rfl ?_
  refine J_aload_n (j := 0) dX10_survey_6 rfl rfl ?_
  refine J_getR (b := 50) dX10_survey_7 fl_X10_19 sh_48 rfl ?_
  refine J_callVi2 dX10_survey_10 (t_X5_gather_3_50 (llL G) (llFx G) (d + 1) u a0) ym_X5_gather wd_1011 sh_3 rfl (Nat.le_of_ble_eq_true rfl) (fun u1 r2 => ?_)
  refine J_putI dX10_survey_13 fl_X10_63 sh_48 rfl (fun u3 => ?_)
  refine J_iconst (v := 0) dX10_survey_16 (by decide) ?_
  refine J_istore_n [(2, .int 0), (0, .ref (llAd G 48)), (1, .int a0)] dX10_survey_17 rfl (by decide) rfl ?_
  refine J_loopE (fun s' => [(0, .ref (llAd G 48)), (1, .int a0), (2, .int s'.2)]) (fun s' => s'.1) 67 (fun e => []) (fun e => e) (fun z => t_X10_survey_48_l18 a0 z) [1, 2, 0] rfl rfl (fun e9 => ?_)
  exact J_vret dX10_survey_67 (fun h => h)
theorem t_X10_survey_48 (l : Launch) (F : llFix) (d : Nat) (u : llMem) (a0 : Int32) : llCt l F yX10_survey cX10_survey 4 none (d + 2) [.ref (F.2.2.1 48), .int a0] u llVd (fx_X10_survey_48 u a0) := llCt.of (by decide +kernel) (by exact Nat.le_of_ble_eq_true rfl) (fun G h1 h2 => by subst h1; subst h2; exact tj_X10_survey_48 u a0)
def fx_X10_divisionOf_48 (u : llMem) (a0 : Int32) : Option Int32 := gI a0 12 (gI (rI u 50 a0) 30 (some (rI u 13 (rI u 50 a0))))
set_option maxRecDepth 20000 in
theorem tj_X10_divisionOf_48 {G : llG} {d : Nat} (u : llMem) (a0 : Int32) : llJ G RX10 cX10_divisionOf 2 (some .int) d (fun r => llRet G (llI r) u) 0 [(0, .ref (llAd G 48)), (1, .int a0)] [] u (fx_X10_divisionOf_48 u a0) := by
  unfold fx_X10_divisionOf_48
  refine J_aload_n (j := 0) dX10_divisionOf_0 rfl rfl ?_
  refine J_getR (b := 3) dX10_divisionOf_1 fl_X10_9 sh_48 rfl ?_
  refine J_getR (b := 13) dX10_divisionOf_4 fl_X10_66 sh_3 rfl ?_
  refine J_aload_n (j := 0) dX10_divisionOf_7 rfl rfl ?_
  refine J_getR (b := 50) dX10_divisionOf_8 fl_X10_19 sh_48 rfl ?_
  refine J_iload_n (j := 1) dX10_divisionOf_11 rfl rfl ?_
  refine J_iald dX10_divisionOf_12 sh_50 ?_
  refine J_iald dX10_divisionOf_13 sh_13 ?_
  exact J_iret dX10_divisionOf_14 (fun h => h)
theorem t_X10_divisionOf_48 (l : Launch) (F : llFix) (d : Nat) (u : llMem) (a0 : Int32) : llCp l F yX10_divisionOf cX10_divisionOf 2 (some .int) d [.ref (F.2.2.1 48), .int a0] u llI (fx_X10_divisionOf_48 u a0) := llCp.of (by decide +kernel) (by exact Nat.le_of_ble_eq_true rfl) (fun G h1 h2 => by subst h1; subst h2; exact tj_X10_divisionOf_48 u a0)
def fx_X10_findSwap_48_j92_b24_b12 (u : llMem) (v2 : Int32) (v3 : Int32) : Option ((llMem × Int32) ⊕ (llMem)) := lt (v3 + 1) (fun v3_6 => some (.inl (u, v3_6)))
set_option maxRecDepth 20000 in
theorem t_X10_findSwap_48_j92_b24_b12 {G : llG} {d : Nat} (u : llMem) (v2 : Int32) (v3 : Int32) : llJ G RX10 cX10_findSwap 5 (some .boolean) (d + 3) (Sum.elim (fun s' => llJq G 5 24 [(0, .ref (llAd G 48)), (2, .int v2), (3, .int s'.2)] [] s'.1) (fun e => llJq G 5 98 [(0, .ref (llAd G 48)), (2, .int v2)] [] e)) 92 [(0, .ref (llAd G 48)), (2, .int v2), (3, .int v3)] [] u (fx_X10_findSwap_48_j92_b24_b12 u v2 v3) := by
  unfold fx_X10_findSwap_48_j92_b24_b12
  refine J_iinc (j := 2) (b := 1) (fun v3_6 => [(3, .int v3_6), (0, .ref (llAd G 48)), (2, .int v2)]) dX10_findSwap_92 rfl (by decide) (by decide) (fun _ => rfl) (fun v3_6 => ?_)
  refine J_goto (tgt := 24) dX10_findSwap_95 (by decide) ?_
  exact J_cut [1, 2, 0] (lv' := [(0, .ref (llAd G 48)), (2, .int v2), (3, .int v3_6)]) rfl (fun h => h)
def fx_X10_findSwap_48_j55_b24_b12 (u : llMem) (v2 : Int32) (v3 : Int32) (t0 : Int32) : Option ((llMem × Int32) ⊕ (llMem)) := (if t0 ≤ (u.1 48 5) then fx_X10_findSwap_48_j92_b24_b12 u v2 v3 else lt (llSI u 48 5 t0) (fun u7 => gI v2 12 (lt (llSI u7 48 6 (rI u7 50 v2)) (fun u8 => gI v3 12 (lt (llSI u8 48 7 (rI u8 50 v3)) (fun u9 => fx_X10_findSwap_48_j92_b24_b12 u9 v2 v3))))))
set_option maxRecDepth 20000 in
theorem t_X10_findSwap_48_j55_b24_b12 {G : llG} {d : Nat} (u : llMem) (v2 : Int32) (v3 : Int32) (t0 : Int32) : llJ G RX10 cX10_findSwap 5 (some .boolean) (d + 3) (Sum.elim (fun s' => llJq G 5 24 [(0, .ref (llAd G 48)), (2, .int v2), (3, .int s'.2)] [] s'.1) (fun e => llJq G 5 98 [(0, .ref (llAd G 48)), (2, .int v2)] [] e)) 55 [(0, .ref (llAd G 48)), (2, .int v2), (3, .int v3)] [.int t0] u (fx_X10_findSwap_48_j55_b24_b12 u v2 v3 t0) := by
  unfold fx_X10_findSwap_48_j55_b24_b12
  refine J_istore [(4, .int t0), (0, .ref (llAd G 48)), (2, .int v2), (3, .int v3)] dX10_findSwap_55 (by decide) rfl ?_
  refine J_iload (j := 0) dX10_findSwap_57 rfl ?_
  refine J_aload_n (j := 1) dX10_findSwap_59 rfl rfl ?_
  refine J_getI dX10_findSwap_60 fl_X10_73 sh_48 rfl ?_
  refine J_icmp_le (tgt := 92) dX10_findSwap_63 (by decide) ?_ ?_
  · refine J_sub [1, 2, 3] (lv' := [(0, .ref (llAd G 48)), (2, .int v2), (3, .int v3)]) rfl ?_
    exact t_X10_findSwap_48_j92_b24_b12 u v2 v3
  · refine J_aload_n (j := 1) dX10_findSwap_66 rfl rfl ?_
    refine J_iload (j := 0) dX10_findSwap_67 rfl ?_
    refine J_putI dX10_findSwap_69 fl_X10_73 sh_48 rfl (fun u7 => ?_)
    refine J_aload_n (j := 1) dX10_findSwap_72 rfl rfl ?_
    refine J_aload_n (j := 1) dX10_findSwap_73 rfl rfl ?_
    refine J_getR (b := 50) dX10_findSwap_74 fl_X10_19 sh_48 rfl ?_
    refine J_iload_n (j := 2) dX10_findSwap_77 rfl rfl ?_
    refine J_iald dX10_findSwap_78 sh_50 ?_
    refine J_putI dX10_findSwap_79 fl_X10_82 sh_48 rfl (fun u8 => ?_)
    refine J_aload_n (j := 1) dX10_findSwap_82 rfl rfl ?_
    refine J_aload_n (j := 1) dX10_findSwap_83 rfl rfl ?_
    refine J_getR (b := 50) dX10_findSwap_84 fl_X10_19 sh_48 rfl ?_
    refine J_iload_n (j := 3) dX10_findSwap_87 rfl rfl ?_
    refine J_iald dX10_findSwap_88 sh_50 ?_
    refine J_putI dX10_findSwap_89 fl_X10_85 sh_48 rfl (fun u9 => ?_)
    refine J_sub [1, 2, 3] (lv' := [(0, .ref (llAd G 48)), (2, .int v2), (3, .int v3)]) rfl ?_
    exact t_X10_findSwap_48_j92_b24_b12 u9 v2 v3
def fx_X10_farFrom_48 (u : llMem) (a0 : Int32) (a1 : Int32) : Option Int32 := gI ((a0 * 3) + a1) 36 (some (rI u 51 ((a0 * 3) + a1)))
set_option maxRecDepth 20000 in
theorem tj_X10_farFrom_48 {G : llG} {d : Nat} (u : llMem) (a0 : Int32) (a1 : Int32) : llJ G RX10 cX10_farFrom 3 (some .int) d (fun r => llRet G (llI r) u) 0 [(0, .ref (llAd G 48)), (1, .int a0), (2, .int a1)] [] u (fx_X10_farFrom_48 u a0 a1) := by
  unfold fx_X10_farFrom_48
  refine J_aload_n (j := 0) dX10_farFrom_0 rfl rfl ?_
  refine J_getR (b := 51) dX10_farFrom_1 fl_X10_22 sh_48 rfl ?_
  refine J_iload_n (j := 1) dX10_farFrom_4 rfl rfl ?_
  refine J_iconst (v := 3) dX10_farFrom_5 (by decide) ?_
  refine J_imul dX10_farFrom_6 ?_
  refine J_iload_n (j := 2) dX10_farFrom_7 rfl rfl ?_
  refine J_iadd dX10_farFrom_8 ?_
  refine J_iald dX10_farFrom_9 sh_51 ?_
  exact J_iret dX10_farFrom_10 (fun h => h)
theorem t_X10_farFrom_48 (l : Launch) (F : llFix) (d : Nat) (u : llMem) (a0 : Int32) (a1 : Int32) : llCp l F yX10_farFrom cX10_farFrom 3 (some .int) d [.ref (F.2.2.1 48), .int a0, .int a1] u llI (fx_X10_farFrom_48 u a0 a1) := llCp.of (by decide +kernel) (by exact Nat.le_of_ble_eq_true rfl) (fun G h1 h2 => by subst h1; subst h2; exact tj_X10_farFrom_48 u a0 a1)
def fx_X10_savingOf_48 (u : llMem) (a0 : Int32) (a1 : Int32) : Option Int32 := (fx_X10_divisionOf_48 u a0).bind (fun r1 => (fx_X10_farFrom_48 u a0 r1).bind (fun r2 => (fx_X10_divisionOf_48 u a1).bind (fun r3 => (fx_X10_farFrom_48 u a1 r3).bind (fun r4 => lt (r2 + r4) (fun v3_5 => (fx_X10_divisionOf_48 u a1).bind (fun r6 => (fx_X10_farFrom_48 u a0 r6).bind (fun r7 => (fx_X10_divisionOf_48 u a0).bind (fun r8 => (fx_X10_farFrom_48 u a1 r8).bind (fun r9 => lt (r7 + r9) (fun v4_10 => gI a0 12 (gI a1 12 ((fx_X10_between_48 u (rI u 50 a0) (rI u 50 a1)).bind (fun r11 => some ((v3_5 - v4_10) + (2 * r11)))))))))))))))
set_option maxRecDepth 20000 in
theorem tj_X10_savingOf_48 {G : llG} {d : Nat} (u : llMem) (a0 : Int32) (a1 : Int32) : llJ G RX10 cX10_savingOf 5 (some .int) (d + 1) (fun r => llRet G (llI r) u) 0 [(0, .ref (llAd G 48)), (1, .int a0), (2, .int a1)] [] u (fx_X10_savingOf_48 u a0 a1) := by
  unfold fx_X10_savingOf_48
  refine J_aload_n (j := 0) dX10_savingOf_0 rfl rfl ?_
  refine J_iload_n (j := 1) dX10_savingOf_1 rfl rfl ?_
  refine J_aload_n (j := 0) dX10_savingOf_2 rfl rfl ?_
  refine J_iload_n (j := 1) dX10_savingOf_3 rfl rfl ?_
  refine J_callVip1 dX10_savingOf_4 (t_X10_divisionOf_48 (llL G) (llFx G) d u a0) ym_X10_divisionOf wd_1012 sh_48 rfl (Nat.le_of_ble_eq_true rfl) (fun r1 => ?_)
  refine J_callVip2 dX10_savingOf_7 (t_X10_farFrom_48 (llL G) (llFx G) d u a0 r1) ym_X10_farFrom wd_1020 sh_48 rfl (Nat.le_of_ble_eq_true rfl) (fun r2 => ?_)
  refine J_aload_n (j := 0) dX10_savingOf_10 rfl rfl ?_
  refine J_iload_n (j := 2) dX10_savingOf_11 rfl rfl ?_
  refine J_aload_n (j := 0) dX10_savingOf_12 rfl rfl ?_
  refine J_iload_n (j := 2) dX10_savingOf_13 rfl rfl ?_
  refine J_callVip1 dX10_savingOf_14 (t_X10_divisionOf_48 (llL G) (llFx G) d u a1) ym_X10_divisionOf wd_1012 sh_48 rfl (Nat.le_of_ble_eq_true rfl) (fun r3 => ?_)
  refine J_callVip2 dX10_savingOf_17 (t_X10_farFrom_48 (llL G) (llFx G) d u a1 r3) ym_X10_farFrom wd_1020 sh_48 rfl (Nat.le_of_ble_eq_true rfl) (fun r4 => ?_)
  refine J_iadd dX10_savingOf_20 ?_
  refine J_istore_nL (fun v3_5 => [(3, .int v3_5), (0, .ref (llAd G 48)), (1, .int a0), (2, .int a1)]) dX10_savingOf_21 rfl (by decide) (fun _ => rfl) (fun v3_5 => ?_)
  refine J_aload_n (j := 1) dX10_savingOf_22 rfl rfl ?_
  refine J_iload_n (j := 2) dX10_savingOf_23 rfl rfl ?_
  refine J_aload_n (j := 1) dX10_savingOf_24 rfl rfl ?_
  refine J_iload_n (j := 3) dX10_savingOf_25 rfl rfl ?_
  refine J_callVip1 dX10_savingOf_26 (t_X10_divisionOf_48 (llL G) (llFx G) d u a1) ym_X10_divisionOf wd_1012 sh_48 rfl (Nat.le_of_ble_eq_true rfl) (fun r6 => ?_)
  refine J_callVip2 dX10_savingOf_29 (t_X10_farFrom_48 (llL G) (llFx G) d u a0 r6) ym_X10_farFrom wd_1020 sh_48 rfl (Nat.le_of_ble_eq_true rfl) (fun r7 => ?_)
  refine J_aload_n (j := 1) dX10_savingOf_32 rfl rfl ?_
  refine J_iload_n (j := 3) dX10_savingOf_33 rfl rfl ?_
  refine J_aload_n (j := 1) dX10_savingOf_34 rfl rfl ?_
  refine J_iload_n (j := 2) dX10_savingOf_35 rfl rfl ?_
  refine J_callVip1 dX10_savingOf_36 (t_X10_divisionOf_48 (llL G) (llFx G) d u a0) ym_X10_divisionOf wd_1012 sh_48 rfl (Nat.le_of_ble_eq_true rfl) (fun r8 => ?_)
  refine J_callVip2 dX10_savingOf_39 (t_X10_farFrom_48 (llL G) (llFx G) d u a1 r8) ym_X10_farFrom wd_1020 sh_48 rfl (Nat.le_of_ble_eq_true rfl) (fun r9 => ?_)
  refine J_iadd dX10_savingOf_42 ?_
  refine J_istoreL (fun v4_10 => [(4, .int v4_10), (3, .int v3_5), (0, .ref (llAd G 48)), (1, .int a0), (2, .int a1)]) dX10_savingOf_43 (by decide) (fun _ => rfl) (fun v4_10 => ?_)
  refine J_iload_n (j := 1) dX10_savingOf_45 rfl rfl ?_
  refine J_iload (j := 0) dX10_savingOf_46 rfl ?_
  refine J_isub dX10_savingOf_48 ?_
  refine J_iconst (v := 2) dX10_savingOf_49 (by decide) ?_
  refine J_aload_n (j := 2) dX10_savingOf_50 rfl rfl ?_
  refine J_aload_n (j := 2) dX10_savingOf_51 rfl rfl ?_
  refine J_getR (b := 50) dX10_savingOf_52 fl_X10_19 sh_48 rfl ?_
  refine J_iload_n (j := 3) dX10_savingOf_55 rfl rfl ?_
  refine J_iald dX10_savingOf_56 sh_50 ?_
  refine J_aload_n (j := 2) dX10_savingOf_57 rfl rfl ?_
  refine J_getR (b := 50) dX10_savingOf_58 fl_X10_19 sh_48 rfl ?_
  refine J_iload_n (j := 4) dX10_savingOf_61 rfl rfl ?_
  refine J_iald dX10_savingOf_62 sh_50 ?_
  refine J_callVip2 dX10_savingOf_63 (t_X10_between_48 (llL G) (llFx G) d u (rI u 50 a0) (rI u 50 a1)) ym_X10_between wd_917 sh_48 rfl (Nat.le_of_ble_eq_true rfl) (fun r11 => ?_)
  refine J_imul dX10_savingOf_66 ?_
  refine J_iadd dX10_savingOf_67 ?_
  exact J_iret dX10_savingOf_68 (fun h => h)
theorem t_X10_savingOf_48 (l : Launch) (F : llFix) (d : Nat) (u : llMem) (a0 : Int32) (a1 : Int32) : llCp l F yX10_savingOf cX10_savingOf 5 (some .int) (d + 1) [.ref (F.2.2.1 48), .int a0, .int a1] u llI (fx_X10_savingOf_48 u a0 a1) := llCp.of (by decide +kernel) (by exact Nat.le_of_ble_eq_true rfl) (fun G h1 h2 => by subst h1; subst h2; exact tj_X10_savingOf_48 u a0 a1)
def fx_X10_findSwap_48_l24_b12 (v2 : Int32) (s : llMem × Int32) : Option ((llMem × Int32) ⊕ (llMem)) := (if (s.1.1 48 2) ≤ s.2 then some (.inr s.1) else (fx_X10_divisionOf_48 s.1 v2).bind (fun r4 => (fx_X10_divisionOf_48 s.1 s.2).bind (fun r5 => (if r4 = r5 then fx_X10_findSwap_48_j55_b24_b12 s.1 v2 s.2 0 else (fx_X10_savingOf_48 s.1 v2 s.2).bind (fun r10 => fx_X10_findSwap_48_j55_b24_b12 s.1 v2 s.2 r10)))))
set_option maxRecDepth 20000 in
theorem t_X10_findSwap_48_l24_b12 {G : llG} {d : Nat} (v2 : Int32) (s : llMem × Int32) : llJ G RX10 cX10_findSwap 5 (some .boolean) (d + 3) (Sum.elim (fun s' => llJq G 5 24 [(0, .ref (llAd G 48)), (2, .int v2), (3, .int s'.2)] [] s'.1) (fun e => llJq G 5 98 [(0, .ref (llAd G 48)), (2, .int v2)] [] e)) 24 [(0, .ref (llAd G 48)), (2, .int v2), (3, .int s.2)] [] s.1 (fx_X10_findSwap_48_l24_b12 v2 s) := by
  unfold fx_X10_findSwap_48_l24_b12
  refine J_iload_n (j := 2) dX10_findSwap_24 rfl rfl ?_
  refine J_aload_n (j := 0) dX10_findSwap_25 rfl rfl ?_
  refine J_getI dX10_findSwap_26 fl_X10_63 sh_48 rfl ?_
  refine J_icmp_ge (tgt := 98) dX10_findSwap_29 (by decide) ?_ ?_
  · exact J_cut [0, 1] (lv' := [(0, .ref (llAd G 48)), (2, .int v2)]) rfl (fun h => h)
  · refine J_aload_n (j := 0) dX10_findSwap_32 rfl rfl ?_
    refine J_iload_n (j := 1) dX10_findSwap_33 rfl rfl ?_
    refine J_callVip1 dX10_findSwap_34 (t_X10_divisionOf_48 (llL G) (llFx G) (d + 2) s.1 v2) ym_X10_divisionOf wd_1012 sh_48 rfl (Nat.le_of_ble_eq_true rfl) (fun r4 => ?_)
    refine J_aload_n (j := 0) dX10_findSwap_37 rfl rfl ?_
    refine J_iload_n (j := 2) dX10_findSwap_38 rfl rfl ?_
    refine J_callVip1 dX10_findSwap_39 (t_X10_divisionOf_48 (llL G) (llFx G) (d + 2) s.1 s.2) ym_X10_divisionOf wd_1012 sh_48 rfl (Nat.le_of_ble_eq_true rfl) (fun r5 => ?_)
    refine J_icmp_eq (tgt := 54) dX10_findSwap_42 (by decide) ?_ ?_
    · refine J_iconst (v := 0) dX10_findSwap_54 (by decide) ?_
      refine J_sub [0, 1, 2] (lv' := [(0, .ref (llAd G 48)), (2, .int v2), (3, .int s.2)]) rfl ?_
      exact t_X10_findSwap_48_j55_b24_b12 s.1 v2 s.2 0
    · refine J_aload_n (j := 0) dX10_findSwap_45 rfl rfl ?_
      refine J_iload_n (j := 1) dX10_findSwap_46 rfl rfl ?_
      refine J_iload_n (j := 2) dX10_findSwap_47 rfl rfl ?_
      refine J_callVip2 dX10_findSwap_48 (t_X10_savingOf_48 (llL G) (llFx G) (d + 1) s.1 v2 s.2) ym_X10_savingOf wd_1016 sh_48 rfl (Nat.le_of_ble_eq_true rfl) (fun r10 => ?_)
      refine J_goto (tgt := 55) dX10_findSwap_51 (by decide) ?_
      refine J_sub [0, 1, 2] (lv' := [(0, .ref (llAd G 48)), (2, .int v2), (3, .int s.2)]) rfl ?_
      exact t_X10_findSwap_48_j55_b24_b12 s.1 v2 s.2 r10
def fx_X10_findSwap_48_l12  (s : llMem × Int32) : Option ((llMem × Int32) ⊕ (llMem)) := (if (s.1.1 48 2) ≤ s.2 then some (.inr s.1) else lt (s.2 + 1) (fun v3_3 => (loop (fx_X10_findSwap_48_l24_b12 s.2) llFuel (s.1, v3_3)).bind (fun e11 => lt (s.2 + 1) (fun v2_12 => some (.inl (e11, v2_12))))))
set_option maxRecDepth 20000 in
theorem t_X10_findSwap_48_l12 {G : llG} {d : Nat}  (s : llMem × Int32) : llJ G RX10 cX10_findSwap 5 (some .boolean) (d + 3) (Sum.elim (fun s' => llJq G 5 12 [(0, .ref (llAd G 48)), (2, .int s'.2)] [] s'.1) (fun e => llJq G 5 104 [(0, .ref (llAd G 48))] [] e)) 12 [(0, .ref (llAd G 48)), (2, .int s.2)] [] s.1 (fx_X10_findSwap_48_l12 s) := by
  unfold fx_X10_findSwap_48_l12
  refine J_iload_n (j := 1) dX10_findSwap_12 rfl rfl ?_
  refine J_aload_n (j := 0) dX10_findSwap_13 rfl rfl ?_
  refine J_getI dX10_findSwap_14 fl_X10_63 sh_48 rfl ?_
  refine J_icmp_ge (tgt := 104) dX10_findSwap_17 (by decide) ?_ ?_
  · exact J_cut [0] (lv' := [(0, .ref (llAd G 48))]) rfl (fun h => h)
  · refine J_iload_n (j := 1) dX10_findSwap_20 rfl rfl ?_
    refine J_iconst (v := 1) dX10_findSwap_21 (by decide) ?_
    refine J_iadd dX10_findSwap_22 ?_
    refine J_istore_nL (fun v3_3 => [(3, .int v3_3), (0, .ref (llAd G 48)), (2, .int s.2)]) dX10_findSwap_23 rfl (by decide) (fun _ => rfl) (fun v3_3 => ?_)
    refine J_loopE (fun s' => [(0, .ref (llAd G 48)), (2, .int s.2), (3, .int s'.2)]) (fun s' => s'.1) 98 (fun e => [(0, .ref (llAd G 48)), (2, .int s.2)]) (fun e => e) (fun z => t_X10_findSwap_48_l24_b12 s.2 z) [1, 2, 0] rfl rfl (fun e11 => ?_)
    refine J_iinc (j := 1) (b := 1) (fun v2_12 => [(2, .int v2_12), (0, .ref (llAd G 48))]) dX10_findSwap_98 rfl (by decide) (by decide) (fun _ => rfl) (fun v2_12 => ?_)
    refine J_goto (tgt := 12) dX10_findSwap_101 (by decide) ?_
    exact J_cut [1, 0] (lv' := [(0, .ref (llAd G 48)), (2, .int v2_12)]) rfl (fun h => h)
def fx_X10_findSwap_48 (u : llMem) (a0 : Int32) : Option (llMem × Int32) := bd (fx_X10_survey_48 u a0) (fun u1 _ => lt (llSI u1 48 5 0) (fun u2 => (loop (fx_X10_findSwap_48_l12) llFuel (u2, 0)).bind (fun e13 => (if (e13.1 48 5) ≤ 0 then gB 0 (some (e13, 0)) else gB 1 (some (e13, 1))))))
set_option maxRecDepth 20000 in
theorem tj_X10_findSwap_48 {G : llG} {d : Nat} (u : llMem) (a0 : Int32) : llJ G RX10 cX10_findSwap 5 (some .boolean) (d + 3) (fun r => llRet G (llI r.2) r.1) 0 [(0, .ref (llAd G 48)), (1, .int a0)] [] u (fx_X10_findSwap_48 u a0) := by
  unfold fx_X10_findSwap_48
  refine J_aload_n (j := 0) dX10_findSwap_0 rfl rfl ?_
  refine J_iload_n (j := 1) dX10_findSwap_1 rfl rfl ?_
  refine J_callVv1 dX10_findSwap_2 (t_X10_survey_48 (llL G) (llFx G) d u a0) ym_X10_survey wd_1007 sh_48 rfl (Nat.le_of_ble_eq_true rfl) (fun u1 => ?_)
  refine J_aload_n (j := 0) dX10_findSwap_5 rfl rfl ?_
  refine J_iconst (v := 0) dX10_findSwap_6 (by decide) ?_
  refine J_putI dX10_findSwap_7 fl_X10_73 sh_48 rfl (fun u2 => ?_)
  refine J_iconst (v := 0) dX10_findSwap_10 (by decide) ?_
  refine J_istore_n [(2, .int 0), (0, .ref (llAd G 48)), (1, .int a0)] dX10_findSwap_11 rfl (by decide) rfl ?_
  refine J_loopE (fun s' => [(0, .ref (llAd G 48)), (2, .int s'.2)]) (fun s' => s'.1) 104 (fun e => [(0, .ref (llAd G 48))]) (fun e => e) (fun z => t_X10_findSwap_48_l12 z) [1, 0] rfl rfl (fun e13 => ?_)
  refine J_aload_n (j := 0) dX10_findSwap_104 rfl rfl ?_
  refine J_getI dX10_findSwap_105 fl_X10_73 sh_48 rfl ?_
  refine J_if_le (tgt := 115) dX10_findSwap_108 (by decide) ?_ ?_
  · refine J_iconst (v := 0) dX10_findSwap_115 (by decide) ?_
    exact J_zret dX10_findSwap_116 (fun h => h)
  · refine J_iconst (v := 1) dX10_findSwap_111 (by decide) ?_
    refine J_goto (tgt := 116) dX10_findSwap_112 (by decide) ?_
    exact J_zret dX10_findSwap_116 (fun h => h)
theorem t_X10_findSwap_48 (l : Launch) (F : llFix) (d : Nat) (u : llMem) (a0 : Int32) : llCt l F yX10_findSwap cX10_findSwap 5 (some .boolean) (d + 3) [.ref (F.2.2.1 48), .int a0] u llI (fx_X10_findSwap_48 u a0) := llCt.of (by decide +kernel) (by exact Nat.le_of_ble_eq_true rfl) (fun G h1 h2 => by subst h1; subst h2; exact tj_X10_findSwap_48 u a0)
def fx_X11_swap_0 (u : llMem) (a0 : Int32) (a1 : Int32) : Option (llMem × Int32) := (fx_X5_hasLevel_3 u a0).bind (fun r1 => (if r1 = 0 then some (u, (-1)) else (if a1 < 0 then some (u, (-1)) else (if 2 < a1 then some (u, (-1)) else bd (fx_X10_findSwap_48 u a0) (fun u2 r3 => (if ¬ r3 = 0 then (if ¬ a1 = 2 then (if ¬ a1 = 0 then some (u2, u2.1 48 7) else some (u2, u2.1 48 6)) else some (u2, u2.1 48 5)) else some (u2, (-1))))))))
set_option maxRecDepth 20000 in
theorem tj_X11_swap_0 {G : llG} {d : Nat} (u : llMem) (a0 : Int32) (a1 : Int32) : llJ G RX11 cX11_swap 3 (some .int) (d + 4) (fun r => llRet G (llI r.2) r.1) 0 [(0, .ref (llAd G 0)), (1, .int a0), (2, .int a1)] [] u (fx_X11_swap_0 u a0 a1) := by
  unfold fx_X11_swap_0
  refine J_aload_n (j := 0) dX11_swap_0 rfl rfl ?_
  refine J_getR (b := 3) dX11_swap_1 fl_X11_19 sh_0 rfl ?_
  refine J_iload_n (j := 1) dX11_swap_4 rfl rfl ?_
  refine J_callVip1 dX11_swap_5 (t_X5_hasLevel_3 (llL G) (llFx G) (d + 3) u a0) ym_X5_hasLevel wd_956 sh_3 rfl (Nat.le_of_ble_eq_true rfl) (fun r1 => ?_)
  refine J_if_eq (tgt := 31) dX11_swap_8 (by decide) ?_ ?_
  · refine J_iconst (v := (-1)) dX11_swap_31 (by decide) ?_
    exact J_iret dX11_swap_32 (fun h => h)
  · refine J_iload_n (j := 2) dX11_swap_11 rfl rfl ?_
    refine J_if_lt (tgt := 31) dX11_swap_12 (by decide) ?_ ?_
    · refine J_iconst (v := (-1)) dX11_swap_31 (by decide) ?_
      exact J_iret dX11_swap_32 (fun h => h)
    · refine J_iload_n (j := 2) dX11_swap_15 rfl rfl ?_
      refine J_iconst (v := 2) dX11_swap_16 (by decide) ?_
      refine J_icmp_gt (tgt := 31) dX11_swap_17 (by decide) ?_ ?_
      · refine J_iconst (v := (-1)) dX11_swap_31 (by decide) ?_
        exact J_iret dX11_swap_32 (fun h => h)
      · refine J_aload_n (j := 0) dX11_swap_20 rfl rfl ?_
        refine J_getR (b := 48) dX11_swap_21 fl_X11_69 sh_0 rfl ?_
        refine J_iload_n (j := 1) dX11_swap_24 rfl rfl ?_
        refine J_callVi1 dX11_swap_25 (t_X10_findSwap_48 (llL G) (llFx G) d u a0) ym_X10_findSwap wd_1003 sh_48 rfl (Nat.le_of_ble_eq_true rfl) (fun u2 r3 => ?_)
        refine J_if_ne (tgt := 33) dX11_swap_28 (by decide) ?_ ?_
        · refine J_iload_n (j := 2) dX11_swap_33 rfl rfl ?_
          refine J_iconst (v := 2) dX11_swap_34 (by decide) ?_
          refine J_icmp_ne (tgt := 46) dX11_swap_35 (by decide) ?_ ?_
          · refine J_iload_n (j := 2) dX11_swap_46 rfl rfl ?_
            refine J_if_ne (tgt := 60) dX11_swap_47 (by decide) ?_ ?_
            · refine J_aload_n (j := 0) dX11_swap_60 rfl rfl ?_
              refine J_getR (b := 48) dX11_swap_61 fl_X11_69 sh_0 rfl ?_
              refine J_getI dX11_swap_64 fl_X11_318 sh_48 rfl ?_
              exact J_iret dX11_swap_67 (fun h => h)
            · refine J_aload_n (j := 0) dX11_swap_50 rfl rfl ?_
              refine J_getR (b := 48) dX11_swap_51 fl_X11_69 sh_0 rfl ?_
              refine J_getI dX11_swap_54 fl_X11_315 sh_48 rfl ?_
              refine J_goto (tgt := 67) dX11_swap_57 (by decide) ?_
              exact J_iret dX11_swap_67 (fun h => h)
          · refine J_aload_n (j := 0) dX11_swap_38 rfl rfl ?_
            refine J_getR (b := 48) dX11_swap_39 fl_X11_69 sh_0 rfl ?_
            refine J_getI dX11_swap_42 fl_X11_312 sh_48 rfl ?_
            exact J_iret dX11_swap_45 (fun h => h)
        · refine J_iconst (v := (-1)) dX11_swap_31 (by decide) ?_
          exact J_iret dX11_swap_32 (fun h => h)
theorem t_X11_swap_0 (l : Launch) (F : llFix) (d : Nat) (u : llMem) (a0 : Int32) (a1 : Int32) : llCt l F yX11_swap cX11_swap 3 (some .int) (d + 4) [.ref (F.2.2.1 0), .int a0, .int a1] u llI (fx_X11_swap_0 u a0 a1) := llCt.of (by decide +kernel) (by exact Nat.le_of_ble_eq_true rfl) (fun G h1 h2 => by subst h1; subst h2; exact tj_X11_swap_0 u a0 a1)
def fx_X12_swap_69_j191_b48_b33 (u : llMem) (v1 : Int32) (v2 : Int32) (v3 : Int32) (v4 : Int32) (v5 : Int32) (v6 : Int32) (v7 : Int32) : Option ((Int32 × Int32 × Int32 × Int32) ⊕ (Int32 × Int32 × Int32)) := lt (v7 + 1) (fun v7_4 => some (.inl (v3, v4, v5, v7_4)))
set_option maxRecDepth 20000 in
theorem t_X12_swap_69_j191_b48_b33 {G : llG} {d : Nat} (u : llMem) (v1 : Int32) (v2 : Int32) (v3 : Int32) (v4 : Int32) (v5 : Int32) (v6 : Int32) (v7 : Int32) : llJ G RX12 cX12_swap 9 (some .int) (d + 2) (Sum.elim (fun s' => llJq G 9 48 [(0, .ref (llAd G 69)), (1, .int v1), (2, .int v2), (3, .int s'.1), (4, .int s'.2.1), (5, .int s'.2.2.1), (6, .int v6), (7, .int s'.2.2.2)] [] u) (fun e => llJq G 9 197 [(0, .ref (llAd G 69)), (1, .int v1), (2, .int v2), (3, .int e.1), (4, .int e.2.1), (5, .int e.2.2), (6, .int v6)] [] u)) 191 [(0, .ref (llAd G 69)), (1, .int v1), (2, .int v2), (3, .int v3), (4, .int v4), (5, .int v5), (6, .int v6), (7, .int v7)] [] u (fx_X12_swap_69_j191_b48_b33 u v1 v2 v3 v4 v5 v6 v7) := by
  unfold fx_X12_swap_69_j191_b48_b33
  refine J_iinc (j := 7) (b := 1) (fun v7_4 => [(7, .int v7_4), (0, .ref (llAd G 69)), (1, .int v1), (2, .int v2), (3, .int v3), (4, .int v4), (5, .int v5), (6, .int v6)]) dX12_swap_191 rfl (by decide) (by decide) (fun _ => rfl) (fun v7_4 => ?_)
  refine J_goto (tgt := 48) dX12_swap_194 (by decide) ?_
  exact J_cut [1, 2, 3, 4, 5, 6, 7, 0] (lv' := [(0, .ref (llAd G 69)), (1, .int v1), (2, .int v2), (3, .int v3), (4, .int v4), (5, .int v5), (6, .int v6), (7, .int v7_4)]) rfl (fun h => h)
def fx_X12_swap_69_l48_b33 (u : llMem) (v1 : Int32) (v2 : Int32) (v6 : Int32) (s : Int32 × Int32 × Int32 × Int32) : Option ((Int32 × Int32 × Int32 × Int32) ⊕ (Int32 × Int32 × Int32)) := (if (u.1 69 9) ≤ s.2.2.2 then some (.inr (s.1, s.2.1, s.2.2.1)) else gI v6 60 ((if ¬ (rI u 74 v6) = v1 then fx_X12_swap_69_j191_b48_b33 u v1 v2 s.1 s.2.1 s.2.2.1 v6 s.2.2.2 else gI s.2.2.2 60 ((if ¬ (rI u 74 s.2.2.2) = v1 then fx_X12_swap_69_j191_b48_b33 u v1 v2 s.1 s.2.1 s.2.2.1 v6 s.2.2.2 else gI v6 60 (gI s.2.2.2 60 ((if ¬ (rI u 75 v6) = (rI u 75 s.2.2.2) then gI v6 60 ((fx_X12_milesIn_69 u v6 v1 (rI u 75 v6)).bind (fun r5 => gI s.2.2.2 60 ((fx_X12_milesIn_69 u s.2.2.2 v1 (rI u 75 s.2.2.2)).bind (fun r6 => gI s.2.2.2 60 ((fx_X12_milesIn_69 u v6 v1 (rI u 75 s.2.2.2)).bind (fun r7 => gI v6 60 ((fx_X12_milesIn_69 u s.2.2.2 v1 (rI u 75 v6)).bind (fun r8 => (fx_X12_miles_69 u v6 s.2.2.2).bind (fun r9 => lt ((((r5 + r6) - r7) - r8) + (2 * r9)) (fun v8_10 => (if s.1 < v8_10 then fx_X12_swap_69_j191_b48_b33 u v1 v2 v8_10 v6 s.2.2.2 v6 s.2.2.2 else fx_X12_swap_69_j191_b48_b33 u v1 v2 s.1 s.2.1 s.2.2.1 v6 s.2.2.2))))))))))) else fx_X12_swap_69_j191_b48_b33 u v1 v2 s.1 s.2.1 s.2.2.1 v6 s.2.2.2))))))))
set_option maxRecDepth 20000 in
theorem t_X12_swap_69_l48_b33 {G : llG} {d : Nat} (u : llMem) (v1 : Int32) (v2 : Int32) (v6 : Int32) (s : Int32 × Int32 × Int32 × Int32) : llJ G RX12 cX12_swap 9 (some .int) (d + 2) (Sum.elim (fun s' => llJq G 9 48 [(0, .ref (llAd G 69)), (1, .int v1), (2, .int v2), (3, .int s'.1), (4, .int s'.2.1), (5, .int s'.2.2.1), (6, .int v6), (7, .int s'.2.2.2)] [] u) (fun e => llJq G 9 197 [(0, .ref (llAd G 69)), (1, .int v1), (2, .int v2), (3, .int e.1), (4, .int e.2.1), (5, .int e.2.2), (6, .int v6)] [] u)) 48 [(0, .ref (llAd G 69)), (1, .int v1), (2, .int v2), (3, .int s.1), (4, .int s.2.1), (5, .int s.2.2.1), (6, .int v6), (7, .int s.2.2.2)] [] u (fx_X12_swap_69_l48_b33 u v1 v2 v6 s) := by
  unfold fx_X12_swap_69_l48_b33
  refine J_iload (j := 7) dX12_swap_48 rfl ?_
  refine J_aload_n (j := 0) dX12_swap_50 rfl rfl ?_
  refine J_getI dX12_swap_51 fl_X12_263 sh_69 rfl ?_
  refine J_icmp_ge (tgt := 197) dX12_swap_54 (by decide) ?_ ?_
  · exact J_cut [0, 1, 2, 3, 4, 5, 6] (lv' := [(0, .ref (llAd G 69)), (1, .int v1), (2, .int v2), (3, .int s.1), (4, .int s.2.1), (5, .int s.2.2.1), (6, .int v6)]) rfl (fun h => h)
  · refine J_aload_n (j := 0) dX12_swap_57 rfl rfl ?_
    refine J_getR (b := 74) dX12_swap_58 fl_X12_23 sh_69 rfl ?_
    refine J_iload (j := 6) dX12_swap_61 rfl ?_
    refine J_iald dX12_swap_63 sh_74 ?_
    refine J_iload_n (j := 1) dX12_swap_64 rfl rfl ?_
    refine J_icmp_ne (tgt := 191) dX12_swap_65 (by decide) ?_ ?_
    · refine J_sub [0, 1, 2, 3, 4, 5, 6, 7] (lv' := [(0, .ref (llAd G 69)), (1, .int v1), (2, .int v2), (3, .int s.1), (4, .int s.2.1), (5, .int s.2.2.1), (6, .int v6), (7, .int s.2.2.2)]) rfl ?_
      exact t_X12_swap_69_j191_b48_b33 u v1 v2 s.1 s.2.1 s.2.2.1 v6 s.2.2.2
    · refine J_aload_n (j := 0) dX12_swap_68 rfl rfl ?_
      refine J_getR (b := 74) dX12_swap_69 fl_X12_23 sh_69 rfl ?_
      refine J_iload (j := 7) dX12_swap_72 rfl ?_
      refine J_iald dX12_swap_74 sh_74 ?_
      refine J_iload_n (j := 1) dX12_swap_75 rfl rfl ?_
      refine J_icmp_ne (tgt := 191) dX12_swap_76 (by decide) ?_ ?_
      · refine J_sub [0, 1, 2, 3, 4, 5, 6, 7] (lv' := [(0, .ref (llAd G 69)), (1, .int v1), (2, .int v2), (3, .int s.1), (4, .int s.2.1), (5, .int s.2.2.1), (6, .int v6), (7, .int s.2.2.2)]) rfl ?_
        exact t_X12_swap_69_j191_b48_b33 u v1 v2 s.1 s.2.1 s.2.2.1 v6 s.2.2.2
      · refine J_aload_n (j := 0) dX12_swap_79 rfl rfl ?_
        refine J_getR (b := 75) dX12_swap_80 fl_X12_26 sh_69 rfl ?_
        refine J_iload (j := 6) dX12_swap_83 rfl ?_
        refine J_iald dX12_swap_85 sh_75 ?_
        refine J_aload_n (j := 0) dX12_swap_86 rfl rfl ?_
        refine J_getR (b := 75) dX12_swap_87 fl_X12_26 sh_69 rfl ?_
        refine J_iload (j := 7) dX12_swap_90 rfl ?_
        refine J_iald dX12_swap_92 sh_75 ?_
        refine J_icmp_ne (tgt := 99) dX12_swap_93 (by decide) ?_ ?_
        · refine J_aload_n (j := 0) dX12_swap_99 rfl rfl ?_
          refine J_iload (j := 6) dX12_swap_100 rfl ?_
          refine J_iload_n (j := 1) dX12_swap_102 rfl rfl ?_
          refine J_aload_n (j := 0) dX12_swap_103 rfl rfl ?_
          refine J_getR (b := 75) dX12_swap_104 fl_X12_26 sh_69 rfl ?_
          refine J_iload (j := 6) dX12_swap_107 rfl ?_
          refine J_iald dX12_swap_109 sh_75 ?_
          refine J_callVip3 dX12_swap_110 (t_X12_milesIn_69 (llL G) (llFx G) d u v6 v1 (rI u 75 v6)) ym_X12_milesIn wd_1594 sh_69 rfl (Nat.le_of_ble_eq_true rfl) (fun r5 => ?_)
          refine J_aload_n (j := 0) dX12_swap_113 rfl rfl ?_
          refine J_iload (j := 7) dX12_swap_114 rfl ?_
          refine J_iload_n (j := 1) dX12_swap_116 rfl rfl ?_
          refine J_aload_n (j := 0) dX12_swap_117 rfl rfl ?_
          refine J_getR (b := 75) dX12_swap_118 fl_X12_26 sh_69 rfl ?_
          refine J_iload (j := 7) dX12_swap_121 rfl ?_
          refine J_iald dX12_swap_123 sh_75 ?_
          refine J_callVip3 dX12_swap_124 (t_X12_milesIn_69 (llL G) (llFx G) d u s.2.2.2 v1 (rI u 75 s.2.2.2)) ym_X12_milesIn wd_1594 sh_69 rfl (Nat.le_of_ble_eq_true rfl) (fun r6 => ?_)
          refine J_iadd dX12_swap_127 ?_
          refine J_aload_n (j := 0) dX12_swap_128 rfl rfl ?_
          refine J_iload (j := 6) dX12_swap_129 rfl ?_
          refine J_iload_n (j := 1) dX12_swap_131 rfl rfl ?_
          refine J_aload_n (j := 0) dX12_swap_132 rfl rfl ?_
          refine J_getR (b := 75) dX12_swap_133 fl_X12_26 sh_69 rfl ?_
          refine J_iload (j := 7) dX12_swap_136 rfl ?_
          refine J_iald dX12_swap_138 sh_75 ?_
          refine J_callVip3 dX12_swap_139 (t_X12_milesIn_69 (llL G) (llFx G) d u v6 v1 (rI u 75 s.2.2.2)) ym_X12_milesIn wd_1594 sh_69 rfl (Nat.le_of_ble_eq_true rfl) (fun r7 => ?_)
          refine J_isub dX12_swap_142 ?_
          refine J_aload_n (j := 0) dX12_swap_143 rfl rfl ?_
          refine J_iload (j := 7) dX12_swap_144 rfl ?_
          refine J_iload_n (j := 1) dX12_swap_146 rfl rfl ?_
          refine J_aload_n (j := 0) dX12_swap_147 rfl rfl ?_
          refine J_getR (b := 75) dX12_swap_148 fl_X12_26 sh_69 rfl ?_
          refine J_iload (j := 6) dX12_swap_151 rfl ?_
          refine J_iald dX12_swap_153 sh_75 ?_
          refine J_callVip3 dX12_swap_154 (t_X12_milesIn_69 (llL G) (llFx G) d u s.2.2.2 v1 (rI u 75 v6)) ym_X12_milesIn wd_1594 sh_69 rfl (Nat.le_of_ble_eq_true rfl) (fun r8 => ?_)
          refine J_isub dX12_swap_157 ?_
          refine J_iconst (v := 2) dX12_swap_158 (by decide) ?_
          refine J_aload_n (j := 0) dX12_swap_159 rfl rfl ?_
          refine J_iload (j := 6) dX12_swap_160 rfl ?_
          refine J_iload (j := 7) dX12_swap_162 rfl ?_
          refine J_callVip2 dX12_swap_164 (t_X12_miles_69 (llL G) (llFx G) (d + 1) u v6 s.2.2.2) ym_X12_miles wd_1577 sh_69 rfl (Nat.le_of_ble_eq_true rfl) (fun r9 => ?_)
          refine J_imul dX12_swap_167 ?_
          refine J_iadd dX12_swap_168 ?_
          refine J_istoreL (fun v8_10 => [(8, .int v8_10), (0, .ref (llAd G 69)), (1, .int v1), (2, .int v2), (3, .int s.1), (4, .int s.2.1), (5, .int s.2.2.1), (6, .int v6), (7, .int s.2.2.2)]) dX12_swap_169 (by decide) (fun _ => rfl) (fun v8_10 => ?_)
          refine J_iload (j := 0) dX12_swap_171 rfl ?_
          refine J_iload_n (j := 4) dX12_swap_173 rfl rfl ?_
          refine J_icmp_gt (tgt := 180) dX12_swap_174 (by decide) ?_ ?_
          · refine J_iload (j := 0) dX12_swap_180 rfl ?_
            refine J_istore_n [(3, .int v8_10), (8, .int v8_10), (0, .ref (llAd G 69)), (1, .int v1), (2, .int v2), (4, .int s.2.1), (5, .int s.2.2.1), (6, .int v6), (7, .int s.2.2.2)] dX12_swap_182 rfl (by decide) rfl ?_
            refine J_iload (j := 7) dX12_swap_183 rfl ?_
            refine J_istore [(4, .int v6), (3, .int v8_10), (8, .int v8_10), (0, .ref (llAd G 69)), (1, .int v1), (2, .int v2), (5, .int s.2.2.1), (6, .int v6), (7, .int s.2.2.2)] dX12_swap_185 (by decide) rfl ?_
            refine J_iload (j := 8) dX12_swap_187 rfl ?_
            refine J_istore [(5, .int s.2.2.2), (4, .int v6), (3, .int v8_10), (8, .int v8_10), (0, .ref (llAd G 69)), (1, .int v1), (2, .int v2), (6, .int v6), (7, .int s.2.2.2)] dX12_swap_189 (by decide) rfl ?_
            refine J_sub [4, 5, 6, 2, 1, 0, 7, 8] (lv' := [(0, .ref (llAd G 69)), (1, .int v1), (2, .int v2), (3, .int v8_10), (4, .int v6), (5, .int s.2.2.2), (6, .int v6), (7, .int s.2.2.2)]) rfl ?_
            exact t_X12_swap_69_j191_b48_b33 u v1 v2 v8_10 v6 s.2.2.2 v6 s.2.2.2
          · refine J_goto (tgt := 191) dX12_swap_177 (by decide) ?_
            refine J_sub [1, 2, 3, 4, 5, 6, 7, 8] (lv' := [(0, .ref (llAd G 69)), (1, .int v1), (2, .int v2), (3, .int s.1), (4, .int s.2.1), (5, .int s.2.2.1), (6, .int v6), (7, .int s.2.2.2)]) rfl ?_
            exact t_X12_swap_69_j191_b48_b33 u v1 v2 s.1 s.2.1 s.2.2.1 v6 s.2.2.2
        · refine J_goto (tgt := 191) dX12_swap_96 (by decide) ?_
          refine J_sub [0, 1, 2, 3, 4, 5, 6, 7] (lv' := [(0, .ref (llAd G 69)), (1, .int v1), (2, .int v2), (3, .int s.1), (4, .int s.2.1), (5, .int s.2.2.1), (6, .int v6), (7, .int s.2.2.2)]) rfl ?_
          exact t_X12_swap_69_j191_b48_b33 u v1 v2 s.1 s.2.1 s.2.2.1 v6 s.2.2.2
def fx_X12_swap_69_l33 (u : llMem) (v1 : Int32) (v2 : Int32) (s : Int32 × Int32 × Int32 × Int32) : Option ((Int32 × Int32 × Int32 × Int32) ⊕ (Int32 × Int32 × Int32)) := (if (u.1 69 9) ≤ s.2.2.2 then some (.inr (s.1, s.2.1, s.2.2.1)) else lt (s.2.2.2 + 1) (fun v7_3 => (loop (fx_X12_swap_69_l48_b33 u v1 v2 s.2.2.2) llFuel (s.1, s.2.1, s.2.2.1, v7_3)).bind (fun e11 => lt (s.2.2.2 + 1) (fun v6_12 => some (.inl (e11.1, e11.2.1, e11.2.2, v6_12))))))
set_option maxRecDepth 20000 in
theorem t_X12_swap_69_l33 {G : llG} {d : Nat} (u : llMem) (v1 : Int32) (v2 : Int32) (s : Int32 × Int32 × Int32 × Int32) : llJ G RX12 cX12_swap 9 (some .int) (d + 2) (Sum.elim (fun s' => llJq G 9 33 [(0, .ref (llAd G 69)), (1, .int v1), (2, .int v2), (3, .int s'.1), (4, .int s'.2.1), (5, .int s'.2.2.1), (6, .int s'.2.2.2)] [] u) (fun e => llJq G 9 203 [(2, .int v2), (3, .int e.1), (4, .int e.2.1), (5, .int e.2.2)] [] u)) 33 [(0, .ref (llAd G 69)), (1, .int v1), (2, .int v2), (3, .int s.1), (4, .int s.2.1), (5, .int s.2.2.1), (6, .int s.2.2.2)] [] u (fx_X12_swap_69_l33 u v1 v2 s) := by
  unfold fx_X12_swap_69_l33
  refine J_iload (j := 6) dX12_swap_33 rfl ?_
  refine J_aload_n (j := 0) dX12_swap_35 rfl rfl ?_
  refine J_getI dX12_swap_36 fl_X12_263 sh_69 rfl ?_
  refine J_icmp_ge (tgt := 203) dX12_swap_39 (by decide) ?_ ?_
  · exact J_cut [2, 3, 4, 5] (lv' := [(2, .int v2), (3, .int s.1), (4, .int s.2.1), (5, .int s.2.2.1)]) rfl (fun h => h)
  · refine J_iload (j := 6) dX12_swap_42 rfl ?_
    refine J_iconst (v := 1) dX12_swap_44 (by decide) ?_
    refine J_iadd dX12_swap_45 ?_
    refine J_istoreL (fun v7_3 => [(7, .int v7_3), (0, .ref (llAd G 69)), (1, .int v1), (2, .int v2), (3, .int s.1), (4, .int s.2.1), (5, .int s.2.2.1), (6, .int s.2.2.2)]) dX12_swap_46 (by decide) (fun _ => rfl) (fun v7_3 => ?_)
    refine J_loopE (fun s' => [(0, .ref (llAd G 69)), (1, .int v1), (2, .int v2), (3, .int s'.1), (4, .int s'.2.1), (5, .int s'.2.2.1), (6, .int s.2.2.2), (7, .int s'.2.2.2)]) (fun s' => u) 197 (fun e => [(0, .ref (llAd G 69)), (1, .int v1), (2, .int v2), (3, .int e.1), (4, .int e.2.1), (5, .int e.2.2), (6, .int s.2.2.2)]) (fun e => u) (fun z => t_X12_swap_69_l48_b33 u v1 v2 s.2.2.2 z) [1, 2, 3, 4, 5, 6, 7, 0] rfl rfl (fun e11 => ?_)
    refine J_iinc (j := 6) (b := 1) (fun v6_12 => [(6, .int v6_12), (0, .ref (llAd G 69)), (1, .int v1), (2, .int v2), (3, .int e11.1), (4, .int e11.2.1), (5, .int e11.2.2)]) dX12_swap_197 rfl (by decide) (by decide) (fun _ => rfl) (fun v6_12 => ?_)
    refine J_goto (tgt := 33) dX12_swap_200 (by decide) ?_
    exact J_cut [1, 2, 3, 4, 5, 6, 0] (lv' := [(0, .ref (llAd G 69)), (1, .int v1), (2, .int v2), (3, .int e11.1), (4, .int e11.2.1), (5, .int e11.2.2), (6, .int v6_12)]) rfl (fun h => h)
def fx_X12_swap_69 (u : llMem) (a0 : Int32) (a1 : Int32) : Option Int32 := (fx_X12_isLevel_69 u a0).bind (fun r1 => (if r1 = 0 then some ((-1)) else (fx_X12_isIn u (Int32.toInt64 a1) 0 2).bind (fun r2 => (if ¬ r2 = 0 then (loop (fx_X12_swap_69_l33 u a0 a1) llFuel (0, (-1), (-1), 0)).bind (fun e13 => (if ¬ e13.1 = 0 then (if ¬ a1 = 0 then (if ¬ a1 = 1 then some e13.1 else some e13.2.2) else some e13.2.1) else some ((-1)))) else some ((-1))))))
set_option maxRecDepth 20000 in
theorem tj_X12_swap_69 {G : llG} {d : Nat} (u : llMem) (a0 : Int32) (a1 : Int32) : llJ G RX12 cX12_swap 9 (some .int) (d + 2) (fun r => llRet G (llI r) u) 0 [(0, .ref (llAd G 69)), (1, .int a0), (2, .int a1)] [] u (fx_X12_swap_69 u a0 a1) := by
  unfold fx_X12_swap_69
  refine J_aload_n (j := 0) dX12_swap_0 rfl rfl ?_
  refine J_iload_n (j := 1) dX12_swap_1 rfl rfl ?_
  refine J_callVip1 dX12_swap_2 (t_X12_isLevel_69 (llL G) (llFx G) d u a0) ym_X12_isLevel wd_1625 sh_69 rfl (Nat.le_of_ble_eq_true rfl) (fun r1 => ?_)
  refine J_if_eq (tgt := 20) dX12_swap_5 (by decide) ?_ ?_
  · refine J_iconst (v := (-1)) dX12_swap_20 (by decide) ?_
    exact J_iret dX12_swap_21 (fun h => h)
  · refine J_iload_n (j := 2) dX12_swap_8 rfl rfl ?_
    refine J_i2l dX12_swap_9 ?_
    refine J_lconst (v := 0) dX12_swap_10 (by decide) ?_
    refine J_ldc2 (v := 2) dX12_swap_11 wd_1662 ?_
    refine J_callSip3 dX12_swap_14 (t_X12_isIn (llL G) (llFx G) (d + 1) u (Int32.toInt64 a1) 0 2) ym_X12_isIn wd_1313 (Nat.le_of_ble_eq_true rfl) (fun r2 => ?_)
    refine J_if_ne (tgt := 22) dX12_swap_17 (by decide) ?_ ?_
    · refine J_iconst (v := 0) dX12_swap_22 (by decide) ?_
      refine J_istore_n [(3, .int 0), (0, .ref (llAd G 69)), (1, .int a0), (2, .int a1)] dX12_swap_23 rfl (by decide) rfl ?_
      refine J_iconst (v := (-1)) dX12_swap_24 (by decide) ?_
      refine J_istore [(4, .int ((-1))), (3, .int 0), (0, .ref (llAd G 69)), (1, .int a0), (2, .int a1)] dX12_swap_25 (by decide) rfl ?_
      refine J_iconst (v := (-1)) dX12_swap_27 (by decide) ?_
      refine J_istore [(5, .int ((-1))), (4, .int ((-1))), (3, .int 0), (0, .ref (llAd G 69)), (1, .int a0), (2, .int a1)] dX12_swap_28 (by decide) rfl ?_
      refine J_iconst (v := 0) dX12_swap_30 (by decide) ?_
      refine J_istore [(6, .int 0), (5, .int ((-1))), (4, .int ((-1))), (3, .int 0), (0, .ref (llAd G 69)), (1, .int a0), (2, .int a1)] dX12_swap_31 (by decide) rfl ?_
      refine J_loopE (fun s' => [(0, .ref (llAd G 69)), (1, .int a0), (2, .int a1), (3, .int s'.1), (4, .int s'.2.1), (5, .int s'.2.2.1), (6, .int s'.2.2.2)]) (fun s' => u) 203 (fun e => [(2, .int a1), (3, .int e.1), (4, .int e.2.1), (5, .int e.2.2)]) (fun e => u) (fun z => t_X12_swap_69_l33 u a0 a1 z) [4, 5, 6, 3, 2, 1, 0] rfl rfl (fun e13 => ?_)
      refine J_iload_n (j := 1) dX12_swap_203 rfl rfl ?_
      refine J_if_ne (tgt := 211) dX12_swap_204 (by decide) ?_ ?_
      · refine J_iload_n (j := 0) dX12_swap_211 rfl rfl ?_
        refine J_if_ne (tgt := 220) dX12_swap_212 (by decide) ?_ ?_
        · refine J_iload_n (j := 0) dX12_swap_220 rfl rfl ?_
          refine J_iconst (v := 1) dX12_swap_221 (by decide) ?_
          refine J_icmp_ne (tgt := 230) dX12_swap_222 (by decide) ?_ ?_
          · refine J_iload_n (j := 1) dX12_swap_230 rfl rfl ?_
            exact J_iret dX12_swap_231 (fun h => h)
          · refine J_iload (j := 3) dX12_swap_225 rfl ?_
            refine J_goto (tgt := 231) dX12_swap_227 (by decide) ?_
            exact J_iret dX12_swap_231 (fun h => h)
        · refine J_iload (j := 2) dX12_swap_215 rfl ?_
          refine J_goto (tgt := 231) dX12_swap_217 (by decide) ?_
          exact J_iret dX12_swap_231 (fun h => h)
      · refine J_iconst (v := (-1)) dX12_swap_207 (by decide) ?_
        refine J_goto (tgt := 231) dX12_swap_208 (by decide) ?_
        exact J_iret dX12_swap_231 (fun h => h)
    · refine J_iconst (v := (-1)) dX12_swap_20 (by decide) ?_
      exact J_iret dX12_swap_21 (fun h => h)
theorem t_X12_swap_69 (l : Launch) (F : llFix) (d : Nat) (u : llMem) (a0 : Int32) (a1 : Int32) : llCp l F yX12_swap cX12_swap 9 (some .int) (d + 2) [.ref (F.2.2.1 69), .int a0, .int a1] u llI (fx_X12_swap_69 u a0 a1) := llCp.of (by decide +kernel) (by exact Nat.le_of_ble_eq_true rfl) (fun G h1 h2 => by subst h1; subst h2; exact tj_X12_swap_69 u a0 a1)
def fx_X10_midmost_48_l28_b13 (u : llMem) (v2 : Int32) (v3 : Int32) (v4 : Int32) (s : Int32 × Int32) : Option ((Int32 × Int32) ⊕ (Int32)) := (if 3 ≤ s.2 then some (.inr s.1) else (fx_X10_farFrom_48 u v4 s.2).bind (fun r2 => lt (s.1 + r2) (fun v5_3 => lt (s.2 + 1) (fun v6_4 => some (.inl (v5_3, v6_4))))))
set_option maxRecDepth 20000 in
theorem t_X10_midmost_48_l28_b13 {G : llG} {d : Nat} (u : llMem) (v2 : Int32) (v3 : Int32) (v4 : Int32) (s : Int32 × Int32) : llJ G RX10 cX10_midmost 7 (some .int) (d + 3) (Sum.elim (fun s' => llJq G 7 28 [(0, .ref (llAd G 48)), (2, .int v2), (3, .int v3), (4, .int v4), (5, .int s'.1), (6, .int s'.2)] [] u) (fun e => llJq G 7 53 [(0, .ref (llAd G 48)), (2, .int v2), (3, .int v3), (4, .int v4), (5, .int e)] [] u)) 28 [(0, .ref (llAd G 48)), (2, .int v2), (3, .int v3), (4, .int v4), (5, .int s.1), (6, .int s.2)] [] u (fx_X10_midmost_48_l28_b13 u v2 v3 v4 s) := by
  unfold fx_X10_midmost_48_l28_b13
  refine J_iload (j := 5) dX10_midmost_28 rfl ?_
  refine J_iconst (v := 3) dX10_midmost_30 (by decide) ?_
  refine J_icmp_ge (tgt := 53) dX10_midmost_31 (by decide) ?_ ?_
  · exact J_cut [0, 1, 2, 3, 4] (lv' := [(0, .ref (llAd G 48)), (2, .int v2), (3, .int v3), (4, .int v4), (5, .int s.1)]) rfl (fun h => h)
  · refine J_iload (j := 4) dX10_midmost_34 rfl ?_
    refine J_aload_n (j := 0) dX10_midmost_36 rfl rfl ?_
    refine J_iload (j := 3) dX10_midmost_37 rfl ?_
    refine J_iload (j := 5) dX10_midmost_39 rfl ?_
    refine J_callVip2 dX10_midmost_41 (t_X10_farFrom_48 (llL G) (llFx G) (d + 2) u v4 s.2) ym_X10_farFrom wd_1020 sh_48 rfl (Nat.le_of_ble_eq_true rfl) (fun r2 => ?_)
    refine J_iadd dX10_midmost_44 ?_
    refine J_istoreL (fun v5_3 => [(5, .int v5_3), (0, .ref (llAd G 48)), (2, .int v2), (3, .int v3), (4, .int v4), (6, .int s.2)]) dX10_midmost_45 (by decide) (fun _ => rfl) (fun v5_3 => ?_)
    refine J_iinc (j := 5) (b := 1) (fun v6_4 => [(6, .int v6_4), (5, .int v5_3), (0, .ref (llAd G 48)), (2, .int v2), (3, .int v3), (4, .int v4)]) dX10_midmost_47 rfl (by decide) (by decide) (fun _ => rfl) (fun v6_4 => ?_)
    refine J_goto (tgt := 28) dX10_midmost_50 (by decide) ?_
    exact J_cut [2, 3, 4, 5, 1, 0] (lv' := [(0, .ref (llAd G 48)), (2, .int v2), (3, .int v3), (4, .int v4), (5, .int v5_3), (6, .int v6_4)]) rfl (fun h => h)
def fx_X10_midmost_48_j70_b13 (u : llMem) (v2 : Int32) (v3 : Int32) (v4 : Int32) : Option ((Int32 × Int32 × Int32) ⊕ (Int32)) := lt (v4 + 1) (fun v4_6 => some (.inl (v2, v3, v4_6)))
set_option maxRecDepth 20000 in
theorem t_X10_midmost_48_j70_b13 {G : llG} {d : Nat} (u : llMem) (v2 : Int32) (v3 : Int32) (v4 : Int32) : llJ G RX10 cX10_midmost 7 (some .int) (d + 3) (Sum.elim (fun s' => llJq G 7 13 [(0, .ref (llAd G 48)), (2, .int s'.1), (3, .int s'.2.1), (4, .int s'.2.2)] [] u) (fun e => llJq G 7 76 [(2, .int e)] [] u)) 70 [(0, .ref (llAd G 48)), (2, .int v2), (3, .int v3), (4, .int v4)] [] u (fx_X10_midmost_48_j70_b13 u v2 v3 v4) := by
  unfold fx_X10_midmost_48_j70_b13
  refine J_iinc (j := 3) (b := 1) (fun v4_6 => [(4, .int v4_6), (0, .ref (llAd G 48)), (2, .int v2), (3, .int v3)]) dX10_midmost_70 rfl (by decide) (by decide) (fun _ => rfl) (fun v4_6 => ?_)
  refine J_goto (tgt := 13) dX10_midmost_73 (by decide) ?_
  exact J_cut [1, 2, 3, 0] (lv' := [(0, .ref (llAd G 48)), (2, .int v2), (3, .int v3), (4, .int v4_6)]) rfl (fun h => h)
def fx_X10_midmost_48_l13 (u : llMem)  (s : Int32 × Int32 × Int32) : Option ((Int32 × Int32 × Int32) ⊕ (Int32)) := (if (u.1 48 2) ≤ s.2.2 then some (.inr s.1) else (loop (fx_X10_midmost_48_l28_b13 u s.1 s.2.1 s.2.2) llFuel (0, 0)).bind (fun e5 => (if s.2.1 ≤ e5 then fx_X10_midmost_48_j70_b13 u s.1 s.2.1 s.2.2 else gI s.2.2 12 (lt (rI u 50 s.2.2) (fun v2_7 => fx_X10_midmost_48_j70_b13 u v2_7 e5 s.2.2)))))
set_option maxRecDepth 20000 in
theorem t_X10_midmost_48_l13 {G : llG} {d : Nat} (u : llMem)  (s : Int32 × Int32 × Int32) : llJ G RX10 cX10_midmost 7 (some .int) (d + 3) (Sum.elim (fun s' => llJq G 7 13 [(0, .ref (llAd G 48)), (2, .int s'.1), (3, .int s'.2.1), (4, .int s'.2.2)] [] u) (fun e => llJq G 7 76 [(2, .int e)] [] u)) 13 [(0, .ref (llAd G 48)), (2, .int s.1), (3, .int s.2.1), (4, .int s.2.2)] [] u (fx_X10_midmost_48_l13 u s) := by
  unfold fx_X10_midmost_48_l13
  refine J_iload (j := 3) dX10_midmost_13 rfl ?_
  refine J_aload_n (j := 0) dX10_midmost_15 rfl rfl ?_
  refine J_getI dX10_midmost_16 fl_X10_63 sh_48 rfl ?_
  refine J_icmp_ge (tgt := 76) dX10_midmost_19 (by decide) ?_ ?_
  · exact J_cut [1] (lv' := [(2, .int s.1)]) rfl (fun h => h)
  · refine J_iconst (v := 0) dX10_midmost_22 (by decide) ?_
    refine J_istore [(5, .int 0), (0, .ref (llAd G 48)), (2, .int s.1), (3, .int s.2.1), (4, .int s.2.2)] dX10_midmost_23 (by decide) rfl ?_
    refine J_iconst (v := 0) dX10_midmost_25 (by decide) ?_
    refine J_istore [(6, .int 0), (5, .int 0), (0, .ref (llAd G 48)), (2, .int s.1), (3, .int s.2.1), (4, .int s.2.2)] dX10_midmost_26 (by decide) rfl ?_
    refine J_loopE (fun s' => [(0, .ref (llAd G 48)), (2, .int s.1), (3, .int s.2.1), (4, .int s.2.2), (5, .int s'.1), (6, .int s'.2)]) (fun s' => u) 53 (fun e => [(0, .ref (llAd G 48)), (2, .int s.1), (3, .int s.2.1), (4, .int s.2.2), (5, .int e)]) (fun e => u) (fun z => t_X10_midmost_48_l28_b13 u s.1 s.2.1 s.2.2 z) [2, 3, 4, 5, 1, 0] rfl rfl (fun e5 => ?_)
    refine J_iload (j := 4) dX10_midmost_53 rfl ?_
    refine J_iload_n (j := 2) dX10_midmost_55 rfl rfl ?_
    refine J_icmp_ge (tgt := 70) dX10_midmost_56 (by decide) ?_ ?_
    · refine J_sub [0, 1, 2, 3] (lv' := [(0, .ref (llAd G 48)), (2, .int s.1), (3, .int s.2.1), (4, .int s.2.2)]) rfl ?_
      exact t_X10_midmost_48_j70_b13 u s.1 s.2.1 s.2.2
    · refine J_iload (j := 4) dX10_midmost_59 rfl ?_
      refine J_istore_n [(3, .int e5), (0, .ref (llAd G 48)), (2, .int s.1), (4, .int s.2.2), (5, .int e5)] dX10_midmost_61 rfl (by decide) rfl ?_
      refine J_aload_n (j := 1) dX10_midmost_62 rfl rfl ?_
      refine J_getR (b := 50) dX10_midmost_63 fl_X10_19 sh_48 rfl ?_
      refine J_iload (j := 3) dX10_midmost_66 rfl ?_
      refine J_iald dX10_midmost_68 sh_50 ?_
      refine J_istore_nL (fun v2_7 => [(2, .int v2_7), (3, .int e5), (0, .ref (llAd G 48)), (4, .int s.2.2), (5, .int e5)]) dX10_midmost_69 rfl (by decide) (fun _ => rfl) (fun v2_7 => ?_)
      refine J_sub [2, 0, 1, 3] (lv' := [(0, .ref (llAd G 48)), (2, .int v2_7), (3, .int e5), (4, .int s.2.2)]) rfl ?_
      exact t_X10_midmost_48_j70_b13 u v2_7 e5 s.2.2
def fx_X10_midmost_48 (u : llMem) (a0 : Int32) : Option (llMem × Int32) := bd (fx_X10_survey_48 u a0) (fun u1 _ => (loop (fx_X10_midmost_48_l13 u1) llFuel ((-1), 2147483647, 0)).bind (fun e8 => some (u1, e8)))
set_option maxRecDepth 20000 in
theorem tj_X10_midmost_48 {G : llG} {d : Nat} (u : llMem) (a0 : Int32) : llJ G RX10 cX10_midmost 7 (some .int) (d + 3) (fun r => llRet G (llI r.2) r.1) 0 [(0, .ref (llAd G 48)), (1, .int a0)] [] u (fx_X10_midmost_48 u a0) := by
  unfold fx_X10_midmost_48
  refine J_aload_n (j := 0) dX10_midmost_0 rfl rfl ?_
  refine J_iload_n (j := 1) dX10_midmost_1 rfl rfl ?_
  refine J_callVv1 dX10_midmost_2 (t_X10_survey_48 (llL G) (llFx G) d u a0) ym_X10_survey wd_1007 sh_48 rfl (Nat.le_of_ble_eq_true rfl) (fun u1 => ?_)
  refine J_iconst (v := (-1)) dX10_midmost_5 (by decide) ?_
  refine J_istore_n [(2, .int ((-1))), (0, .ref (llAd G 48)), (1, .int a0)] dX10_midmost_6 rfl (by decide) rfl ?_
  refine J_ldc (v := 2147483647) dX10_midmost_7 wd_1032 ?_
  refine J_istore_n [(3, .int 2147483647), (2, .int ((-1))), (0, .ref (llAd G 48)), (1, .int a0)] dX10_midmost_9 rfl (by decide) rfl ?_
  refine J_iconst (v := 0) dX10_midmost_10 (by decide) ?_
  refine J_istore [(4, .int 0), (3, .int 2147483647), (2, .int ((-1))), (0, .ref (llAd G 48)), (1, .int a0)] dX10_midmost_11 (by decide) rfl ?_
  refine J_loopE (fun s' => [(0, .ref (llAd G 48)), (2, .int s'.1), (3, .int s'.2.1), (4, .int s'.2.2)]) (fun s' => u1) 76 (fun e => [(2, .int e)]) (fun e => u1) (fun z => t_X10_midmost_48_l13 u1 z) [3, 2, 1, 0] rfl rfl (fun e8 => ?_)
  refine J_iload_n (j := 0) dX10_midmost_76 rfl rfl ?_
  exact J_iret dX10_midmost_77 (fun h => h)
theorem t_X10_midmost_48 (l : Launch) (F : llFix) (d : Nat) (u : llMem) (a0 : Int32) : llCt l F yX10_midmost cX10_midmost 7 (some .int) (d + 3) [.ref (F.2.2.1 48), .int a0] u llI (fx_X10_midmost_48 u a0) := llCt.of (by decide +kernel) (by exact Nat.le_of_ble_eq_true rfl) (fun G h1 h2 => by subst h1; subst h2; exact tj_X10_midmost_48 u a0)
