def fx_X11_middle_0 (u : llMem) (a0 : Int32) : Option (llMem × Int32) := (fx_X5_hasLevel_3 u a0).bind (fun r1 => (if r1 = 0 then some (u, (-1)) else bd (fx_X10_midmost_48 u a0) (fun u2 r3 => some (u2, r3))))
set_option maxRecDepth 20000 in
theorem tj_X11_middle_0 {G : llG} {d : Nat} (u : llMem) (a0 : Int32) : llJ G RX11 cX11_middle 2 (some .int) (d + 4) (fun r => llRet G (llI r.2) r.1) 0 [(0, .ref (llAd G 0)), (1, .int a0)] [] u (fx_X11_middle_0 u a0) := by
  unfold fx_X11_middle_0
  refine J_aload_n (j := 0) dX11_middle_0 rfl rfl ?_
  refine J_getR (b := 3) dX11_middle_1 fl_X11_19 sh_0 rfl ?_
  refine J_iload_n (j := 1) dX11_middle_4 rfl rfl ?_
  refine J_callVip1 dX11_middle_5 (t_X5_hasLevel_3 (llL G) (llFx G) (d + 3) u a0) ym_X5_hasLevel wd_956 sh_3 rfl (Nat.le_of_ble_eq_true rfl) (fun r1 => ?_)
  refine J_if_eq (tgt := 22) dX11_middle_8 (by decide) ?_ ?_
  · refine J_iconst (v := (-1)) dX11_middle_22 (by decide) ?_
    exact J_iret dX11_middle_23 (fun h => h)
  · refine J_aload_n (j := 0) dX11_middle_11 rfl rfl ?_
    refine J_getR (b := 48) dX11_middle_12 fl_X11_69 sh_0 rfl ?_
    refine J_iload_n (j := 1) dX11_middle_15 rfl rfl ?_
    refine J_callVi1 dX11_middle_16 (t_X10_midmost_48 (llL G) (llFx G) d u a0) ym_X10_midmost wd_1028 sh_48 rfl (Nat.le_of_ble_eq_true rfl) (fun u2 r3 => ?_)
    refine J_goto (tgt := 23) dX11_middle_19 (by decide) ?_
    exact J_iret dX11_middle_23 (fun h => h)
theorem t_X11_middle_0 (l : Launch) (F : llFix) (d : Nat) (u : llMem) (a0 : Int32) : llCt l F yX11_middle cX11_middle 2 (some .int) (d + 4) [.ref (F.2.2.1 0), .int a0] u llI (fx_X11_middle_0 u a0) := llCt.of (by decide +kernel) (by exact Nat.le_of_ble_eq_true rfl) (fun G h1 h2 => by subst h1; subst h2; exact tj_X11_middle_0 u a0)
def fx_X12_middle_69_j52_b14 (u : llMem) (v1 : Int32) (v2 : Int32) (v3 : Int32) : Option ((Int32 × Int32) ⊕ (Int32)) := lt (v3 + 1) (fun v3_2 => some (.inl (v2, v3_2)))
set_option maxRecDepth 20000 in
theorem t_X12_middle_69_j52_b14 {G : llG} {d : Nat} (u : llMem) (v1 : Int32) (v2 : Int32) (v3 : Int32) : llJ G RX12 cX12_middle 4 (some .int) (d + 3) (Sum.elim (fun s' => llJq G 4 14 [(0, .ref (llAd G 69)), (1, .int v1), (2, .int s'.1), (3, .int s'.2)] [] u) (fun e => llJq G 4 58 [(2, .int e)] [] u)) 52 [(0, .ref (llAd G 69)), (1, .int v1), (2, .int v2), (3, .int v3)] [] u (fx_X12_middle_69_j52_b14 u v1 v2 v3) := by
  unfold fx_X12_middle_69_j52_b14
  refine J_iinc (j := 3) (b := 1) (fun v3_2 => [(3, .int v3_2), (0, .ref (llAd G 69)), (1, .int v1), (2, .int v2)]) dX12_middle_52 rfl (by decide) (by decide) (fun _ => rfl) (fun v3_2 => ?_)
  refine J_goto (tgt := 14) dX12_middle_55 (by decide) ?_
  exact J_cut [1, 2, 3, 0] (lv' := [(0, .ref (llAd G 69)), (1, .int v1), (2, .int v2), (3, .int v3_2)]) rfl (fun h => h)
def fx_X12_middle_69_j50_b14 (u : llMem) (v1 : Int32) (v3 : Int32) : Option ((Int32 × Int32) ⊕ (Int32)) := fx_X12_middle_69_j52_b14 u v1 v3 v3
set_option maxRecDepth 20000 in
theorem t_X12_middle_69_j50_b14 {G : llG} {d : Nat} (u : llMem) (v1 : Int32) (v3 : Int32) : llJ G RX12 cX12_middle 4 (some .int) (d + 3) (Sum.elim (fun s' => llJq G 4 14 [(0, .ref (llAd G 69)), (1, .int v1), (2, .int s'.1), (3, .int s'.2)] [] u) (fun e => llJq G 4 58 [(2, .int e)] [] u)) 50 [(0, .ref (llAd G 69)), (1, .int v1), (3, .int v3)] [] u (fx_X12_middle_69_j50_b14 u v1 v3) := by
  unfold fx_X12_middle_69_j50_b14
  refine J_iload_n (j := 2) dX12_middle_50 rfl rfl ?_
  refine J_istore_n [(2, .int v3), (0, .ref (llAd G 69)), (1, .int v1), (3, .int v3)] dX12_middle_51 rfl (by decide) rfl ?_
  refine J_sub [1, 2, 0, 3] (lv' := [(0, .ref (llAd G 69)), (1, .int v1), (2, .int v3), (3, .int v3)]) rfl ?_
  exact t_X12_middle_69_j52_b14 u v1 v3 v3
def fx_X12_milesAll_69_l4 (u : llMem) (v1 : Int32) (s : Int32 × Int32) : Option ((Int32 × Int32) ⊕ (Int32)) := gI v1 60 (gI ((4 * (rI u 74 v1)) + 0) 32 ((if (rI u 70 ((4 * (rI u 74 v1)) + 0)) ≤ s.2 then some (.inr s.1) else gI v1 60 ((fx_X12_milesIn_69 u v1 (rI u 74 v1) s.2).bind (fun r1 => lt (s.1 + r1) (fun v2_2 => lt (s.2 + 1) (fun v3_3 => some (.inl (v2_2, v3_3)))))))))
set_option maxRecDepth 20000 in
theorem t_X12_milesAll_69_l4 {G : llG} {d : Nat} (u : llMem) (v1 : Int32) (s : Int32 × Int32) : llJ G RX12 cX12_milesAll 4 (some .int) (d + 2) (Sum.elim (fun s' => llJq G 4 4 [(0, .ref (llAd G 69)), (1, .int v1), (2, .int s'.1), (3, .int s'.2)] [] u) (fun e => llJq G 4 44 [(2, .int e)] [] u)) 4 [(0, .ref (llAd G 69)), (1, .int v1), (2, .int s.1), (3, .int s.2)] [] u (fx_X12_milesAll_69_l4 u v1 s) := by
  unfold fx_X12_milesAll_69_l4
  refine J_iload_n (j := 3) dX12_milesAll_4 rfl rfl ?_
  refine J_aload_n (j := 0) dX12_milesAll_5 rfl rfl ?_
  refine J_getR (b := 70) dX12_milesAll_6 fl_X12_7 sh_69 rfl ?_
  refine J_iconst (v := 4) dX12_milesAll_9 (by decide) ?_
  refine J_aload_n (j := 0) dX12_milesAll_10 rfl rfl ?_
  refine J_getR (b := 74) dX12_milesAll_11 fl_X12_23 sh_69 rfl ?_
  refine J_iload_n (j := 1) dX12_milesAll_14 rfl rfl ?_
  refine J_iald dX12_milesAll_15 sh_74 ?_
  refine J_imul dX12_milesAll_16 ?_
  refine J_iconst (v := 0) dX12_milesAll_17 (by decide) ?_
  refine J_iadd dX12_milesAll_18 ?_
  refine J_iald dX12_milesAll_19 sh_70 ?_
  refine J_icmp_ge (tgt := 44) dX12_milesAll_20 (by decide) ?_ ?_
  · exact J_cut [2] (lv' := [(2, .int s.1)]) rfl (fun h => h)
  · refine J_iload_n (j := 2) dX12_milesAll_23 rfl rfl ?_
    refine J_aload_n (j := 0) dX12_milesAll_24 rfl rfl ?_
    refine J_iload_n (j := 1) dX12_milesAll_25 rfl rfl ?_
    refine J_aload_n (j := 0) dX12_milesAll_26 rfl rfl ?_
    refine J_getR (b := 74) dX12_milesAll_27 fl_X12_23 sh_69 rfl ?_
    refine J_iload_n (j := 1) dX12_milesAll_30 rfl rfl ?_
    refine J_iald dX12_milesAll_31 sh_74 ?_
    refine J_iload_n (j := 3) dX12_milesAll_32 rfl rfl ?_
    refine J_callVip3 dX12_milesAll_33 (t_X12_milesIn_69 (llL G) (llFx G) d u v1 (rI u 74 v1) s.2) ym_X12_milesIn wd_1594 sh_69 rfl (Nat.le_of_ble_eq_true rfl) (fun r1 => ?_)
    refine J_iadd dX12_milesAll_36 ?_
    refine J_istore_nL (fun v2_2 => [(2, .int v2_2), (0, .ref (llAd G 69)), (1, .int v1), (3, .int s.2)]) dX12_milesAll_37 rfl (by decide) (fun _ => rfl) (fun v2_2 => ?_)
    refine J_iinc (j := 3) (b := 1) (fun v3_3 => [(3, .int v3_3), (2, .int v2_2), (0, .ref (llAd G 69)), (1, .int v1)]) dX12_milesAll_38 rfl (by decide) (by decide) (fun _ => rfl) (fun v3_3 => ?_)
    refine J_goto (tgt := 4) dX12_milesAll_41 (by decide) ?_
    exact J_cut [2, 3, 1, 0] (lv' := [(0, .ref (llAd G 69)), (1, .int v1), (2, .int v2_2), (3, .int v3_3)]) rfl (fun h => h)
def fx_X12_milesAll_69 (u : llMem) (a0 : Int32) : Option Int32 := (loop (fx_X12_milesAll_69_l4 u a0) llFuel (0, 0)).bind (fun e4 => some e4)
set_option maxRecDepth 20000 in
theorem tj_X12_milesAll_69 {G : llG} {d : Nat} (u : llMem) (a0 : Int32) : llJ G RX12 cX12_milesAll 4 (some .int) (d + 2) (fun r => llRet G (llI r) u) 0 [(0, .ref (llAd G 69)), (1, .int a0)] [] u (fx_X12_milesAll_69 u a0) := by
  unfold fx_X12_milesAll_69
  refine J_iconst (v := 0) dX12_milesAll_0 (by decide) ?_
  refine J_istore_n [(2, .int 0), (0, .ref (llAd G 69)), (1, .int a0)] dX12_milesAll_1 rfl (by decide) rfl ?_
  refine J_iconst (v := 0) dX12_milesAll_2 (by decide) ?_
  refine J_istore_n [(3, .int 0), (2, .int 0), (0, .ref (llAd G 69)), (1, .int a0)] dX12_milesAll_3 rfl (by decide) rfl ?_
  refine J_loopE (fun s' => [(0, .ref (llAd G 69)), (1, .int a0), (2, .int s'.1), (3, .int s'.2)]) (fun s' => u) 44 (fun e => [(2, .int e)]) (fun e => u) (fun z => t_X12_milesAll_69_l4 u a0 z) [2, 3, 1, 0] rfl rfl (fun e4 => ?_)
  refine J_iload_n (j := 0) dX12_milesAll_44 rfl rfl ?_
  exact J_iret dX12_milesAll_45 (fun h => h)
theorem t_X12_milesAll_69 (l : Launch) (F : llFix) (d : Nat) (u : llMem) (a0 : Int32) : llCp l F yX12_milesAll cX12_milesAll 4 (some .int) (d + 2) [.ref (F.2.2.1 69), .int a0] u llI (fx_X12_milesAll_69 u a0) := llCp.of (by decide +kernel) (by exact Nat.le_of_ble_eq_true rfl) (fun G h1 h2 => by subst h1; subst h2; exact tj_X12_milesAll_69 u a0)
def fx_X12_middle_69_l14 (u : llMem) (v1 : Int32) (s : Int32 × Int32) : Option ((Int32 × Int32) ⊕ (Int32)) := (if (u.1 69 9) ≤ s.2 then some (.inr s.1) else gI s.2 60 ((if ¬ (rI u 74 s.2) = v1 then fx_X12_middle_69_j52_b14 u v1 s.1 s.2 else (if s.1 = ((-1)) then fx_X12_middle_69_j50_b14 u v1 s.2 else (fx_X12_milesAll_69 u s.2).bind (fun r3 => (fx_X12_milesAll_69 u s.1).bind (fun r4 => (if r4 ≤ r3 then fx_X12_middle_69_j52_b14 u v1 s.1 s.2 else fx_X12_middle_69_j50_b14 u v1 s.2)))))))
set_option maxRecDepth 20000 in
theorem t_X12_middle_69_l14 {G : llG} {d : Nat} (u : llMem) (v1 : Int32) (s : Int32 × Int32) : llJ G RX12 cX12_middle 4 (some .int) (d + 3) (Sum.elim (fun s' => llJq G 4 14 [(0, .ref (llAd G 69)), (1, .int v1), (2, .int s'.1), (3, .int s'.2)] [] u) (fun e => llJq G 4 58 [(2, .int e)] [] u)) 14 [(0, .ref (llAd G 69)), (1, .int v1), (2, .int s.1), (3, .int s.2)] [] u (fx_X12_middle_69_l14 u v1 s) := by
  unfold fx_X12_middle_69_l14
  refine J_iload_n (j := 3) dX12_middle_14 rfl rfl ?_
  refine J_aload_n (j := 0) dX12_middle_15 rfl rfl ?_
  refine J_getI dX12_middle_16 fl_X12_263 sh_69 rfl ?_
  refine J_icmp_ge (tgt := 58) dX12_middle_19 (by decide) ?_ ?_
  · exact J_cut [2] (lv' := [(2, .int s.1)]) rfl (fun h => h)
  · refine J_aload_n (j := 0) dX12_middle_22 rfl rfl ?_
    refine J_getR (b := 74) dX12_middle_23 fl_X12_23 sh_69 rfl ?_
    refine J_iload_n (j := 3) dX12_middle_26 rfl rfl ?_
    refine J_iald dX12_middle_27 sh_74 ?_
    refine J_iload_n (j := 1) dX12_middle_28 rfl rfl ?_
    refine J_icmp_ne (tgt := 52) dX12_middle_29 (by decide) ?_ ?_
    · refine J_sub [0, 1, 2, 3] (lv' := [(0, .ref (llAd G 69)), (1, .int v1), (2, .int s.1), (3, .int s.2)]) rfl ?_
      exact t_X12_middle_69_j52_b14 u v1 s.1 s.2
    · refine J_iload_n (j := 2) dX12_middle_32 rfl rfl ?_
      refine J_iconst (v := (-1)) dX12_middle_33 (by decide) ?_
      refine J_icmp_eq (tgt := 50) dX12_middle_34 (by decide) ?_ ?_
      · refine J_sub [0, 1, 3] (lv' := [(0, .ref (llAd G 69)), (1, .int v1), (3, .int s.2)]) rfl ?_
        exact t_X12_middle_69_j50_b14 u v1 s.2
      · refine J_aload_n (j := 0) dX12_middle_37 rfl rfl ?_
        refine J_iload_n (j := 3) dX12_middle_38 rfl rfl ?_
        refine J_callVip1 dX12_middle_39 (t_X12_milesAll_69 (llL G) (llFx G) d u s.2) ym_X12_milesAll wd_1667 sh_69 rfl (Nat.le_of_ble_eq_true rfl) (fun r3 => ?_)
        refine J_aload_n (j := 0) dX12_middle_42 rfl rfl ?_
        refine J_iload_n (j := 2) dX12_middle_43 rfl rfl ?_
        refine J_callVip1 dX12_middle_44 (t_X12_milesAll_69 (llL G) (llFx G) d u s.1) ym_X12_milesAll wd_1667 sh_69 rfl (Nat.le_of_ble_eq_true rfl) (fun r4 => ?_)
        refine J_icmp_ge (tgt := 52) dX12_middle_47 (by decide) ?_ ?_
        · refine J_sub [0, 1, 2, 3] (lv' := [(0, .ref (llAd G 69)), (1, .int v1), (2, .int s.1), (3, .int s.2)]) rfl ?_
          exact t_X12_middle_69_j52_b14 u v1 s.1 s.2
        · refine J_sub [0, 1, 3] (lv' := [(0, .ref (llAd G 69)), (1, .int v1), (3, .int s.2)]) rfl ?_
          exact t_X12_middle_69_j50_b14 u v1 s.2
def fx_X12_middle_69 (u : llMem) (a0 : Int32) : Option Int32 := (fx_X12_isLevel_69 u a0).bind (fun r1 => (if ¬ r1 = 0 then (loop (fx_X12_middle_69_l14 u a0) llFuel ((-1), 0)).bind (fun e5 => some e5) else some ((-1))))
set_option maxRecDepth 20000 in
theorem tj_X12_middle_69 {G : llG} {d : Nat} (u : llMem) (a0 : Int32) : llJ G RX12 cX12_middle 4 (some .int) (d + 3) (fun r => llRet G (llI r) u) 0 [(0, .ref (llAd G 69)), (1, .int a0)] [] u (fx_X12_middle_69 u a0) := by
  unfold fx_X12_middle_69
  refine J_aload_n (j := 0) dX12_middle_0 rfl rfl ?_
  refine J_iload_n (j := 1) dX12_middle_1 rfl rfl ?_
  refine J_callVip1 dX12_middle_2 (t_X12_isLevel_69 (llL G) (llFx G) (d + 1) u a0) ym_X12_isLevel wd_1625 sh_69 rfl (Nat.le_of_ble_eq_true rfl) (fun r1 => ?_)
  refine J_if_ne (tgt := 10) dX12_middle_5 (by decide) ?_ ?_
  · refine J_iconst (v := (-1)) dX12_middle_10 (by decide) ?_
    refine J_istore_n [(2, .int ((-1))), (0, .ref (llAd G 69)), (1, .int a0)] dX12_middle_11 rfl (by decide) rfl ?_
    refine J_iconst (v := 0) dX12_middle_12 (by decide) ?_
    refine J_istore_n [(3, .int 0), (2, .int ((-1))), (0, .ref (llAd G 69)), (1, .int a0)] dX12_middle_13 rfl (by decide) rfl ?_
    refine J_loopE (fun s' => [(0, .ref (llAd G 69)), (1, .int a0), (2, .int s'.1), (3, .int s'.2)]) (fun s' => u) 58 (fun e => [(2, .int e)]) (fun e => u) (fun z => t_X12_middle_69_l14 u a0 z) [2, 3, 1, 0] rfl rfl (fun e5 => ?_)
    refine J_iload_n (j := 0) dX12_middle_58 rfl rfl ?_
    exact J_iret dX12_middle_59 (fun h => h)
  · refine J_iconst (v := (-1)) dX12_middle_8 (by decide) ?_
    exact J_iret dX12_middle_9 (fun h => h)
theorem t_X12_middle_69 (l : Launch) (F : llFix) (d : Nat) (u : llMem) (a0 : Int32) : llCp l F yX12_middle cX12_middle 4 (some .int) (d + 3) [.ref (F.2.2.1 69), .int a0] u llI (fx_X12_middle_69 u a0) := llCp.of (by decide +kernel) (by exact Nat.le_of_ble_eq_true rfl) (fun G h1 h2 => by subst h1; subst h2; exact tj_X12_middle_69 u a0)
def fx_X7_playedIn_14_3_j38_b6 (u : llMem) (v2 : Int32) (v3 : Int32) (v4 : Int32) (v5 : Int32) : Option ((Int32 × Int32) ⊕ (Int32)) := lt (v5 + 1) (fun v5_2 => some (.inl (v4, v5_2)))
set_option maxRecDepth 20000 in
theorem t_X7_playedIn_14_3_j38_b6 {G : llG} {d : Nat} (u : llMem) (v2 : Int32) (v3 : Int32) (v4 : Int32) (v5 : Int32) : llJ G RX7 cX7_playedIn 6 (some .int) (d + 1) (Sum.elim (fun s' => llJq G 6 6 [(0, .ref (llAd G 14)), (1, .ref (llAd G 3)), (2, .int v2), (3, .int v3), (4, .int s'.1), (5, .int s'.2)] [] u) (fun e => llJq G 6 44 [(4, .int e)] [] u)) 38 [(0, .ref (llAd G 14)), (1, .ref (llAd G 3)), (2, .int v2), (3, .int v3), (4, .int v4), (5, .int v5)] [] u (fx_X7_playedIn_14_3_j38_b6 u v2 v3 v4 v5) := by
  unfold fx_X7_playedIn_14_3_j38_b6
  refine J_iinc (j := 5) (b := 1) (fun v5_2 => [(5, .int v5_2), (0, .ref (llAd G 14)), (1, .ref (llAd G 3)), (2, .int v2), (3, .int v3), (4, .int v4)]) dX7_playedIn_38 rfl (by decide) (by decide) (fun _ => rfl) (fun v5_2 => ?_)
  refine J_goto (tgt := 6) dX7_playedIn_41 (by decide) ?_
  exact J_cut [1, 2, 3, 4, 5, 0] (lv' := [(0, .ref (llAd G 14)), (1, .ref (llAd G 3)), (2, .int v2), (3, .int v3), (4, .int v4), (5, .int v5_2)]) rfl (fun h => h)
def fx_X7_playedIn_14_3_l6 (u : llMem) (v2 : Int32) (v3 : Int32) (s : Int32 × Int32) : Option ((Int32 × Int32) ⊕ (Int32)) := (if (u.1 3 5) ≤ s.2 then some (.inr s.1) else (fx_X5_standsIn_3 u s.2 v2 v3).bind (fun r1 => (if r1 = 0 then fx_X7_playedIn_14_3_j38_b6 u v2 v3 s.1 s.2 else gI s.2 30 (lt (s.1 + (rI u 21 s.2)) (fun v4_3 => fx_X7_playedIn_14_3_j38_b6 u v2 v3 v4_3 s.2)))))
set_option maxRecDepth 20000 in
theorem t_X7_playedIn_14_3_l6 {G : llG} {d : Nat} (u : llMem) (v2 : Int32) (v3 : Int32) (s : Int32 × Int32) : llJ G RX7 cX7_playedIn 6 (some .int) (d + 1) (Sum.elim (fun s' => llJq G 6 6 [(0, .ref (llAd G 14)), (1, .ref (llAd G 3)), (2, .int v2), (3, .int v3), (4, .int s'.1), (5, .int s'.2)] [] u) (fun e => llJq G 6 44 [(4, .int e)] [] u)) 6 [(0, .ref (llAd G 14)), (1, .ref (llAd G 3)), (2, .int v2), (3, .int v3), (4, .int s.1), (5, .int s.2)] [] u (fx_X7_playedIn_14_3_l6 u v2 v3 s) := by
  unfold fx_X7_playedIn_14_3_l6
  refine J_iload (j := 5) dX7_playedIn_6 rfl ?_
  refine J_aload_n (j := 1) dX7_playedIn_8 rfl rfl ?_
  refine J_getI dX7_playedIn_9 fl_X7_82 sh_3 rfl ?_
  refine J_icmp_ge (tgt := 44) dX7_playedIn_12 (by decide) ?_ ?_
  · exact J_cut [4] (lv' := [(4, .int s.1)]) rfl (fun h => h)
  · refine J_aload_n (j := 1) dX7_playedIn_15 rfl rfl ?_
    refine J_iload (j := 5) dX7_playedIn_16 rfl ?_
    refine J_iload_n (j := 2) dX7_playedIn_18 rfl rfl ?_
    refine J_iload_n (j := 3) dX7_playedIn_19 rfl rfl ?_
    refine J_callVip3 dX7_playedIn_20 (t_X5_standsIn_3 (llL G) (llFx G) d u s.2 v2 v3) ym_X5_standsIn wd_1042 sh_3 rfl (Nat.le_of_ble_eq_true rfl) (fun r1 => ?_)
    refine J_if_eq (tgt := 38) dX7_playedIn_23 (by decide) ?_ ?_
    · refine J_sub [0, 1, 2, 3, 4, 5] (lv' := [(0, .ref (llAd G 14)), (1, .ref (llAd G 3)), (2, .int v2), (3, .int v3), (4, .int s.1), (5, .int s.2)]) rfl ?_
      exact t_X7_playedIn_14_3_j38_b6 u v2 v3 s.1 s.2
    · refine J_iload (j := 4) dX7_playedIn_26 rfl ?_
      refine J_aload_n (j := 0) dX7_playedIn_28 rfl rfl ?_
      refine J_getR (b := 21) dX7_playedIn_29 fl_X7_36 sh_14 rfl ?_
      refine J_iload (j := 5) dX7_playedIn_32 rfl ?_
      refine J_iald dX7_playedIn_34 sh_21 ?_
      refine J_iadd dX7_playedIn_35 ?_
      refine J_istoreL (fun v4_3 => [(4, .int v4_3), (0, .ref (llAd G 14)), (1, .ref (llAd G 3)), (2, .int v2), (3, .int v3), (5, .int s.2)]) dX7_playedIn_36 (by decide) (fun _ => rfl) (fun v4_3 => ?_)
      refine J_sub [1, 2, 3, 4, 0, 5] (lv' := [(0, .ref (llAd G 14)), (1, .ref (llAd G 3)), (2, .int v2), (3, .int v3), (4, .int v4_3), (5, .int s.2)]) rfl ?_
      exact t_X7_playedIn_14_3_j38_b6 u v2 v3 v4_3 s.2
def fx_X7_playedIn_14_3 (u : llMem) (a1 : Int32) (a2 : Int32) : Option Int32 := (loop (fx_X7_playedIn_14_3_l6 u a1 a2) llFuel (0, 0)).bind (fun e4 => some e4)
set_option maxRecDepth 20000 in
theorem tj_X7_playedIn_14_3 {G : llG} {d : Nat} (u : llMem) (a1 : Int32) (a2 : Int32) : llJ G RX7 cX7_playedIn 6 (some .int) (d + 1) (fun r => llRet G (llI r) u) 0 [(0, .ref (llAd G 14)), (1, .ref (llAd G 3)), (2, .int a1), (3, .int a2)] [] u (fx_X7_playedIn_14_3 u a1 a2) := by
  unfold fx_X7_playedIn_14_3
  refine J_iconst (v := 0) dX7_playedIn_0 (by decide) ?_
  refine J_istore [(4, .int 0), (0, .ref (llAd G 14)), (1, .ref (llAd G 3)), (2, .int a1), (3, .int a2)] dX7_playedIn_1 (by decide) rfl ?_
  refine J_iconst (v := 0) dX7_playedIn_3 (by decide) ?_
  refine J_istore [(5, .int 0), (4, .int 0), (0, .ref (llAd G 14)), (1, .ref (llAd G 3)), (2, .int a1), (3, .int a2)] dX7_playedIn_4 (by decide) rfl ?_
  refine J_loopE (fun s' => [(0, .ref (llAd G 14)), (1, .ref (llAd G 3)), (2, .int a1), (3, .int a2), (4, .int s'.1), (5, .int s'.2)]) (fun s' => u) 44 (fun e => [(4, .int e)]) (fun e => u) (fun z => t_X7_playedIn_14_3_l6 u a1 a2 z) [2, 3, 4, 5, 1, 0] rfl rfl (fun e4 => ?_)
  refine J_iload (j := 0) dX7_playedIn_44 rfl ?_
  exact J_iret dX7_playedIn_46 (fun h => h)
theorem t_X7_playedIn_14_3 (l : Launch) (F : llFix) (d : Nat) (u : llMem) (a1 : Int32) (a2 : Int32) : llCp l F yX7_playedIn cX7_playedIn 6 (some .int) (d + 1) [.ref (F.2.2.1 14), .ref (F.2.2.1 3), .int a1, .int a2] u llI (fx_X7_playedIn_14_3 u a1 a2) := llCp.of (by decide +kernel) (by exact Nat.le_of_ble_eq_true rfl) (fun G h1 h2 => by subst h1; subst h2; exact tj_X7_playedIn_14_3 u a1 a2)
def fx_X11_rest_0 (u : llMem) (a0 : Int32) (a1 : Int32) : Option Int64 := (fx_X5_hasDivision_3 u a0 a1).bind (fun r1 => (if ¬ r1 = 0 then (fx_X7_playedIn_14_3 u a0 a1).bind (fun r2 => gZ 2 (lt (r2 / 2) (fun v3_3 => (if 1 ≤ v3_3 then (fx_X10_withinTwice_48 u a0 a1).bind (fun r4 => g64 (FP.ddiv (FP.i2d r4) (FP.i2d v3_3)) (lt (FP.ddiv (FP.i2d r4) (FP.i2d v3_3)) (fun v4_5 => g64 (FP.dsub v4_5 (FP.l2d (FP.d2l v4_5))) ((fx_X0_ofDouble u (FP.dsub v4_5 (FP.l2d (FP.d2l v4_5)))).bind (fun r6 => some r6))))) else some ((-1)))))) else some ((-1))))
set_option maxRecDepth 20000 in
theorem tj_X11_rest_0 {G : llG} {d : Nat} (u : llMem) (a0 : Int32) (a1 : Int32) : llJ G RX11 cX11_rest 6 (some .long) (d + 3) (fun r => llRet G (llLg r) u) 0 [(0, .ref (llAd G 0)), (1, .int a0), (2, .int a1)] [] u (fx_X11_rest_0 u a0 a1) := by
  unfold fx_X11_rest_0
  refine J_aload_n (j := 0) dX11_rest_0 rfl rfl ?_
  refine J_getR (b := 3) dX11_rest_1 fl_X11_19 sh_0 rfl ?_
  refine J_iload_n (j := 1) dX11_rest_4 rfl rfl ?_
  refine J_iload_n (j := 2) dX11_rest_5 rfl rfl ?_
  refine J_callVip2 dX11_rest_6 (t_X5_hasDivision_3 (llL G) (llFx G) (d + 1) u a0 a1) ym_X5_hasDivision wd_944 sh_3 rfl (Nat.le_of_ble_eq_true rfl) (fun r1 => ?_)
  refine J_if_ne (tgt := 16) dX11_rest_9 (by decide) ?_ ?_
  · refine J_aload_n (j := 0) dX11_rest_16 rfl rfl ?_
    refine J_getR (b := 14) dX11_rest_17 fl_X11_26 sh_0 rfl ?_
    refine J_aload_n (j := 0) dX11_rest_20 rfl rfl ?_
    refine J_getR (b := 3) dX11_rest_21 fl_X11_19 sh_0 rfl ?_
    refine J_iload_n (j := 1) dX11_rest_24 rfl rfl ?_
    refine J_iload_n (j := 2) dX11_rest_25 rfl rfl ?_
    refine J_callVip3 dX11_rest_26 (t_X7_playedIn_14_3 (llL G) (llFx G) (d + 1) u a0 a1) ym_X7_playedIn wd_1038 sh_14 rfl (Nat.le_of_ble_eq_true rfl) (fun r2 => ?_)
    refine J_iconst (v := 2) dX11_rest_29 (by decide) ?_
    refine J_idiv dX11_rest_30 ?_
    refine J_istore_nL (fun v3_3 => [(3, .int v3_3), (0, .ref (llAd G 0)), (1, .int a0), (2, .int a1)]) dX11_rest_31 rfl (by decide) (fun _ => rfl) (fun v3_3 => ?_)
    refine J_iload_n (j := 0) dX11_rest_32 rfl rfl ?_
    refine J_iconst (v := 1) dX11_rest_33 (by decide) ?_
    refine J_icmp_ge (tgt := 41) dX11_rest_34 (by decide) ?_ ?_
    · refine J_aload_n (j := 1) dX11_rest_41 rfl rfl ?_
      refine J_getR (b := 48) dX11_rest_42 fl_X11_69 sh_0 rfl ?_
      refine J_iload_n (j := 2) dX11_rest_45 rfl rfl ?_
      refine J_iload_n (j := 3) dX11_rest_46 rfl rfl ?_
      refine J_callVip2 dX11_rest_47 (t_X10_withinTwice_48 (llL G) (llFx G) d u a0 a1) ym_X10_withinTwice wd_1043 sh_48 rfl (Nat.le_of_ble_eq_true rfl) (fun r4 => ?_)
      refine J_i2d dX11_rest_50 ?_
      refine J_iload_n (j := 0) dX11_rest_51 rfl rfl ?_
      refine J_i2d dX11_rest_52 ?_
      refine J_ddiv dX11_rest_53 ?_
      refine J_dstoreL (fun v4_5 => [(4, .double v4_5), (3, .int v3_3), (0, .ref (llAd G 0)), (1, .int a0), (2, .int a1)]) dX11_rest_54 (by decide) (fun _ => rfl) (fun v4_5 => ?_)
      refine J_dload (j := 0) dX11_rest_56 rfl ?_
      refine J_dload (j := 0) dX11_rest_58 rfl ?_
      refine J_d2l dX11_rest_60 ?_
      refine J_l2d dX11_rest_61 ?_
      refine J_dsub dX11_rest_62 ?_
      refine J_callSlp1 dX11_rest_63 (t_X0_ofDouble (llL G) (llFx G) (d + 2) u (FP.dsub v4_5 (FP.l2d (FP.d2l v4_5)))) ym_X0_ofDouble wd_1044 (Nat.le_of_ble_eq_true rfl) (fun r6 => ?_)
      exact J_lret dX11_rest_66 (fun h => h)
    · refine J_ldc2 (v := (-1)) dX11_rest_37 wd_1037 ?_
      exact J_lret dX11_rest_40 (fun h => h)
  · refine J_ldc2 (v := (-1)) dX11_rest_12 wd_1037 ?_
    exact J_lret dX11_rest_15 (fun h => h)
theorem t_X11_rest_0 (l : Launch) (F : llFix) (d : Nat) (u : llMem) (a0 : Int32) (a1 : Int32) : llCp l F yX11_rest cX11_rest 6 (some .long) (d + 3) [.ref (F.2.2.1 0), .int a0, .int a1] u llLg (fx_X11_rest_0 u a0 a1) := llCp.of (by decide +kernel) (by exact Nat.le_of_ble_eq_true rfl) (fun G h1 h2 => by subst h1; subst h2; exact tj_X11_rest_0 u a0 a1)
def fx_X12_rest_69_j61_b18 (u : llMem) (v1 : Int32) (v2 : Int32) (v4 : Int32) (t0 : Int32) (t1 : Int32) : Option ((Int32 × Int32) ⊕ (Int32)) := lt (t0 + t1) (fun v3_2 => lt (v4 + 1) (fun v4_3 => some (.inl (v3_2, v4_3))))
set_option maxRecDepth 20000 in
theorem t_X12_rest_69_j61_b18 {G : llG} {d : Nat} (u : llMem) (v1 : Int32) (v2 : Int32) (v4 : Int32) (t0 : Int32) (t1 : Int32) : llJ G RX12 cX12_rest 5 (some .long) (d + 3) (Sum.elim (fun s' => llJq G 5 18 [(0, .ref (llAd G 69)), (1, .int v1), (2, .int v2), (3, .int s'.1), (4, .int s'.2)] [] u) (fun e => llJq G 5 69 [(0, .ref (llAd G 69)), (1, .int v1), (2, .int v2), (3, .int e)] [] u)) 61 [(0, .ref (llAd G 69)), (1, .int v1), (2, .int v2), (4, .int v4)] [.int t1, .int t0] u (fx_X12_rest_69_j61_b18 u v1 v2 v4 t0 t1) := by
  unfold fx_X12_rest_69_j61_b18
  refine J_iadd dX12_rest_61 ?_
  refine J_istore_nL (fun v3_2 => [(3, .int v3_2), (0, .ref (llAd G 69)), (1, .int v1), (2, .int v2), (4, .int v4)]) dX12_rest_62 rfl (by decide) (fun _ => rfl) (fun v3_2 => ?_)
  refine J_iinc (j := 4) (b := 1) (fun v4_3 => [(4, .int v4_3), (3, .int v3_2), (0, .ref (llAd G 69)), (1, .int v1), (2, .int v2)]) dX12_rest_63 rfl (by decide) (by decide) (fun _ => rfl) (fun v4_3 => ?_)
  refine J_goto (tgt := 18) dX12_rest_66 (by decide) ?_
  exact J_cut [2, 3, 4, 1, 0] (lv' := [(0, .ref (llAd G 69)), (1, .int v1), (2, .int v2), (3, .int v3_2), (4, .int v4_3)]) rfl (fun h => h)
def fx_X12_rest_69_j60_b18 (u : llMem) (v1 : Int32) (v2 : Int32) (v4 : Int32) (t0 : Int32) : Option ((Int32 × Int32) ⊕ (Int32)) := fx_X12_rest_69_j61_b18 u v1 v2 v4 t0 0
set_option maxRecDepth 20000 in
theorem t_X12_rest_69_j60_b18 {G : llG} {d : Nat} (u : llMem) (v1 : Int32) (v2 : Int32) (v4 : Int32) (t0 : Int32) : llJ G RX12 cX12_rest 5 (some .long) (d + 3) (Sum.elim (fun s' => llJq G 5 18 [(0, .ref (llAd G 69)), (1, .int v1), (2, .int v2), (3, .int s'.1), (4, .int s'.2)] [] u) (fun e => llJq G 5 69 [(0, .ref (llAd G 69)), (1, .int v1), (2, .int v2), (3, .int e)] [] u)) 60 [(0, .ref (llAd G 69)), (1, .int v1), (2, .int v2), (4, .int v4)] [.int t0] u (fx_X12_rest_69_j60_b18 u v1 v2 v4 t0) := by
  unfold fx_X12_rest_69_j60_b18
  refine J_iconst (v := 0) dX12_rest_60 (by decide) ?_
  refine J_sub [0, 1, 2, 3] (lv' := [(0, .ref (llAd G 69)), (1, .int v1), (2, .int v2), (4, .int v4)]) rfl ?_
  exact t_X12_rest_69_j61_b18 u v1 v2 v4 t0 0
def fx_X12_rest_69_l18 (u : llMem) (v1 : Int32) (v2 : Int32) (s : Int32 × Int32) : Option ((Int32 × Int32) ⊕ (Int32)) := (if (u.1 69 9) ≤ s.2 then some (.inr s.1) else gI s.2 60 ((if ¬ (rI u 74 s.2) = v1 then fx_X12_rest_69_j60_b18 u v1 v2 s.2 s.1 else gI s.2 60 ((if ¬ (rI u 75 s.2) = v2 then fx_X12_rest_69_j60_b18 u v1 v2 s.2 s.1 else (fx_X12_sumOf_69 u s.2 0).bind (fun r4 => fx_X12_rest_69_j61_b18 u v1 v2 s.2 s.1 r4))))))
set_option maxRecDepth 20000 in
theorem t_X12_rest_69_l18 {G : llG} {d : Nat} (u : llMem) (v1 : Int32) (v2 : Int32) (s : Int32 × Int32) : llJ G RX12 cX12_rest 5 (some .long) (d + 3) (Sum.elim (fun s' => llJq G 5 18 [(0, .ref (llAd G 69)), (1, .int v1), (2, .int v2), (3, .int s'.1), (4, .int s'.2)] [] u) (fun e => llJq G 5 69 [(0, .ref (llAd G 69)), (1, .int v1), (2, .int v2), (3, .int e)] [] u)) 18 [(0, .ref (llAd G 69)), (1, .int v1), (2, .int v2), (3, .int s.1), (4, .int s.2)] [] u (fx_X12_rest_69_l18 u v1 v2 s) := by
  unfold fx_X12_rest_69_l18
  refine J_iload (j := 4) dX12_rest_18 rfl ?_
  refine J_aload_n (j := 0) dX12_rest_20 rfl rfl ?_
  refine J_getI dX12_rest_21 fl_X12_263 sh_69 rfl ?_
  refine J_icmp_ge (tgt := 69) dX12_rest_24 (by decide) ?_ ?_
  · exact J_cut [0, 1, 2, 3] (lv' := [(0, .ref (llAd G 69)), (1, .int v1), (2, .int v2), (3, .int s.1)]) rfl (fun h => h)
  · refine J_iload_n (j := 3) dX12_rest_27 rfl rfl ?_
    refine J_aload_n (j := 0) dX12_rest_28 rfl rfl ?_
    refine J_getR (b := 74) dX12_rest_29 fl_X12_23 sh_69 rfl ?_
    refine J_iload (j := 4) dX12_rest_32 rfl ?_
    refine J_iald dX12_rest_34 sh_74 ?_
    refine J_iload_n (j := 1) dX12_rest_35 rfl rfl ?_
    refine J_icmp_ne (tgt := 60) dX12_rest_36 (by decide) ?_ ?_
    · refine J_sub [0, 1, 2, 4] (lv' := [(0, .ref (llAd G 69)), (1, .int v1), (2, .int v2), (4, .int s.2)]) rfl ?_
      exact t_X12_rest_69_j60_b18 u v1 v2 s.2 s.1
    · refine J_aload_n (j := 0) dX12_rest_39 rfl rfl ?_
      refine J_getR (b := 75) dX12_rest_40 fl_X12_26 sh_69 rfl ?_
      refine J_iload (j := 4) dX12_rest_43 rfl ?_
      refine J_iald dX12_rest_45 sh_75 ?_
      refine J_iload_n (j := 2) dX12_rest_46 rfl rfl ?_
      refine J_icmp_ne (tgt := 60) dX12_rest_47 (by decide) ?_ ?_
      · refine J_sub [0, 1, 2, 4] (lv' := [(0, .ref (llAd G 69)), (1, .int v1), (2, .int v2), (4, .int s.2)]) rfl ?_
        exact t_X12_rest_69_j60_b18 u v1 v2 s.2 s.1
      · refine J_aload_n (j := 0) dX12_rest_50 rfl rfl ?_
        refine J_iload (j := 4) dX12_rest_51 rfl ?_
        refine J_iconst (v := 0) dX12_rest_53 (by decide) ?_
        refine J_callVip2 dX12_rest_54 (t_X12_sumOf_69 (llL G) (llFx G) d u s.2 0) ym_X12_sumOf wd_1525 sh_69 rfl (Nat.le_of_ble_eq_true rfl) (fun r4 => ?_)
        refine J_goto (tgt := 61) dX12_rest_57 (by decide) ?_
        refine J_sub [0, 1, 2, 4] (lv' := [(0, .ref (llAd G 69)), (1, .int v1), (2, .int v2), (4, .int s.2)]) rfl ?_
        exact t_X12_rest_69_j61_b18 u v1 v2 s.2 s.1 r4
def fx_Jxe99ae_isNaN_b9ae7 (u : llMem) (a0 : UInt64) : Option Int32 := (if (Op.cmpValue (FP.dcmp a0 a0) CmpOp.l) = 0 then gB 0 (some 0) else gB 1 (some 1))
set_option maxRecDepth 20000 in
theorem tj_Jxe99ae_isNaN_b9ae7 {G : llG} {d : Nat} (u : llMem) (a0 : UInt64) : llJ G RJxe99ae cJxe99ae_isNaN_b9ae7 2 (some .boolean) d (fun r => llRet G (llI r) u) 0 [(0, .double a0)] [] u (fx_Jxe99ae_isNaN_b9ae7 u a0) := by
  unfold fx_Jxe99ae_isNaN_b9ae7
  refine J_dload_n (j := 0) dJxe99ae_isNaN_b9ae7_0 rfl rfl ?_
  refine J_dload_n (j := 0) dJxe99ae_isNaN_b9ae7_1 rfl rfl ?_
  refine J_dcmp dJxe99ae_isNaN_b9ae7_2 ?_
  refine J_if_eq (tgt := 10) dJxe99ae_isNaN_b9ae7_3 (by decide) ?_ ?_
  · refine J_iconst (v := 0) dJxe99ae_isNaN_b9ae7_10 (by decide) ?_
    exact J_zret dJxe99ae_isNaN_b9ae7_11 (fun h => h)
  · refine J_iconst (v := 1) dJxe99ae_isNaN_b9ae7_6 (by decide) ?_
    refine J_goto (tgt := 11) dJxe99ae_isNaN_b9ae7_7 (by decide) ?_
    exact J_zret dJxe99ae_isNaN_b9ae7_11 (fun h => h)
theorem t_Jxe99ae_isNaN_b9ae7 (l : Launch) (F : llFix) (d : Nat) (u : llMem) (a0 : UInt64) : llCp l F yJxe99ae_isNaN_b9ae7 cJxe99ae_isNaN_b9ae7 2 (some .boolean) d [.double a0] u llI (fx_Jxe99ae_isNaN_b9ae7 u a0) := llCp.of (by decide +kernel) (by exact Nat.le_of_ble_eq_true rfl) (fun G h1 h2 => by subst h1; subst h2; exact tj_Jxe99ae_isNaN_b9ae7 u a0)
def fx_Jxe99ae_doubleToLongBits_ccdee (u : llMem) (a0 : UInt64) : Option Int64 := (fx_Jxe99ae_isNaN_b9ae7 u a0).bind (fun r1 => (if ¬ r1 = 0 then some 9221120237041090560 else some (UInt64.toInt64 a0)))
set_option maxRecDepth 20000 in
theorem tj_Jxe99ae_doubleToLongBits_ccdee {G : llG} {d : Nat} (u : llMem) (a0 : UInt64) : llJ G RJxe99ae cJxe99ae_doubleToLongBits_ccdee 2 (some .long) (d + 1) (fun r => llRet G (llLg r) u) 0 [(0, .double a0)] [] u (fx_Jxe99ae_doubleToLongBits_ccdee u a0) := by
  unfold fx_Jxe99ae_doubleToLongBits_ccdee
  refine J_dload_n (j := 0) dJxe99ae_doubleToLongBits_ccdee_0 rfl rfl ?_
  refine J_callSip1 dJxe99ae_doubleToLongBits_ccdee_1 (t_Jxe99ae_isNaN_b9ae7 (llL G) (llFx G) d u a0) ym_Jxe99ae_isNaN_b9ae7 wd_1679 (Nat.le_of_ble_eq_true rfl) (fun r1 => ?_)
  refine J_if_ne (tgt := 12) dJxe99ae_doubleToLongBits_ccdee_4 (by decide) ?_ ?_
  · refine J_ldc2 (v := 9221120237041090560) dJxe99ae_doubleToLongBits_ccdee_12 wd_1685 ?_
    exact J_lret dJxe99ae_doubleToLongBits_ccdee_15 (fun h => h)
  · refine J_dload_n (j := 0) dJxe99ae_doubleToLongBits_ccdee_7 rfl rfl ?_
    refine J_d2l' dJxe99ae_doubleToLongBits_ccdee_8 wd_1682 wd_1684 wd_1683 wd_24 (Nat.le_of_ble_eq_true rfl) ?_
    exact J_lret dJxe99ae_doubleToLongBits_ccdee_11 (fun h => h)
theorem t_Jxe99ae_doubleToLongBits_ccdee (l : Launch) (F : llFix) (d : Nat) (u : llMem) (a0 : UInt64) : llCp l F yJxe99ae_doubleToLongBits_ccdee cJxe99ae_doubleToLongBits_ccdee 2 (some .long) (d + 1) [.double a0] u llLg (fx_Jxe99ae_doubleToLongBits_ccdee u a0) := llCp.of (by decide +kernel) (by exact Nat.le_of_ble_eq_true rfl) (fun G h1 h2 => by subst h1; subst h2; exact tj_Jxe99ae_doubleToLongBits_ccdee u a0)
def fx_X12_rest_69 (u : llMem) (a0 : Int32) (a1 : Int32) : Option Int64 := (fx_X12_isDivision_69 u a0 a1).bind (fun r1 => (if ¬ r1 = 0 then (loop (fx_X12_rest_69_l18 u a0 a1) llFuel (0, 0)).bind (fun e5 => (if ¬ e5 = 0 then (fx_X12_milesOf_69 u a0 a1).bind (fun r6 => gZ 2 (g64 (FP.ddiv (FP.i2d (2 * r6)) (FP.i2d (e5 / 2))) (g64 (FP.drem (FP.ddiv (FP.i2d (2 * r6)) (FP.i2d (e5 / 2))) FP.dconst1) ((fx_Jxe99ae_doubleToLongBits_ccdee u (FP.drem (FP.ddiv (FP.i2d (2 * r6)) (FP.i2d (e5 / 2))) FP.dconst1)).bind (fun r7 => some r7))))) else some ((-1)))) else some ((-1))))
set_option maxRecDepth 20000 in
theorem tj_X12_rest_69 {G : llG} {d : Nat} (u : llMem) (a0 : Int32) (a1 : Int32) : llJ G RX12 cX12_rest 5 (some .long) (d + 3) (fun r => llRet G (llLg r) u) 0 [(0, .ref (llAd G 69)), (1, .int a0), (2, .int a1)] [] u (fx_X12_rest_69 u a0 a1) := by
  unfold fx_X12_rest_69
  refine J_aload_n (j := 0) dX12_rest_0 rfl rfl ?_
  refine J_iload_n (j := 1) dX12_rest_1 rfl rfl ?_
  refine J_iload_n (j := 2) dX12_rest_2 rfl rfl ?_
  refine J_callVip2 dX12_rest_3 (t_X12_isDivision_69 (llL G) (llFx G) d u a0 a1) ym_X12_isDivision wd_1621 sh_69 rfl (Nat.le_of_ble_eq_true rfl) (fun r1 => ?_)
  refine J_if_ne (tgt := 13) dX12_rest_6 (by decide) ?_ ?_
  · refine J_iconst (v := 0) dX12_rest_13 (by decide) ?_
    refine J_istore_n [(3, .int 0), (0, .ref (llAd G 69)), (1, .int a0), (2, .int a1)] dX12_rest_14 rfl (by decide) rfl ?_
    refine J_iconst (v := 0) dX12_rest_15 (by decide) ?_
    refine J_istore [(4, .int 0), (3, .int 0), (0, .ref (llAd G 69)), (1, .int a0), (2, .int a1)] dX12_rest_16 (by decide) rfl ?_
    refine J_loopE (fun s' => [(0, .ref (llAd G 69)), (1, .int a0), (2, .int a1), (3, .int s'.1), (4, .int s'.2)]) (fun s' => u) 69 (fun e => [(0, .ref (llAd G 69)), (1, .int a0), (2, .int a1), (3, .int e)]) (fun e => u) (fun z => t_X12_rest_69_l18 u a0 a1 z) [2, 3, 4, 1, 0] rfl rfl (fun e5 => ?_)
    refine J_iload_n (j := 3) dX12_rest_69 rfl rfl ?_
    refine J_if_ne (tgt := 77) dX12_rest_70 (by decide) ?_ ?_
    · refine J_iconst (v := 2) dX12_rest_77 (by decide) ?_
      refine J_aload_n (j := 0) dX12_rest_78 rfl rfl ?_
      refine J_iload_n (j := 1) dX12_rest_79 rfl rfl ?_
      refine J_iload_n (j := 2) dX12_rest_80 rfl rfl ?_
      refine J_callVip2 dX12_rest_81 (t_X12_milesOf_69 (llL G) (llFx G) d u a0 a1) ym_X12_milesOf wd_1637 sh_69 rfl (Nat.le_of_ble_eq_true rfl) (fun r6 => ?_)
      refine J_imul dX12_rest_84 ?_
      refine J_i2d dX12_rest_85 ?_
      refine J_iload_n (j := 3) dX12_rest_86 rfl rfl ?_
      refine J_iconst (v := 2) dX12_rest_87 (by decide) ?_
      refine J_idiv dX12_rest_88 ?_
      refine J_i2d dX12_rest_89 ?_
      refine J_ddiv dX12_rest_90 ?_
      refine J_dconst1 dX12_rest_91 ?_
      refine J_drem dX12_rest_92 ?_
      refine J_callSlp1 dX12_rest_93 (t_Jxe99ae_doubleToLongBits_ccdee (llL G) (llFx G) (d + 1) u (FP.drem (FP.ddiv (FP.i2d (2 * r6)) (FP.i2d (e5 / 2))) FP.dconst1)) ym_Jxe99ae_doubleToLongBits_ccdee wd_1676 (Nat.le_of_ble_eq_true rfl) (fun r7 => ?_)
      exact J_lret dX12_rest_96 (fun h => h)
    · refine J_ldc2 (v := (-1)) dX12_rest_73 wd_1675 ?_
      exact J_lret dX12_rest_76 (fun h => h)
  · refine J_ldc2 (v := (-1)) dX12_rest_9 wd_1675 ?_
    exact J_lret dX12_rest_12 (fun h => h)
theorem t_X12_rest_69 (l : Launch) (F : llFix) (d : Nat) (u : llMem) (a0 : Int32) (a1 : Int32) : llCp l F yX12_rest cX12_rest 5 (some .long) (d + 3) [.ref (F.2.2.1 69), .int a0, .int a1] u llLg (fx_X12_rest_69 u a0 a1) := llCp.of (by decide +kernel) (by exact Nat.le_of_ble_eq_true rfl) (fun G h1 h2 => by subst h1; subst h2; exact tj_X12_rest_69 u a0 a1)
def fx_X11_match_0 (u : llMem) (a0 : Int32) (a1 : Int32) (a2 : Int32) : Option Int32 := (fx_X5_isClub_3 u a0).bind (fun r1 => (if r1 = 0 then some ((-1)) else (fx_X5_isClub_3 u a1).bind (fun r2 => (if ¬ r2 = 0 then (if a2 = 0 then (fx_X7_homeGoals_14 u a0 a1).bind (fun r3 => some r3) else if a2 = 1 then (fx_X7_awayGoals_14 u a0 a1).bind (fun r4 => some r4) else some ((-1))) else some ((-1))))))
set_option maxRecDepth 20000 in
theorem tj_X11_match_0 {G : llG} {d : Nat} (u : llMem) (a0 : Int32) (a1 : Int32) (a2 : Int32) : llJ G RX11 cX11_match 4 (some .int) (d + 2) (fun r => llRet G (llI r) u) 0 [(0, .ref (llAd G 0)), (1, .int a0), (2, .int a1), (3, .int a2)] [] u (fx_X11_match_0 u a0 a1 a2) := by
  unfold fx_X11_match_0
  refine J_aload_n (j := 0) dX11_match_0 rfl rfl ?_
  refine J_getR (b := 3) dX11_match_1 fl_X11_19 sh_0 rfl ?_
  refine J_iload_n (j := 1) dX11_match_4 rfl rfl ?_
  refine J_callVip1 dX11_match_5 (t_X5_isClub_3 (llL G) (llFx G) (d + 1) u a0) ym_X5_isClub wd_738 sh_3 rfl (Nat.le_of_ble_eq_true rfl) (fun r1 => ?_)
  refine J_if_eq (tgt := 22) dX11_match_8 (by decide) ?_ ?_
  · refine J_iconst (v := (-1)) dX11_match_22 (by decide) ?_
    exact J_iret dX11_match_23 (fun h => h)
  · refine J_aload_n (j := 0) dX11_match_11 rfl rfl ?_
    refine J_getR (b := 3) dX11_match_12 fl_X11_19 sh_0 rfl ?_
    refine J_iload_n (j := 2) dX11_match_15 rfl rfl ?_
    refine J_callVip1 dX11_match_16 (t_X5_isClub_3 (llL G) (llFx G) (d + 1) u a1) ym_X5_isClub wd_738 sh_3 rfl (Nat.le_of_ble_eq_true rfl) (fun r2 => ?_)
    refine J_if_ne (tgt := 24) dX11_match_19 (by decide) ?_ ?_
    · refine J_iload_n (j := 3) dX11_match_24 rfl rfl ?_
      refine J_case (fun hq0 => ?_) (fun hn0 => ?_)
      · refine J_lookup (off := 27) (tgt := 52) dX11_match_25 (by decide) (by rw [hq0]; decide) (by decide) ?_
        refine J_aload_n (j := 0) dX11_match_52 rfl rfl ?_
        refine J_getR (b := 14) dX11_match_53 fl_X11_26 sh_0 rfl ?_
        refine J_iload_n (j := 1) dX11_match_56 rfl rfl ?_
        refine J_iload_n (j := 2) dX11_match_57 rfl rfl ?_
        refine J_callVip2 dX11_match_58 (t_X7_homeGoals_14 (llL G) (llFx G) d u a0 a1) ym_X7_homeGoals wd_1049 sh_14 rfl (Nat.le_of_ble_eq_true rfl) (fun r3 => ?_)
        exact J_iret dX11_match_61 (fun h => h)
      refine J_case (fun hq1 => ?_) (fun hn1 => ?_)
      · refine J_lookup (off := 37) (tgt := 62) dX11_match_25 (by decide) (by rw [hq1]; decide) (by decide) ?_
        refine J_aload_n (j := 0) dX11_match_62 rfl rfl ?_
        refine J_getR (b := 14) dX11_match_63 fl_X11_26 sh_0 rfl ?_
        refine J_iload_n (j := 1) dX11_match_66 rfl rfl ?_
        refine J_iload_n (j := 2) dX11_match_67 rfl rfl ?_
        refine J_callVip2 dX11_match_68 (t_X7_awayGoals_14 (llL G) (llFx G) d u a0 a1) ym_X7_awayGoals wd_1050 sh_14 rfl (Nat.le_of_ble_eq_true rfl) (fun r4 => ?_)
        exact J_iret dX11_match_71 (fun h => h)
      refine J_lookup (off := 47) (tgt := 72) dX11_match_25 (by decide) (llLook2 hn0 hn1) (by decide) ?_
      refine J_iconst (v := (-1)) dX11_match_72 (by decide) ?_
      exact J_iret dX11_match_73 (fun h => h)
    · refine J_iconst (v := (-1)) dX11_match_22 (by decide) ?_
      exact J_iret dX11_match_23 (fun h => h)
theorem t_X11_match_0 (l : Launch) (F : llFix) (d : Nat) (u : llMem) (a0 : Int32) (a1 : Int32) (a2 : Int32) : llCp l F yX11_match cX11_match 4 (some .int) (d + 2) [.ref (F.2.2.1 0), .int a0, .int a1, .int a2] u llI (fx_X11_match_0 u a0 a1 a2) := llCp.of (by decide +kernel) (by exact Nat.le_of_ble_eq_true rfl) (fun G h1 h2 => by subst h1; subst h2; exact tj_X11_match_0 u a0 a1 a2)
def fx_X12_match_69 (u : llMem) (a0 : Int32) (a1 : Int32) (a2 : Int32) : Option Int32 := (fx_X12_isClub_69 u a0).bind (fun r1 => (if r1 = 0 then some ((-1)) else (fx_X12_isClub_69 u a1).bind (fun r2 => (if r2 = 0 then some ((-1)) else (fx_X12_isIn u (Int32.toInt64 a2) 0 1).bind (fun r3 => (if r3 = 0 then some ((-1)) else (fx_X12_goalsAt_69 u a0 a1).bind (fun r4 => (if ¬ r4 = ((-1)) then (if ¬ a2 = 0 then (fx_X12_goalsAt_69 u a0 a1).bind (fun r5 => gZ 100 (some (r5 - r5 / 100 * 100))) else (fx_X12_goalsAt_69 u a0 a1).bind (fun r6 => gZ 100 (some (r6 / 100)))) else some ((-1))))))))))
set_option maxRecDepth 20000 in
theorem tj_X12_match_69 {G : llG} {d : Nat} (u : llMem) (a0 : Int32) (a1 : Int32) (a2 : Int32) : llJ G RX12 cX12_match 4 (some .int) (d + 2) (fun r => llRet G (llI r) u) 0 [(0, .ref (llAd G 69)), (1, .int a0), (2, .int a1), (3, .int a2)] [] u (fx_X12_match_69 u a0 a1 a2) := by
  unfold fx_X12_match_69
  refine J_aload_n (j := 0) dX12_match_0 rfl rfl ?_
  refine J_iload_n (j := 1) dX12_match_1 rfl rfl ?_
  refine J_callVip1 dX12_match_2 (t_X12_isClub_69 (llL G) (llFx G) d u a0) ym_X12_isClub wd_1471 sh_69 rfl (Nat.le_of_ble_eq_true rfl) (fun r1 => ?_)
  refine J_if_eq (tgt := 36) dX12_match_5 (by decide) ?_ ?_
  · refine J_iconst (v := (-1)) dX12_match_36 (by decide) ?_
    exact J_iret dX12_match_37 (fun h => h)
  · refine J_aload_n (j := 0) dX12_match_8 rfl rfl ?_
    refine J_iload_n (j := 2) dX12_match_9 rfl rfl ?_
    refine J_callVip1 dX12_match_10 (t_X12_isClub_69 (llL G) (llFx G) d u a1) ym_X12_isClub wd_1471 sh_69 rfl (Nat.le_of_ble_eq_true rfl) (fun r2 => ?_)
    refine J_if_eq (tgt := 36) dX12_match_13 (by decide) ?_ ?_
    · refine J_iconst (v := (-1)) dX12_match_36 (by decide) ?_
      exact J_iret dX12_match_37 (fun h => h)
    · refine J_iload_n (j := 3) dX12_match_16 rfl rfl ?_
      refine J_i2l dX12_match_17 ?_
      refine J_lconst (v := 0) dX12_match_18 (by decide) ?_
      refine J_lconst (v := 1) dX12_match_19 (by decide) ?_
      refine J_callSip3 dX12_match_20 (t_X12_isIn (llL G) (llFx G) (d + 1) u (Int32.toInt64 a2) 0 1) ym_X12_isIn wd_1313 (Nat.le_of_ble_eq_true rfl) (fun r3 => ?_)
      refine J_if_eq (tgt := 36) dX12_match_23 (by decide) ?_ ?_
      · refine J_iconst (v := (-1)) dX12_match_36 (by decide) ?_
        exact J_iret dX12_match_37 (fun h => h)
      · refine J_aload_n (j := 0) dX12_match_26 rfl rfl ?_
        refine J_iload_n (j := 1) dX12_match_27 rfl rfl ?_
        refine J_iload_n (j := 2) dX12_match_28 rfl rfl ?_
        refine J_callVip2 dX12_match_29 (t_X12_goalsAt_69 (llL G) (llFx G) (d + 1) u a0 a1) ym_X12_goalsAt wd_1529 sh_69 rfl (Nat.le_of_ble_eq_true rfl) (fun r4 => ?_)
        refine J_iconst (v := (-1)) dX12_match_32 (by decide) ?_
        refine J_icmp_ne (tgt := 38) dX12_match_33 (by decide) ?_ ?_
        · refine J_iload_n (j := 3) dX12_match_38 rfl rfl ?_
          refine J_if_ne (tgt := 54) dX12_match_39 (by decide) ?_ ?_
          · refine J_aload_n (j := 0) dX12_match_54 rfl rfl ?_
            refine J_iload_n (j := 1) dX12_match_55 rfl rfl ?_
            refine J_iload_n (j := 2) dX12_match_56 rfl rfl ?_
            refine J_callVip2 dX12_match_57 (t_X12_goalsAt_69 (llL G) (llFx G) (d + 1) u a0 a1) ym_X12_goalsAt wd_1529 sh_69 rfl (Nat.le_of_ble_eq_true rfl) (fun r5 => ?_)
            refine J_bipush (v := 100) dX12_match_60 (by decide) ?_
            refine J_irem dX12_match_62 ?_
            exact J_iret dX12_match_63 (fun h => h)
          · refine J_aload_n (j := 0) dX12_match_42 rfl rfl ?_
            refine J_iload_n (j := 1) dX12_match_43 rfl rfl ?_
            refine J_iload_n (j := 2) dX12_match_44 rfl rfl ?_
            refine J_callVip2 dX12_match_45 (t_X12_goalsAt_69 (llL G) (llFx G) (d + 1) u a0 a1) ym_X12_goalsAt wd_1529 sh_69 rfl (Nat.le_of_ble_eq_true rfl) (fun r6 => ?_)
            refine J_bipush (v := 100) dX12_match_48 (by decide) ?_
            refine J_idiv dX12_match_50 ?_
            refine J_goto (tgt := 63) dX12_match_51 (by decide) ?_
            exact J_iret dX12_match_63 (fun h => h)
        · refine J_iconst (v := (-1)) dX12_match_36 (by decide) ?_
          exact J_iret dX12_match_37 (fun h => h)
theorem t_X12_match_69 (l : Launch) (F : llFix) (d : Nat) (u : llMem) (a0 : Int32) (a1 : Int32) (a2 : Int32) : llCp l F yX12_match cX12_match 4 (some .int) (d + 2) [.ref (F.2.2.1 69), .int a0, .int a1, .int a2] u llI (fx_X12_match_69 u a0 a1 a2) := llCp.of (by decide +kernel) (by exact Nat.le_of_ble_eq_true rfl) (fun G h1 h2 => by subst h1; subst h2; exact tj_X12_match_69 u a0 a1 a2)
def fx_X8_canReach_43_j100_b27 (u : llMem) (v1 : Int32) (v2 : Int32) (v3 : Int32) (v4 : Int32) : Option ((Int32 × Int32) ⊕ (Int32)) := lt (v4 + 1) (fun v4_2 => some (.inl (v3, v4_2)))
set_option maxRecDepth 20000 in
theorem t_X8_canReach_43_j100_b27 {G : llG} {d : Nat} (u : llMem) (v1 : Int32) (v2 : Int32) (v3 : Int32) (v4 : Int32) : llJ G RX8 cX8_canReach 6 (some .int) (d + 3) (Sum.elim (fun s' => llJq G 6 27 [(0, .ref (llAd G 43)), (1, .int v1), (2, .int v2), (3, .int s'.1), (4, .int s'.2)] [] u) (fun e => llJq G 6 106 [(3, .int e)] [] u)) 100 [(0, .ref (llAd G 43)), (1, .int v1), (2, .int v2), (3, .int v3), (4, .int v4)] [] u (fx_X8_canReach_43_j100_b27 u v1 v2 v3 v4) := by
  unfold fx_X8_canReach_43_j100_b27
  refine J_iinc (j := 4) (b := 1) (fun v4_2 => [(4, .int v4_2), (0, .ref (llAd G 43)), (1, .int v1), (2, .int v2), (3, .int v3)]) dX8_canReach_100 rfl (by decide) (by decide) (fun _ => rfl) (fun v4_2 => ?_)
  refine J_goto (tgt := 27) dX8_canReach_103 (by decide) ?_
  exact J_cut [1, 2, 3, 4, 0] (lv' := [(0, .ref (llAd G 43)), (1, .int v1), (2, .int v2), (3, .int v3), (4, .int v4_2)]) rfl (fun h => h)
def fx_X8_canReach_43_l27 (u : llMem) (v1 : Int32) (v2 : Int32) (s : Int32 × Int32) : Option ((Int32 × Int32) ⊕ (Int32)) := (if (u.1 3 5) ≤ s.2 then some (.inr s.1) else (if s.2 = v1 then fx_X8_canReach_43_j100_b27 u v1 v2 s.1 s.2 else (fx_X5_together_3 u v1 s.2).bind (fun r3 => (if r3 = 0 then fx_X8_canReach_43_j100_b27 u v1 v2 s.1 s.2 else (fx_X7_pointsOf_14 u s.2).bind (fun r4 => gI s.2 30 (lt (r4 + (3 * (v2 - (rI u 21 s.2)))) (fun v5_5 => (fx_X7_pointsOf_14 u v1).bind (fun r6 => (if v5_5 < r6 then fx_X8_canReach_43_j100_b27 u v1 v2 s.1 s.2 else lt (s.1 + 1) (fun v3_7 => fx_X8_canReach_43_j100_b27 u v1 v2 v3_7 s.2))))))))))
set_option maxRecDepth 20000 in
theorem t_X8_canReach_43_l27 {G : llG} {d : Nat} (u : llMem) (v1 : Int32) (v2 : Int32) (s : Int32 × Int32) : llJ G RX8 cX8_canReach 6 (some .int) (d + 3) (Sum.elim (fun s' => llJq G 6 27 [(0, .ref (llAd G 43)), (1, .int v1), (2, .int v2), (3, .int s'.1), (4, .int s'.2)] [] u) (fun e => llJq G 6 106 [(3, .int e)] [] u)) 27 [(0, .ref (llAd G 43)), (1, .int v1), (2, .int v2), (3, .int s.1), (4, .int s.2)] [] u (fx_X8_canReach_43_l27 u v1 v2 s) := by
  unfold fx_X8_canReach_43_l27
  refine J_iload (j := 4) dX8_canReach_27 rfl ?_
  refine J_aload_n (j := 0) dX8_canReach_29 rfl rfl ?_
  refine J_getR (b := 3) dX8_canReach_30 fl_X8_9 sh_43 rfl ?_
  refine J_getI dX8_canReach_33 fl_X8_89 sh_3 rfl ?_
  refine J_icmp_ge (tgt := 106) dX8_canReach_36 (by decide) ?_ ?_
  · exact J_cut [3] (lv' := [(3, .int s.1)]) rfl (fun h => h)
  · refine J_iload (j := 4) dX8_canReach_39 rfl ?_
    refine J_iload_n (j := 1) dX8_canReach_41 rfl rfl ?_
    refine J_icmp_eq (tgt := 100) dX8_canReach_42 (by decide) ?_ ?_
    · refine J_sub [0, 1, 2, 3, 4] (lv' := [(0, .ref (llAd G 43)), (1, .int v1), (2, .int v2), (3, .int s.1), (4, .int s.2)]) rfl ?_
      exact t_X8_canReach_43_j100_b27 u v1 v2 s.1 s.2
    · refine J_aload_n (j := 0) dX8_canReach_45 rfl rfl ?_
      refine J_getR (b := 3) dX8_canReach_46 fl_X8_9 sh_43 rfl ?_
      refine J_iload_n (j := 1) dX8_canReach_49 rfl rfl ?_
      refine J_iload (j := 4) dX8_canReach_50 rfl ?_
      refine J_callVip2 dX8_canReach_52 (t_X5_together_3 (llL G) (llFx G) d u v1 s.2) ym_X5_together wd_1059 sh_3 rfl (Nat.le_of_ble_eq_true rfl) (fun r3 => ?_)
      refine J_if_eq (tgt := 100) dX8_canReach_55 (by decide) ?_ ?_
      · refine J_sub [0, 1, 2, 3, 4] (lv' := [(0, .ref (llAd G 43)), (1, .int v1), (2, .int v2), (3, .int s.1), (4, .int s.2)]) rfl ?_
        exact t_X8_canReach_43_j100_b27 u v1 v2 s.1 s.2
      · refine J_aload_n (j := 0) dX8_canReach_58 rfl rfl ?_
        refine J_getR (b := 14) dX8_canReach_59 fl_X8_15 sh_43 rfl ?_
        refine J_iload (j := 4) dX8_canReach_62 rfl ?_
        refine J_callVip1 dX8_canReach_64 (t_X7_pointsOf_14 (llL G) (llFx G) (d + 2) u s.2) ym_X7_pointsOf wd_777 sh_14 rfl (Nat.le_of_ble_eq_true rfl) (fun r4 => ?_)
        refine J_iconst (v := 3) dX8_canReach_67 (by decide) ?_
        refine J_iload_n (j := 2) dX8_canReach_68 rfl rfl ?_
        refine J_aload_n (j := 0) dX8_canReach_69 rfl rfl ?_
        refine J_getR (b := 14) dX8_canReach_70 fl_X8_15 sh_43 rfl ?_
        refine J_getR (b := 21) dX8_canReach_73 fl_X8_74 sh_14 rfl ?_
        refine J_iload (j := 4) dX8_canReach_76 rfl ?_
        refine J_iald dX8_canReach_78 sh_21 ?_
        refine J_isub dX8_canReach_79 ?_
        refine J_imul dX8_canReach_80 ?_
        refine J_iadd dX8_canReach_81 ?_
        refine J_istoreL (fun v5_5 => [(5, .int v5_5), (0, .ref (llAd G 43)), (1, .int v1), (2, .int v2), (3, .int s.1), (4, .int s.2)]) dX8_canReach_82 (by decide) (fun _ => rfl) (fun v5_5 => ?_)
        refine J_iload (j := 0) dX8_canReach_84 rfl ?_
        refine J_aload_n (j := 1) dX8_canReach_86 rfl rfl ?_
        refine J_getR (b := 14) dX8_canReach_87 fl_X8_15 sh_43 rfl ?_
        refine J_iload_n (j := 2) dX8_canReach_90 rfl rfl ?_
        refine J_callVip1 dX8_canReach_91 (t_X7_pointsOf_14 (llL G) (llFx G) (d + 2) u v1) ym_X7_pointsOf wd_777 sh_14 rfl (Nat.le_of_ble_eq_true rfl) (fun r6 => ?_)
        refine J_icmp_lt (tgt := 100) dX8_canReach_94 (by decide) ?_ ?_
        · refine J_sub [1, 2, 3, 4, 5] (lv' := [(0, .ref (llAd G 43)), (1, .int v1), (2, .int v2), (3, .int s.1), (4, .int s.2)]) rfl ?_
          exact t_X8_canReach_43_j100_b27 u v1 v2 s.1 s.2
        · refine J_iinc (j := 4) (b := 1) (fun v3_7 => [(3, .int v3_7), (5, .int v5_5), (0, .ref (llAd G 43)), (1, .int v1), (2, .int v2), (4, .int s.2)]) dX8_canReach_97 rfl (by decide) (by decide) (fun _ => rfl) (fun v3_7 => ?_)
          refine J_sub [2, 3, 4, 0, 5] (lv' := [(0, .ref (llAd G 43)), (1, .int v1), (2, .int v2), (3, .int v3_7), (4, .int s.2)]) rfl ?_
          exact t_X8_canReach_43_j100_b27 u v1 v2 v3_7 s.2
def fx_X8_canReach_43 (u : llMem) (a0 : Int32) : Option Int32 := gI a0 30 (gI (rI u 12 a0) 4 (lt (2 * ((rI u 5 (rI u 12 a0)) - 1)) (fun v2_1 => (loop (fx_X8_canReach_43_l27 u a0 v2_1) llFuel (0, 0)).bind (fun e8 => some e8))))
set_option maxRecDepth 20000 in
theorem tj_X8_canReach_43 {G : llG} {d : Nat} (u : llMem) (a0 : Int32) : llJ G RX8 cX8_canReach 6 (some .int) (d + 3) (fun r => llRet G (llI r) u) 0 [(0, .ref (llAd G 43)), (1, .int a0)] [] u (fx_X8_canReach_43 u a0) := by
  unfold fx_X8_canReach_43
  refine J_iconst (v := 2) dX8_canReach_0 (by decide) ?_
  refine J_aload_n (j := 0) dX8_canReach_1 rfl rfl ?_
  refine J_getR (b := 3) dX8_canReach_2 fl_X8_9 sh_43 rfl ?_
  refine J_getR (b := 5) dX8_canReach_5 fl_X8_83 sh_3 rfl ?_
  refine J_aload_n (j := 0) dX8_canReach_8 rfl rfl ?_
  refine J_getR (b := 3) dX8_canReach_9 fl_X8_9 sh_43 rfl ?_
  refine J_getR (b := 12) dX8_canReach_12 fl_X8_86 sh_3 rfl ?_
  refine J_iload_n (j := 1) dX8_canReach_15 rfl rfl ?_
  refine J_iald dX8_canReach_16 sh_12 ?_
  refine J_iald dX8_canReach_17 sh_5 ?_
  refine J_iconst (v := 1) dX8_canReach_18 (by decide) ?_
  refine J_isub dX8_canReach_19 ?_
  refine J_imul dX8_canReach_20 ?_
  refine J_istore_nL (fun v2_1 => [(2, .int v2_1), (0, .ref (llAd G 43)), (1, .int a0)]) dX8_canReach_21 rfl (by decide) (fun _ => rfl) (fun v2_1 => ?_)
  refine J_iconst (v := 0) dX8_canReach_22 (by decide) ?_
  refine J_istore_n [(3, .int 0), (2, .int v2_1), (0, .ref (llAd G 43)), (1, .int a0)] dX8_canReach_23 rfl (by decide) rfl ?_
  refine J_iconst (v := 0) dX8_canReach_24 (by decide) ?_
  refine J_istore [(4, .int 0), (3, .int 0), (2, .int v2_1), (0, .ref (llAd G 43)), (1, .int a0)] dX8_canReach_25 (by decide) rfl ?_
  refine J_loopE (fun s' => [(0, .ref (llAd G 43)), (1, .int a0), (2, .int v2_1), (3, .int s'.1), (4, .int s'.2)]) (fun s' => u) 106 (fun e => [(3, .int e)]) (fun e => u) (fun z => t_X8_canReach_43_l27 u a0 v2_1 z) [3, 4, 2, 1, 0] rfl rfl (fun e8 => ?_)
  refine J_iload_n (j := 0) dX8_canReach_106 rfl rfl ?_
  exact J_iret dX8_canReach_107 (fun h => h)
theorem t_X8_canReach_43 (l : Launch) (F : llFix) (d : Nat) (u : llMem) (a0 : Int32) : llCp l F yX8_canReach cX8_canReach 6 (some .int) (d + 3) [.ref (F.2.2.1 43), .int a0] u llI (fx_X8_canReach_43 u a0) := llCp.of (by decide +kernel) (by exact Nat.le_of_ble_eq_true rfl) (fun G h1 h2 => by subst h1; subst h2; exact tj_X8_canReach_43 u a0)
def fx_X11_above_0 (u : llMem) (a0 : Int32) : Option Int32 := (fx_X5_plays_3 u a0).bind (fun r1 => (if r1 = 0 then some ((-1)) else (fx_X8_canReach_43 u a0).bind (fun r2 => some r2)))
set_option maxRecDepth 20000 in
theorem tj_X11_above_0 {G : llG} {d : Nat} (u : llMem) (a0 : Int32) : llJ G RX11 cX11_above 2 (some .int) (d + 4) (fun r => llRet G (llI r) u) 0 [(0, .ref (llAd G 0)), (1, .int a0)] [] u (fx_X11_above_0 u a0) := by
  unfold fx_X11_above_0
  refine J_aload_n (j := 0) dX11_above_0 rfl rfl ?_
  refine J_getR (b := 3) dX11_above_1 fl_X11_19 sh_0 rfl ?_
  refine J_iload_n (j := 1) dX11_above_4 rfl rfl ?_
  refine J_callVip1 dX11_above_5 (t_X5_plays_3 (llL G) (llFx G) (d + 2) u a0) ym_X5_plays wd_725 sh_3 rfl (Nat.le_of_ble_eq_true rfl) (fun r1 => ?_)
  refine J_if_eq (tgt := 22) dX11_above_8 (by decide) ?_ ?_
  · refine J_iconst (v := (-1)) dX11_above_22 (by decide) ?_
    exact J_iret dX11_above_23 (fun h => h)
  · refine J_aload_n (j := 0) dX11_above_11 rfl rfl ?_
    refine J_getR (b := 43) dX11_above_12 fl_X11_60 sh_0 rfl ?_
    refine J_iload_n (j := 1) dX11_above_15 rfl rfl ?_
    refine J_callVip1 dX11_above_16 (t_X8_canReach_43 (llL G) (llFx G) d u a0) ym_X8_canReach wd_1055 sh_43 rfl (Nat.le_of_ble_eq_true rfl) (fun r2 => ?_)
    refine J_goto (tgt := 23) dX11_above_19 (by decide) ?_
    exact J_iret dX11_above_23 (fun h => h)
theorem t_X11_above_0 (l : Launch) (F : llFix) (d : Nat) (u : llMem) (a0 : Int32) : llCp l F yX11_above cX11_above 2 (some .int) (d + 4) [.ref (F.2.2.1 0), .int a0] u llI (fx_X11_above_0 u a0) := llCp.of (by decide +kernel) (by exact Nat.le_of_ble_eq_true rfl) (fun G h1 h2 => by subst h1; subst h2; exact tj_X11_above_0 u a0)
def fx_X12_above_69_j104_b21 (u : llMem) (v1 : Int32) (v2 : Int32) (v3 : Int32) (v4 : Int32) : Option ((Int32 × Int32) ⊕ (Int32)) := lt (v4 + 1) (fun v4_3 => some (.inl (v3, v4_3)))
set_option maxRecDepth 20000 in
theorem t_X12_above_69_j104_b21 {G : llG} {d : Nat} (u : llMem) (v1 : Int32) (v2 : Int32) (v3 : Int32) (v4 : Int32) : llJ G RX12 cX12_above 6 (some .int) (d + 4) (Sum.elim (fun s' => llJq G 6 21 [(0, .ref (llAd G 69)), (1, .int v1), (2, .int v2), (3, .int s'.1), (4, .int s'.2)] [] u) (fun e => llJq G 6 110 [(3, .int e)] [] u)) 104 [(0, .ref (llAd G 69)), (1, .int v1), (2, .int v2), (3, .int v3), (4, .int v4)] [] u (fx_X12_above_69_j104_b21 u v1 v2 v3 v4) := by
  unfold fx_X12_above_69_j104_b21
  refine J_iinc (j := 4) (b := 1) (fun v4_3 => [(4, .int v4_3), (0, .ref (llAd G 69)), (1, .int v1), (2, .int v2), (3, .int v3)]) dX12_above_104 rfl (by decide) (by decide) (fun _ => rfl) (fun v4_3 => ?_)
  refine J_goto (tgt := 21) dX12_above_107 (by decide) ?_
  exact J_cut [1, 2, 3, 4, 0] (lv' := [(0, .ref (llAd G 69)), (1, .int v1), (2, .int v2), (3, .int v3), (4, .int v4_3)]) rfl (fun h => h)
def fx_X12_above_69_j99_b21 (u : llMem) (v1 : Int32) (v2 : Int32) (v4 : Int32) (t0 : Int32) (t1 : Int32) : Option ((Int32 × Int32) ⊕ (Int32)) := (fx_X12_one u t1).bind (fun r8 => lt (t0 + r8) (fun v3_9 => fx_X12_above_69_j104_b21 u v1 v2 v3_9 v4))
set_option maxRecDepth 20000 in
theorem t_X12_above_69_j99_b21 {G : llG} {d : Nat} (u : llMem) (v1 : Int32) (v2 : Int32) (v4 : Int32) (t0 : Int32) (t1 : Int32) : llJ G RX12 cX12_above 6 (some .int) (d + 4) (Sum.elim (fun s' => llJq G 6 21 [(0, .ref (llAd G 69)), (1, .int v1), (2, .int v2), (3, .int s'.1), (4, .int s'.2)] [] u) (fun e => llJq G 6 110 [(3, .int e)] [] u)) 99 [(0, .ref (llAd G 69)), (1, .int v1), (2, .int v2), (4, .int v4)] [.int t1, .int t0] u (fx_X12_above_69_j99_b21 u v1 v2 v4 t0 t1) := by
  unfold fx_X12_above_69_j99_b21
  refine J_callSip1 dX12_above_99 (t_X12_one (llL G) (llFx G) (d + 3) u t1) ym_X12_one wd_1439 (Nat.le_of_ble_eq_true rfl) (fun r8 => ?_)
  refine J_iadd dX12_above_102 ?_
  refine J_istore_nL (fun v3_9 => [(3, .int v3_9), (0, .ref (llAd G 69)), (1, .int v1), (2, .int v2), (4, .int v4)]) dX12_above_103 rfl (by decide) (fun _ => rfl) (fun v3_9 => ?_)
  refine J_sub [1, 2, 3, 0, 4] (lv' := [(0, .ref (llAd G 69)), (1, .int v1), (2, .int v2), (3, .int v3_9), (4, .int v4)]) rfl ?_
  exact t_X12_above_69_j104_b21 u v1 v2 v3_9 v4
def fx_X12_above_69_l21 (u : llMem) (v1 : Int32) (v2 : Int32) (s : Int32 × Int32) : Option ((Int32 × Int32) ⊕ (Int32)) := (if (u.1 69 9) ≤ s.2 then some (.inr s.1) else (if s.2 = v1 then fx_X12_above_69_j104_b21 u v1 v2 s.1 s.2 else (fx_X12_areTogether_69 u s.2 v1).bind (fun r4 => (if ¬ r4 = 0 then gI v1 60 (gI ((4 * (rI u 74 v1)) + 1) 32 ((fx_X12_sumOf_69 u s.2 0).bind (fun r5 => lt ((2 * ((rI u 70 ((4 * (rI u 74 v1)) + 1)) - 1)) - r5) (fun v5_6 => (fx_X12_pointsOf_69 u s.2).bind (fun r7 => (if (r7 + (3 * v5_6)) < v2 then fx_X12_above_69_j99_b21 u v1 v2 s.2 s.1 0 else fx_X12_above_69_j99_b21 u v1 v2 s.2 s.1 1)))))) else fx_X12_above_69_j104_b21 u v1 v2 s.1 s.2))))
set_option maxRecDepth 20000 in
theorem t_X12_above_69_l21 {G : llG} {d : Nat} (u : llMem) (v1 : Int32) (v2 : Int32) (s : Int32 × Int32) : llJ G RX12 cX12_above 6 (some .int) (d + 4) (Sum.elim (fun s' => llJq G 6 21 [(0, .ref (llAd G 69)), (1, .int v1), (2, .int v2), (3, .int s'.1), (4, .int s'.2)] [] u) (fun e => llJq G 6 110 [(3, .int e)] [] u)) 21 [(0, .ref (llAd G 69)), (1, .int v1), (2, .int v2), (3, .int s.1), (4, .int s.2)] [] u (fx_X12_above_69_l21 u v1 v2 s) := by
  unfold fx_X12_above_69_l21
  refine J_iload (j := 4) dX12_above_21 rfl ?_
  refine J_aload_n (j := 0) dX12_above_23 rfl rfl ?_
  refine J_getI dX12_above_24 fl_X12_263 sh_69 rfl ?_
  refine J_icmp_ge (tgt := 110) dX12_above_27 (by decide) ?_ ?_
  · exact J_cut [3] (lv' := [(3, .int s.1)]) rfl (fun h => h)
  · refine J_iload (j := 4) dX12_above_30 rfl ?_
    refine J_iload_n (j := 1) dX12_above_32 rfl rfl ?_
    refine J_icmp_eq (tgt := 104) dX12_above_33 (by decide) ?_ ?_
    · refine J_sub [0, 1, 2, 3, 4] (lv' := [(0, .ref (llAd G 69)), (1, .int v1), (2, .int v2), (3, .int s.1), (4, .int s.2)]) rfl ?_
      exact t_X12_above_69_j104_b21 u v1 v2 s.1 s.2
    · refine J_aload_n (j := 0) dX12_above_36 rfl rfl ?_
      refine J_iload (j := 4) dX12_above_37 rfl ?_
      refine J_iload_n (j := 1) dX12_above_39 rfl rfl ?_
      refine J_callVip2 dX12_above_40 (t_X12_areTogether_69 (llL G) (llFx G) d u s.2 v1) ym_X12_areTogether wd_1463 sh_69 rfl (Nat.le_of_ble_eq_true rfl) (fun r4 => ?_)
      refine J_if_ne (tgt := 49) dX12_above_43 (by decide) ?_ ?_
      · refine J_iconst (v := 2) dX12_above_49 (by decide) ?_
        refine J_aload_n (j := 0) dX12_above_50 rfl rfl ?_
        refine J_getR (b := 70) dX12_above_51 fl_X12_7 sh_69 rfl ?_
        refine J_iconst (v := 4) dX12_above_54 (by decide) ?_
        refine J_aload_n (j := 0) dX12_above_55 rfl rfl ?_
        refine J_getR (b := 74) dX12_above_56 fl_X12_23 sh_69 rfl ?_
        refine J_iload_n (j := 1) dX12_above_59 rfl rfl ?_
        refine J_iald dX12_above_60 sh_74 ?_
        refine J_imul dX12_above_61 ?_
        refine J_iconst (v := 1) dX12_above_62 (by decide) ?_
        refine J_iadd dX12_above_63 ?_
        refine J_iald dX12_above_64 sh_70 ?_
        refine J_iconst (v := 1) dX12_above_65 (by decide) ?_
        refine J_isub dX12_above_66 ?_
        refine J_imul dX12_above_67 ?_
        refine J_aload_n (j := 0) dX12_above_68 rfl rfl ?_
        refine J_iload (j := 4) dX12_above_69 rfl ?_
        refine J_iconst (v := 0) dX12_above_71 (by decide) ?_
        refine J_callVip2 dX12_above_72 (t_X12_sumOf_69 (llL G) (llFx G) (d + 1) u s.2 0) ym_X12_sumOf wd_1525 sh_69 rfl (Nat.le_of_ble_eq_true rfl) (fun r5 => ?_)
        refine J_isub dX12_above_75 ?_
        refine J_istoreL (fun v5_6 => [(5, .int v5_6), (0, .ref (llAd G 69)), (1, .int v1), (2, .int v2), (3, .int s.1), (4, .int s.2)]) dX12_above_76 (by decide) (fun _ => rfl) (fun v5_6 => ?_)
        refine J_iload_n (j := 4) dX12_above_78 rfl rfl ?_
        refine J_aload_n (j := 1) dX12_above_79 rfl rfl ?_
        refine J_iload (j := 5) dX12_above_80 rfl ?_
        refine J_callVip1 dX12_above_82 (t_X12_pointsOf_69 (llL G) (llFx G) d u s.2) ym_X12_pointsOf wd_1521 sh_69 rfl (Nat.le_of_ble_eq_true rfl) (fun r7 => ?_)
        refine J_iconst (v := 3) dX12_above_85 (by decide) ?_
        refine J_iload (j := 0) dX12_above_86 rfl ?_
        refine J_imul dX12_above_88 ?_
        refine J_iadd dX12_above_89 ?_
        refine J_iload_n (j := 3) dX12_above_90 rfl rfl ?_
        refine J_icmp_lt (tgt := 98) dX12_above_91 (by decide) ?_ ?_
        · refine J_iconst (v := 0) dX12_above_98 (by decide) ?_
          refine J_sub [1, 2, 3, 5] (lv' := [(0, .ref (llAd G 69)), (1, .int v1), (2, .int v2), (4, .int s.2)]) rfl ?_
          exact t_X12_above_69_j99_b21 u v1 v2 s.2 s.1 0
        · refine J_iconst (v := 1) dX12_above_94 (by decide) ?_
          refine J_goto (tgt := 99) dX12_above_95 (by decide) ?_
          refine J_sub [1, 2, 3, 5] (lv' := [(0, .ref (llAd G 69)), (1, .int v1), (2, .int v2), (4, .int s.2)]) rfl ?_
          exact t_X12_above_69_j99_b21 u v1 v2 s.2 s.1 1
      · refine J_goto (tgt := 104) dX12_above_46 (by decide) ?_
        refine J_sub [0, 1, 2, 3, 4] (lv' := [(0, .ref (llAd G 69)), (1, .int v1), (2, .int v2), (3, .int s.1), (4, .int s.2)]) rfl ?_
        exact t_X12_above_69_j104_b21 u v1 v2 s.1 s.2
def fx_X12_above_69 (u : llMem) (a0 : Int32) : Option Int32 := (fx_X12_plays_69 u a0).bind (fun r1 => (if ¬ r1 = 0 then (fx_X12_pointsOf_69 u a0).bind (fun r2 => (loop (fx_X12_above_69_l21 u a0 r2) llFuel (0, 0)).bind (fun e10 => some e10)) else some ((-1))))
set_option maxRecDepth 20000 in
theorem tj_X12_above_69 {G : llG} {d : Nat} (u : llMem) (a0 : Int32) : llJ G RX12 cX12_above 6 (some .int) (d + 4) (fun r => llRet G (llI r) u) 0 [(0, .ref (llAd G 69)), (1, .int a0)] [] u (fx_X12_above_69 u a0) := by
  unfold fx_X12_above_69
  refine J_aload_n (j := 0) dX12_above_0 rfl rfl ?_
  refine J_iload_n (j := 1) dX12_above_1 rfl rfl ?_
  refine J_callVip1 dX12_above_2 (t_X12_plays_69 (llL G) (llFx G) (d + 1) u a0) ym_X12_plays wd_1467 sh_69 rfl (Nat.le_of_ble_eq_true rfl) (fun r1 => ?_)
  refine J_if_ne (tgt := 10) dX12_above_5 (by decide) ?_ ?_
  · refine J_aload_n (j := 0) dX12_above_10 rfl rfl ?_
    refine J_iload_n (j := 1) dX12_above_11 rfl rfl ?_
    refine J_callVip1 dX12_above_12 (t_X12_pointsOf_69 (llL G) (llFx G) d u a0) ym_X12_pointsOf wd_1521 sh_69 rfl (Nat.le_of_ble_eq_true rfl) (fun r2 => ?_)
    refine J_istore_n [(2, .int r2), (0, .ref (llAd G 69)), (1, .int a0)] dX12_above_15 rfl (by decide) rfl ?_
    refine J_iconst (v := 0) dX12_above_16 (by decide) ?_
    refine J_istore_n [(3, .int 0), (2, .int r2), (0, .ref (llAd G 69)), (1, .int a0)] dX12_above_17 rfl (by decide) rfl ?_
    refine J_iconst (v := 0) dX12_above_18 (by decide) ?_
    refine J_istore [(4, .int 0), (3, .int 0), (2, .int r2), (0, .ref (llAd G 69)), (1, .int a0)] dX12_above_19 (by decide) rfl ?_
    refine J_loopE (fun s' => [(0, .ref (llAd G 69)), (1, .int a0), (2, .int r2), (3, .int s'.1), (4, .int s'.2)]) (fun s' => u) 110 (fun e => [(3, .int e)]) (fun e => u) (fun z => t_X12_above_69_l21 u a0 r2 z) [3, 4, 2, 1, 0] rfl rfl (fun e10 => ?_)
    refine J_iload_n (j := 0) dX12_above_110 rfl rfl ?_
    exact J_iret dX12_above_111 (fun h => h)
  · refine J_iconst (v := (-1)) dX12_above_8 (by decide) ?_
    exact J_iret dX12_above_9 (fun h => h)
theorem t_X12_above_69 (l : Launch) (F : llFix) (d : Nat) (u : llMem) (a0 : Int32) : llCp l F yX12_above cX12_above 6 (some .int) (d + 4) [.ref (F.2.2.1 69), .int a0] u llI (fx_X12_above_69 u a0) := llCp.of (by decide +kernel) (by exact Nat.le_of_ble_eq_true rfl) (fun G h1 h2 => by subst h1; subst h2; exact tj_X12_above_69 u a0)
def fx_X11_journeys_0_j63_b17 (u : llMem) (v1 : Int32) (v2 : Int32) (v3 : Int32) : Option ((Int32 × Int32) ⊕ (Int32)) := lt (v3 + 1) (fun v3_2 => some (.inl (v2, v3_2)))
set_option maxRecDepth 20000 in
theorem t_X11_journeys_0_j63_b17 {G : llG} {d : Nat} (u : llMem) (v1 : Int32) (v2 : Int32) (v3 : Int32) : llJ G RX11 cX11_journeys 4 (some .int) (d + 2) (Sum.elim (fun s' => llJq G 4 17 [(0, .ref (llAd G 0)), (1, .int v1), (2, .int s'.1), (3, .int s'.2)] [] u) (fun e => llJq G 4 69 [(2, .int e)] [] u)) 63 [(0, .ref (llAd G 0)), (1, .int v1), (2, .int v2), (3, .int v3)] [] u (fx_X11_journeys_0_j63_b17 u v1 v2 v3) := by
  unfold fx_X11_journeys_0_j63_b17
  refine J_iinc (j := 3) (b := 1) (fun v3_2 => [(3, .int v3_2), (0, .ref (llAd G 0)), (1, .int v1), (2, .int v2)]) dX11_journeys_63 rfl (by decide) (by decide) (fun _ => rfl) (fun v3_2 => ?_)
  refine J_goto (tgt := 17) dX11_journeys_66 (by decide) ?_
  exact J_cut [1, 2, 3, 0] (lv' := [(0, .ref (llAd G 0)), (1, .int v1), (2, .int v2), (3, .int v3_2)]) rfl (fun h => h)
def fx_X11_journeys_0_l17 (u : llMem) (v1 : Int32) (s : Int32 × Int32) : Option ((Int32 × Int32) ⊕ (Int32)) := (if (u.1 14 1) ≤ s.2 then some (.inr s.1) else gI s.2 150 ((if ¬ (rI u 16 s.2) = v1 then fx_X11_journeys_0_j63_b17 u v1 s.1 s.2 else gI s.2 150 ((fx_X10_between_48 u (rI u 15 s.2) v1).bind (fun r3 => lt (s.1 + (2 * r3)) (fun v2_4 => fx_X11_journeys_0_j63_b17 u v1 v2_4 s.2))))))
set_option maxRecDepth 20000 in
theorem t_X11_journeys_0_l17 {G : llG} {d : Nat} (u : llMem) (v1 : Int32) (s : Int32 × Int32) : llJ G RX11 cX11_journeys 4 (some .int) (d + 2) (Sum.elim (fun s' => llJq G 4 17 [(0, .ref (llAd G 0)), (1, .int v1), (2, .int s'.1), (3, .int s'.2)] [] u) (fun e => llJq G 4 69 [(2, .int e)] [] u)) 17 [(0, .ref (llAd G 0)), (1, .int v1), (2, .int s.1), (3, .int s.2)] [] u (fx_X11_journeys_0_l17 u v1 s) := by
  unfold fx_X11_journeys_0_l17
  refine J_iload_n (j := 3) dX11_journeys_17 rfl rfl ?_
  refine J_aload_n (j := 0) dX11_journeys_18 rfl rfl ?_
  refine J_getR (b := 14) dX11_journeys_19 fl_X11_26 sh_0 rfl ?_
  refine J_getI dX11_journeys_22 fl_X11_127 sh_14 rfl ?_
  refine J_icmp_ge (tgt := 69) dX11_journeys_25 (by decide) ?_ ?_
  · exact J_cut [2] (lv' := [(2, .int s.1)]) rfl (fun h => h)
  · refine J_aload_n (j := 0) dX11_journeys_28 rfl rfl ?_
    refine J_getR (b := 14) dX11_journeys_29 fl_X11_26 sh_0 rfl ?_
    refine J_getR (b := 16) dX11_journeys_32 fl_X11_346 sh_14 rfl ?_
    refine J_iload_n (j := 3) dX11_journeys_35 rfl rfl ?_
    refine J_iald dX11_journeys_36 sh_16 ?_
    refine J_iload_n (j := 1) dX11_journeys_37 rfl rfl ?_
    refine J_icmp_ne (tgt := 63) dX11_journeys_38 (by decide) ?_ ?_
    · refine J_sub [0, 1, 2, 3] (lv' := [(0, .ref (llAd G 0)), (1, .int v1), (2, .int s.1), (3, .int s.2)]) rfl ?_
      exact t_X11_journeys_0_j63_b17 u v1 s.1 s.2
    · refine J_iload_n (j := 2) dX11_journeys_41 rfl rfl ?_
      refine J_iconst (v := 2) dX11_journeys_42 (by decide) ?_
      refine J_aload_n (j := 0) dX11_journeys_43 rfl rfl ?_
      refine J_getR (b := 48) dX11_journeys_44 fl_X11_69 sh_0 rfl ?_
      refine J_aload_n (j := 0) dX11_journeys_47 rfl rfl ?_
      refine J_getR (b := 14) dX11_journeys_48 fl_X11_26 sh_0 rfl ?_
      refine J_getR (b := 15) dX11_journeys_51 fl_X11_349 sh_14 rfl ?_
      refine J_iload_n (j := 3) dX11_journeys_54 rfl rfl ?_
      refine J_iald dX11_journeys_55 sh_15 ?_
      refine J_iload_n (j := 1) dX11_journeys_56 rfl rfl ?_
      refine J_callVip2 dX11_journeys_57 (t_X10_between_48 (llL G) (llFx G) (d + 1) u (rI u 15 s.2) v1) ym_X10_between wd_1064 sh_48 rfl (Nat.le_of_ble_eq_true rfl) (fun r3 => ?_)
      refine J_imul dX11_journeys_60 ?_
      refine J_iadd dX11_journeys_61 ?_
      refine J_istore_nL (fun v2_4 => [(2, .int v2_4), (0, .ref (llAd G 0)), (1, .int v1), (3, .int s.2)]) dX11_journeys_62 rfl (by decide) (fun _ => rfl) (fun v2_4 => ?_)
      refine J_sub [1, 2, 0, 3] (lv' := [(0, .ref (llAd G 0)), (1, .int v1), (2, .int v2_4), (3, .int s.2)]) rfl ?_
      exact t_X11_journeys_0_j63_b17 u v1 v2_4 s.2
def fx_X11_journeys_0 (u : llMem) (a0 : Int32) : Option Int32 := (fx_X5_plays_3 u a0).bind (fun r1 => (if ¬ r1 = 0 then (loop (fx_X11_journeys_0_l17 u a0) llFuel (0, 0)).bind (fun e5 => some e5) else some ((-1))))
set_option maxRecDepth 20000 in
theorem tj_X11_journeys_0 {G : llG} {d : Nat} (u : llMem) (a0 : Int32) : llJ G RX11 cX11_journeys 4 (some .int) (d + 2) (fun r => llRet G (llI r) u) 0 [(0, .ref (llAd G 0)), (1, .int a0)] [] u (fx_X11_journeys_0 u a0) := by
  unfold fx_X11_journeys_0
  refine J_aload_n (j := 0) dX11_journeys_0 rfl rfl ?_
  refine J_getR (b := 3) dX11_journeys_1 fl_X11_19 sh_0 rfl ?_
  refine J_iload_n (j := 1) dX11_journeys_4 rfl rfl ?_
  refine J_callVip1 dX11_journeys_5 (t_X5_plays_3 (llL G) (llFx G) d u a0) ym_X5_plays wd_725 sh_3 rfl (Nat.le_of_ble_eq_true rfl) (fun r1 => ?_)
  refine J_if_ne (tgt := 13) dX11_journeys_8 (by decide) ?_ ?_
  · refine J_iconst (v := 0) dX11_journeys_13 (by decide) ?_
    refine J_istore_n [(2, .int 0), (0, .ref (llAd G 0)), (1, .int a0)] dX11_journeys_14 rfl (by decide) rfl ?_
    refine J_iconst (v := 0) dX11_journeys_15 (by decide) ?_
    refine J_istore_n [(3, .int 0), (2, .int 0), (0, .ref (llAd G 0)), (1, .int a0)] dX11_journeys_16 rfl (by decide) rfl ?_
    refine J_loopE (fun s' => [(0, .ref (llAd G 0)), (1, .int a0), (2, .int s'.1), (3, .int s'.2)]) (fun s' => u) 69 (fun e => [(2, .int e)]) (fun e => u) (fun z => t_X11_journeys_0_l17 u a0 z) [2, 3, 1, 0] rfl rfl (fun e5 => ?_)
    refine J_iload_n (j := 0) dX11_journeys_69 rfl rfl ?_
    exact J_iret dX11_journeys_70 (fun h => h)
  · refine J_iconst (v := (-1)) dX11_journeys_11 (by decide) ?_
    exact J_iret dX11_journeys_12 (fun h => h)
theorem t_X11_journeys_0 (l : Launch) (F : llFix) (d : Nat) (u : llMem) (a0 : Int32) : llCp l F yX11_journeys cX11_journeys 4 (some .int) (d + 2) [.ref (F.2.2.1 0), .int a0] u llI (fx_X11_journeys_0 u a0) := llCp.of (by decide +kernel) (by exact Nat.le_of_ble_eq_true rfl) (fun G h1 h2 => by subst h1; subst h2; exact tj_X11_journeys_0 u a0)
def fx_X12_journeys_69_j45_b14 (u : llMem) (v1 : Int32) (v3 : Int32) (t0 : Int32) (t1 : Int32) : Option ((Int32 × Int32) ⊕ (Int32)) := lt (t0 + t1) (fun v2_4 => lt (v3 + 1) (fun v3_5 => some (.inl (v2_4, v3_5))))
set_option maxRecDepth 20000 in
theorem t_X12_journeys_69_j45_b14 {G : llG} {d : Nat} (u : llMem) (v1 : Int32) (v3 : Int32) (t0 : Int32) (t1 : Int32) : llJ G RX12 cX12_journeys 4 (some .int) (d + 3) (Sum.elim (fun s' => llJq G 4 14 [(0, .ref (llAd G 69)), (1, .int v1), (2, .int s'.1), (3, .int s'.2)] [] u) (fun e => llJq G 4 53 [(2, .int e)] [] u)) 45 [(0, .ref (llAd G 69)), (1, .int v1), (3, .int v3)] [.int t1, .int t0] u (fx_X12_journeys_69_j45_b14 u v1 v3 t0 t1) := by
  unfold fx_X12_journeys_69_j45_b14
  refine J_iadd dX12_journeys_45 ?_
  refine J_istore_nL (fun v2_4 => [(2, .int v2_4), (0, .ref (llAd G 69)), (1, .int v1), (3, .int v3)]) dX12_journeys_46 rfl (by decide) (fun _ => rfl) (fun v2_4 => ?_)
  refine J_iinc (j := 3) (b := 1) (fun v3_5 => [(3, .int v3_5), (2, .int v2_4), (0, .ref (llAd G 69)), (1, .int v1)]) dX12_journeys_47 rfl (by decide) (by decide) (fun _ => rfl) (fun v3_5 => ?_)
  refine J_goto (tgt := 14) dX12_journeys_50 (by decide) ?_
  exact J_cut [2, 3, 1, 0] (lv' := [(0, .ref (llAd G 69)), (1, .int v1), (2, .int v2_4), (3, .int v3_5)]) rfl (fun h => h)
def fx_X12_journeys_69_l14 (u : llMem) (v1 : Int32) (s : Int32 × Int32) : Option ((Int32 × Int32) ⊕ (Int32)) := (if (u.1 69 9) ≤ s.2 then some (.inr s.1) else (fx_X12_goalsAt_69 u s.2 v1).bind (fun r2 => (if ¬ r2 = ((-1)) then (fx_X12_miles_69 u s.2 v1).bind (fun r3 => fx_X12_journeys_69_j45_b14 u v1 s.2 s.1 (2 * r3)) else fx_X12_journeys_69_j45_b14 u v1 s.2 s.1 0)))
set_option maxRecDepth 20000 in
theorem t_X12_journeys_69_l14 {G : llG} {d : Nat} (u : llMem) (v1 : Int32) (s : Int32 × Int32) : llJ G RX12 cX12_journeys 4 (some .int) (d + 3) (Sum.elim (fun s' => llJq G 4 14 [(0, .ref (llAd G 69)), (1, .int v1), (2, .int s'.1), (3, .int s'.2)] [] u) (fun e => llJq G 4 53 [(2, .int e)] [] u)) 14 [(0, .ref (llAd G 69)), (1, .int v1), (2, .int s.1), (3, .int s.2)] [] u (fx_X12_journeys_69_l14 u v1 s) := by
  unfold fx_X12_journeys_69_l14
  refine J_iload_n (j := 3) dX12_journeys_14 rfl rfl ?_
  refine J_aload_n (j := 0) dX12_journeys_15 rfl rfl ?_
  refine J_getI dX12_journeys_16 fl_X12_263 sh_69 rfl ?_
  refine J_icmp_ge (tgt := 53) dX12_journeys_19 (by decide) ?_ ?_
  · exact J_cut [2] (lv' := [(2, .int s.1)]) rfl (fun h => h)
  · refine J_iload_n (j := 2) dX12_journeys_22 rfl rfl ?_
    refine J_aload_n (j := 0) dX12_journeys_23 rfl rfl ?_
    refine J_iload_n (j := 3) dX12_journeys_24 rfl rfl ?_
    refine J_iload_n (j := 1) dX12_journeys_25 rfl rfl ?_
    refine J_callVip2 dX12_journeys_26 (t_X12_goalsAt_69 (llL G) (llFx G) (d + 2) u s.2 v1) ym_X12_goalsAt wd_1529 sh_69 rfl (Nat.le_of_ble_eq_true rfl) (fun r2 => ?_)
    refine J_iconst (v := (-1)) dX12_journeys_29 (by decide) ?_
    refine J_icmp_ne (tgt := 37) dX12_journeys_30 (by decide) ?_ ?_
    · refine J_iconst (v := 2) dX12_journeys_37 (by decide) ?_
      refine J_aload_n (j := 0) dX12_journeys_38 rfl rfl ?_
      refine J_iload_n (j := 3) dX12_journeys_39 rfl rfl ?_
      refine J_iload_n (j := 1) dX12_journeys_40 rfl rfl ?_
      refine J_callVip2 dX12_journeys_41 (t_X12_miles_69 (llL G) (llFx G) (d + 2) u s.2 v1) ym_X12_miles wd_1577 sh_69 rfl (Nat.le_of_ble_eq_true rfl) (fun r3 => ?_)
      refine J_imul dX12_journeys_44 ?_
      refine J_sub [0, 1, 3] (lv' := [(0, .ref (llAd G 69)), (1, .int v1), (3, .int s.2)]) rfl ?_
      exact t_X12_journeys_69_j45_b14 u v1 s.2 s.1 (2 * r3)
    · refine J_iconst (v := 0) dX12_journeys_33 (by decide) ?_
      refine J_goto (tgt := 45) dX12_journeys_34 (by decide) ?_
      refine J_sub [0, 1, 3] (lv' := [(0, .ref (llAd G 69)), (1, .int v1), (3, .int s.2)]) rfl ?_
      exact t_X12_journeys_69_j45_b14 u v1 s.2 s.1 0
def fx_X12_journeys_69 (u : llMem) (a0 : Int32) : Option Int32 := (fx_X12_plays_69 u a0).bind (fun r1 => (if ¬ r1 = 0 then (loop (fx_X12_journeys_69_l14 u a0) llFuel (0, 0)).bind (fun e6 => some e6) else some ((-1))))
set_option maxRecDepth 20000 in
theorem tj_X12_journeys_69 {G : llG} {d : Nat} (u : llMem) (a0 : Int32) : llJ G RX12 cX12_journeys 4 (some .int) (d + 3) (fun r => llRet G (llI r) u) 0 [(0, .ref (llAd G 69)), (1, .int a0)] [] u (fx_X12_journeys_69 u a0) := by
  unfold fx_X12_journeys_69
  refine J_aload_n (j := 0) dX12_journeys_0 rfl rfl ?_
  refine J_iload_n (j := 1) dX12_journeys_1 rfl rfl ?_
  refine J_callVip1 dX12_journeys_2 (t_X12_plays_69 (llL G) (llFx G) d u a0) ym_X12_plays wd_1467 sh_69 rfl (Nat.le_of_ble_eq_true rfl) (fun r1 => ?_)
  refine J_if_ne (tgt := 10) dX12_journeys_5 (by decide) ?_ ?_
  · refine J_iconst (v := 0) dX12_journeys_10 (by decide) ?_
    refine J_istore_n [(2, .int 0), (0, .ref (llAd G 69)), (1, .int a0)] dX12_journeys_11 rfl (by decide) rfl ?_
    refine J_iconst (v := 0) dX12_journeys_12 (by decide) ?_
    refine J_istore_n [(3, .int 0), (2, .int 0), (0, .ref (llAd G 69)), (1, .int a0)] dX12_journeys_13 rfl (by decide) rfl ?_
    refine J_loopE (fun s' => [(0, .ref (llAd G 69)), (1, .int a0), (2, .int s'.1), (3, .int s'.2)]) (fun s' => u) 53 (fun e => [(2, .int e)]) (fun e => u) (fun z => t_X12_journeys_69_l14 u a0 z) [2, 3, 1, 0] rfl rfl (fun e6 => ?_)
    refine J_iload_n (j := 0) dX12_journeys_53 rfl rfl ?_
    exact J_iret dX12_journeys_54 (fun h => h)
  · refine J_iconst (v := (-1)) dX12_journeys_8 (by decide) ?_
    exact J_iret dX12_journeys_9 (fun h => h)
theorem t_X12_journeys_69 (l : Launch) (F : llFix) (d : Nat) (u : llMem) (a0 : Int32) : llCp l F yX12_journeys cX12_journeys 4 (some .int) (d + 3) [.ref (F.2.2.1 69), .int a0] u llI (fx_X12_journeys_69 u a0) := llCp.of (by decide +kernel) (by exact Nat.le_of_ble_eq_true rfl) (fun G h1 h2 => by subst h1; subst h2; exact tj_X12_journeys_69 u a0)
def fx_X10_closest_48_j61_b8 (u : llMem) (v1 : Int32) (v2 : Int32) (v3 : Int32) (v4 : Int32) : Option ((Int32 × Int32 × Int32) ⊕ (Int32)) := lt (v4 + 1) (fun v4_1 => some (.inl (v2, v3, v4_1)))
set_option maxRecDepth 20000 in
theorem t_X10_closest_48_j61_b8 {G : llG} {d : Nat} (u : llMem) (v1 : Int32) (v2 : Int32) (v3 : Int32) (v4 : Int32) : llJ G RX10 cX10_closest 5 (some .int) (d + 3) (Sum.elim (fun s' => llJq G 5 8 [(0, .ref (llAd G 48)), (1, .int v1), (2, .int s'.1), (3, .int s'.2.1), (4, .int s'.2.2)] [] u) (fun e => llJq G 5 67 [(2, .int e)] [] u)) 61 [(0, .ref (llAd G 48)), (1, .int v1), (2, .int v2), (3, .int v3), (4, .int v4)] [] u (fx_X10_closest_48_j61_b8 u v1 v2 v3 v4) := by
  unfold fx_X10_closest_48_j61_b8
  refine J_iinc (j := 4) (b := 1) (fun v4_1 => [(4, .int v4_1), (0, .ref (llAd G 48)), (1, .int v1), (2, .int v2), (3, .int v3)]) dX10_closest_61 rfl (by decide) (by decide) (fun _ => rfl) (fun v4_1 => ?_)
  refine J_goto (tgt := 8) dX10_closest_64 (by decide) ?_
  exact J_cut [1, 2, 3, 4, 0] (lv' := [(0, .ref (llAd G 48)), (1, .int v1), (2, .int v2), (3, .int v3), (4, .int v4_1)]) rfl (fun h => h)
def fx_X10_closest_48_l8 (u : llMem) (v1 : Int32) (s : Int32 × Int32 × Int32) : Option ((Int32 × Int32 × Int32) ⊕ (Int32)) := (if (u.1 3 5) ≤ s.2.2 then some (.inr s.1) else (if s.2.2 = v1 then fx_X10_closest_48_j61_b8 u v1 s.1 s.2.1 s.2.2 else (fx_X5_together_3 u v1 s.2.2).bind (fun r2 => (if r2 = 0 then fx_X10_closest_48_j61_b8 u v1 s.1 s.2.1 s.2.2 else (fx_X10_between_48 u v1 s.2.2).bind (fun r3 => (if s.2.1 ≤ r3 then fx_X10_closest_48_j61_b8 u v1 s.1 s.2.1 s.2.2 else (fx_X10_between_48 u v1 s.2.2).bind (fun r4 => fx_X10_closest_48_j61_b8 u v1 s.2.2 r4 s.2.2)))))))
set_option maxRecDepth 20000 in
theorem t_X10_closest_48_l8 {G : llG} {d : Nat} (u : llMem) (v1 : Int32) (s : Int32 × Int32 × Int32) : llJ G RX10 cX10_closest 5 (some .int) (d + 3) (Sum.elim (fun s' => llJq G 5 8 [(0, .ref (llAd G 48)), (1, .int v1), (2, .int s'.1), (3, .int s'.2.1), (4, .int s'.2.2)] [] u) (fun e => llJq G 5 67 [(2, .int e)] [] u)) 8 [(0, .ref (llAd G 48)), (1, .int v1), (2, .int s.1), (3, .int s.2.1), (4, .int s.2.2)] [] u (fx_X10_closest_48_l8 u v1 s) := by
  unfold fx_X10_closest_48_l8
  refine J_iload (j := 4) dX10_closest_8 rfl ?_
  refine J_aload_n (j := 0) dX10_closest_10 rfl rfl ?_
  refine J_getR (b := 3) dX10_closest_11 fl_X10_9 sh_48 rfl ?_
  refine J_getI dX10_closest_14 fl_X10_25 sh_3 rfl ?_
  refine J_icmp_ge (tgt := 67) dX10_closest_17 (by decide) ?_ ?_
  · exact J_cut [2] (lv' := [(2, .int s.1)]) rfl (fun h => h)
  · refine J_iload (j := 4) dX10_closest_20 rfl ?_
    refine J_iload_n (j := 1) dX10_closest_22 rfl rfl ?_
    refine J_icmp_eq (tgt := 61) dX10_closest_23 (by decide) ?_ ?_
    · refine J_sub [0, 1, 2, 3, 4] (lv' := [(0, .ref (llAd G 48)), (1, .int v1), (2, .int s.1), (3, .int s.2.1), (4, .int s.2.2)]) rfl ?_
      exact t_X10_closest_48_j61_b8 u v1 s.1 s.2.1 s.2.2
    · refine J_aload_n (j := 0) dX10_closest_26 rfl rfl ?_
      refine J_getR (b := 3) dX10_closest_27 fl_X10_9 sh_48 rfl ?_
      refine J_iload_n (j := 1) dX10_closest_30 rfl rfl ?_
      refine J_iload (j := 4) dX10_closest_31 rfl ?_
      refine J_callVip2 dX10_closest_33 (t_X5_together_3 (llL G) (llFx G) d u v1 s.2.2) ym_X5_together wd_1073 sh_3 rfl (Nat.le_of_ble_eq_true rfl) (fun r2 => ?_)
      refine J_if_eq (tgt := 61) dX10_closest_36 (by decide) ?_ ?_
      · refine J_sub [0, 1, 2, 3, 4] (lv' := [(0, .ref (llAd G 48)), (1, .int v1), (2, .int s.1), (3, .int s.2.1), (4, .int s.2.2)]) rfl ?_
        exact t_X10_closest_48_j61_b8 u v1 s.1 s.2.1 s.2.2
      · refine J_aload_n (j := 0) dX10_closest_39 rfl rfl ?_
        refine J_iload_n (j := 1) dX10_closest_40 rfl rfl ?_
        refine J_iload (j := 4) dX10_closest_41 rfl ?_
        refine J_callVip2 dX10_closest_43 (t_X10_between_48 (llL G) (llFx G) (d + 2) u v1 s.2.2) ym_X10_between wd_917 sh_48 rfl (Nat.le_of_ble_eq_true rfl) (fun r3 => ?_)
        refine J_iload_n (j := 3) dX10_closest_46 rfl rfl ?_
        refine J_icmp_ge (tgt := 61) dX10_closest_47 (by decide) ?_ ?_
        · refine J_sub [0, 1, 2, 3, 4] (lv' := [(0, .ref (llAd G 48)), (1, .int v1), (2, .int s.1), (3, .int s.2.1), (4, .int s.2.2)]) rfl ?_
          exact t_X10_closest_48_j61_b8 u v1 s.1 s.2.1 s.2.2
        · refine J_aload_n (j := 0) dX10_closest_50 rfl rfl ?_
          refine J_iload_n (j := 1) dX10_closest_51 rfl rfl ?_
          refine J_iload (j := 4) dX10_closest_52 rfl ?_
          refine J_callVip2 dX10_closest_54 (t_X10_between_48 (llL G) (llFx G) (d + 2) u v1 s.2.2) ym_X10_between wd_917 sh_48 rfl (Nat.le_of_ble_eq_true rfl) (fun r4 => ?_)
          refine J_istore_n [(3, .int r4), (0, .ref (llAd G 48)), (1, .int v1), (2, .int s.1), (4, .int s.2.2)] dX10_closest_57 rfl (by decide) rfl ?_
          refine J_iload (j := 4) dX10_closest_58 rfl ?_
          refine J_istore_n [(2, .int s.2.2), (3, .int r4), (0, .ref (llAd G 48)), (1, .int v1), (4, .int s.2.2)] dX10_closest_60 rfl (by decide) rfl ?_
          refine J_sub [2, 3, 0, 1, 4] (lv' := [(0, .ref (llAd G 48)), (1, .int v1), (2, .int s.2.2), (3, .int r4), (4, .int s.2.2)]) rfl ?_
          exact t_X10_closest_48_j61_b8 u v1 s.2.2 r4 s.2.2
def fx_X10_closest_48 (u : llMem) (a0 : Int32) : Option Int32 := (loop (fx_X10_closest_48_l8 u a0) llFuel ((-1), 2147483647, 0)).bind (fun e5 => some e5)
set_option maxRecDepth 20000 in
theorem tj_X10_closest_48 {G : llG} {d : Nat} (u : llMem) (a0 : Int32) : llJ G RX10 cX10_closest 5 (some .int) (d + 3) (fun r => llRet G (llI r) u) 0 [(0, .ref (llAd G 48)), (1, .int a0)] [] u (fx_X10_closest_48 u a0) := by
  unfold fx_X10_closest_48
  refine J_iconst (v := (-1)) dX10_closest_0 (by decide) ?_
  refine J_istore_n [(2, .int ((-1))), (0, .ref (llAd G 48)), (1, .int a0)] dX10_closest_1 rfl (by decide) rfl ?_
  refine J_ldc (v := 2147483647) dX10_closest_2 wd_1032 ?_
  refine J_istore_n [(3, .int 2147483647), (2, .int ((-1))), (0, .ref (llAd G 48)), (1, .int a0)] dX10_closest_4 rfl (by decide) rfl ?_
  refine J_iconst (v := 0) dX10_closest_5 (by decide) ?_
  refine J_istore [(4, .int 0), (3, .int 2147483647), (2, .int ((-1))), (0, .ref (llAd G 48)), (1, .int a0)] dX10_closest_6 (by decide) rfl ?_
  refine J_loopE (fun s' => [(0, .ref (llAd G 48)), (1, .int a0), (2, .int s'.1), (3, .int s'.2.1), (4, .int s'.2.2)]) (fun s' => u) 67 (fun e => [(2, .int e)]) (fun e => u) (fun z => t_X10_closest_48_l8 u a0 z) [3, 4, 2, 1, 0] rfl rfl (fun e5 => ?_)
  refine J_iload_n (j := 0) dX10_closest_67 rfl rfl ?_
  exact J_iret dX10_closest_68 (fun h => h)
theorem t_X10_closest_48 (l : Launch) (F : llFix) (d : Nat) (u : llMem) (a0 : Int32) : llCp l F yX10_closest cX10_closest 5 (some .int) (d + 3) [.ref (F.2.2.1 48), .int a0] u llI (fx_X10_closest_48 u a0) := llCp.of (by decide +kernel) (by exact Nat.le_of_ble_eq_true rfl) (fun G h1 h2 => by subst h1; subst h2; exact tj_X10_closest_48 u a0)
def fx_X11_nearest_0 (u : llMem) (a0 : Int32) : Option Int32 := (fx_X5_plays_3 u a0).bind (fun r1 => (if r1 = 0 then some ((-1)) else (fx_X10_closest_48 u a0).bind (fun r2 => some r2)))
set_option maxRecDepth 20000 in
theorem tj_X11_nearest_0 {G : llG} {d : Nat} (u : llMem) (a0 : Int32) : llJ G RX11 cX11_nearest 2 (some .int) (d + 4) (fun r => llRet G (llI r) u) 0 [(0, .ref (llAd G 0)), (1, .int a0)] [] u (fx_X11_nearest_0 u a0) := by
  unfold fx_X11_nearest_0
  refine J_aload_n (j := 0) dX11_nearest_0 rfl rfl ?_
  refine J_getR (b := 3) dX11_nearest_1 fl_X11_19 sh_0 rfl ?_
  refine J_iload_n (j := 1) dX11_nearest_4 rfl rfl ?_
  refine J_callVip1 dX11_nearest_5 (t_X5_plays_3 (llL G) (llFx G) (d + 2) u a0) ym_X5_plays wd_725 sh_3 rfl (Nat.le_of_ble_eq_true rfl) (fun r1 => ?_)
  refine J_if_eq (tgt := 22) dX11_nearest_8 (by decide) ?_ ?_
  · refine J_iconst (v := (-1)) dX11_nearest_22 (by decide) ?_
    exact J_iret dX11_nearest_23 (fun h => h)
  · refine J_aload_n (j := 0) dX11_nearest_11 rfl rfl ?_
    refine J_getR (b := 48) dX11_nearest_12 fl_X11_69 sh_0 rfl ?_
    refine J_iload_n (j := 1) dX11_nearest_15 rfl rfl ?_
    refine J_callVip1 dX11_nearest_16 (t_X10_closest_48 (llL G) (llFx G) d u a0) ym_X10_closest wd_1069 sh_48 rfl (Nat.le_of_ble_eq_true rfl) (fun r2 => ?_)
    refine J_goto (tgt := 23) dX11_nearest_19 (by decide) ?_
    exact J_iret dX11_nearest_23 (fun h => h)
theorem t_X11_nearest_0 (l : Launch) (F : llFix) (d : Nat) (u : llMem) (a0 : Int32) : llCp l F yX11_nearest cX11_nearest 2 (some .int) (d + 4) [.ref (F.2.2.1 0), .int a0] u llI (fx_X11_nearest_0 u a0) := llCp.of (by decide +kernel) (by exact Nat.le_of_ble_eq_true rfl) (fun G h1 h2 => by subst h1; subst h2; exact tj_X11_nearest_0 u a0)
def fx_X12_nearest_69_j58_b14 (u : llMem) (v1 : Int32) (v2 : Int32) (v3 : Int32) : Option ((Int32 × Int32) ⊕ (Int32)) := lt (v3 + 1) (fun v3_2 => some (.inl (v2, v3_2)))
set_option maxRecDepth 20000 in
theorem t_X12_nearest_69_j58_b14 {G : llG} {d : Nat} (u : llMem) (v1 : Int32) (v2 : Int32) (v3 : Int32) : llJ G RX12 cX12_nearest 4 (some .int) (d + 4) (Sum.elim (fun s' => llJq G 4 14 [(0, .ref (llAd G 69)), (1, .int v1), (2, .int s'.1), (3, .int s'.2)] [] u) (fun e => llJq G 4 64 [(2, .int e)] [] u)) 58 [(0, .ref (llAd G 69)), (1, .int v1), (2, .int v2), (3, .int v3)] [] u (fx_X12_nearest_69_j58_b14 u v1 v2 v3) := by
  unfold fx_X12_nearest_69_j58_b14
  refine J_iinc (j := 3) (b := 1) (fun v3_2 => [(3, .int v3_2), (0, .ref (llAd G 69)), (1, .int v1), (2, .int v2)]) dX12_nearest_58 rfl (by decide) (by decide) (fun _ => rfl) (fun v3_2 => ?_)
  refine J_goto (tgt := 14) dX12_nearest_61 (by decide) ?_
  exact J_cut [1, 2, 3, 0] (lv' := [(0, .ref (llAd G 69)), (1, .int v1), (2, .int v2), (3, .int v3_2)]) rfl (fun h => h)
def fx_X12_nearest_69_j56_b14 (u : llMem) (v1 : Int32) (v3 : Int32) : Option ((Int32 × Int32) ⊕ (Int32)) := fx_X12_nearest_69_j58_b14 u v1 v3 v3
set_option maxRecDepth 20000 in
theorem t_X12_nearest_69_j56_b14 {G : llG} {d : Nat} (u : llMem) (v1 : Int32) (v3 : Int32) : llJ G RX12 cX12_nearest 4 (some .int) (d + 4) (Sum.elim (fun s' => llJq G 4 14 [(0, .ref (llAd G 69)), (1, .int v1), (2, .int s'.1), (3, .int s'.2)] [] u) (fun e => llJq G 4 64 [(2, .int e)] [] u)) 56 [(0, .ref (llAd G 69)), (1, .int v1), (3, .int v3)] [] u (fx_X12_nearest_69_j56_b14 u v1 v3) := by
  unfold fx_X12_nearest_69_j56_b14
  refine J_iload_n (j := 2) dX12_nearest_56 rfl rfl ?_
  refine J_istore_n [(2, .int v3), (0, .ref (llAd G 69)), (1, .int v1), (3, .int v3)] dX12_nearest_57 rfl (by decide) rfl ?_
  refine J_sub [1, 2, 0, 3] (lv' := [(0, .ref (llAd G 69)), (1, .int v1), (2, .int v3), (3, .int v3)]) rfl ?_
  exact t_X12_nearest_69_j58_b14 u v1 v3 v3
def fx_X12_nearest_69_l14 (u : llMem) (v1 : Int32) (s : Int32 × Int32) : Option ((Int32 × Int32) ⊕ (Int32)) := (if (u.1 69 9) ≤ s.2 then some (.inr s.1) else (if s.2 = v1 then fx_X12_nearest_69_j58_b14 u v1 s.1 s.2 else (fx_X12_areTogether_69 u s.2 v1).bind (fun r3 => (if r3 = 0 then fx_X12_nearest_69_j58_b14 u v1 s.1 s.2 else (if s.1 = ((-1)) then fx_X12_nearest_69_j56_b14 u v1 s.2 else (fx_X12_miles_69 u s.2 v1).bind (fun r4 => (fx_X12_miles_69 u s.1 v1).bind (fun r5 => (if r5 ≤ r4 then fx_X12_nearest_69_j58_b14 u v1 s.1 s.2 else fx_X12_nearest_69_j56_b14 u v1 s.2))))))))
set_option maxRecDepth 20000 in
theorem t_X12_nearest_69_l14 {G : llG} {d : Nat} (u : llMem) (v1 : Int32) (s : Int32 × Int32) : llJ G RX12 cX12_nearest 4 (some .int) (d + 4) (Sum.elim (fun s' => llJq G 4 14 [(0, .ref (llAd G 69)), (1, .int v1), (2, .int s'.1), (3, .int s'.2)] [] u) (fun e => llJq G 4 64 [(2, .int e)] [] u)) 14 [(0, .ref (llAd G 69)), (1, .int v1), (2, .int s.1), (3, .int s.2)] [] u (fx_X12_nearest_69_l14 u v1 s) := by
  unfold fx_X12_nearest_69_l14
  refine J_iload_n (j := 3) dX12_nearest_14 rfl rfl ?_
  refine J_aload_n (j := 0) dX12_nearest_15 rfl rfl ?_
  refine J_getI dX12_nearest_16 fl_X12_263 sh_69 rfl ?_
  refine J_icmp_ge (tgt := 64) dX12_nearest_19 (by decide) ?_ ?_
  · exact J_cut [2] (lv' := [(2, .int s.1)]) rfl (fun h => h)
  · refine J_iload_n (j := 3) dX12_nearest_22 rfl rfl ?_
    refine J_iload_n (j := 1) dX12_nearest_23 rfl rfl ?_
    refine J_icmp_eq (tgt := 58) dX12_nearest_24 (by decide) ?_ ?_
    · refine J_sub [0, 1, 2, 3] (lv' := [(0, .ref (llAd G 69)), (1, .int v1), (2, .int s.1), (3, .int s.2)]) rfl ?_
      exact t_X12_nearest_69_j58_b14 u v1 s.1 s.2
    · refine J_aload_n (j := 0) dX12_nearest_27 rfl rfl ?_
      refine J_iload_n (j := 3) dX12_nearest_28 rfl rfl ?_
      refine J_iload_n (j := 1) dX12_nearest_29 rfl rfl ?_
      refine J_callVip2 dX12_nearest_30 (t_X12_areTogether_69 (llL G) (llFx G) d u s.2 v1) ym_X12_areTogether wd_1463 sh_69 rfl (Nat.le_of_ble_eq_true rfl) (fun r3 => ?_)
      refine J_if_eq (tgt := 58) dX12_nearest_33 (by decide) ?_ ?_
      · refine J_sub [0, 1, 2, 3] (lv' := [(0, .ref (llAd G 69)), (1, .int v1), (2, .int s.1), (3, .int s.2)]) rfl ?_
        exact t_X12_nearest_69_j58_b14 u v1 s.1 s.2
      · refine J_iload_n (j := 2) dX12_nearest_36 rfl rfl ?_
        refine J_iconst (v := (-1)) dX12_nearest_37 (by decide) ?_
        refine J_icmp_eq (tgt := 56) dX12_nearest_38 (by decide) ?_ ?_
        · refine J_sub [0, 1, 3] (lv' := [(0, .ref (llAd G 69)), (1, .int v1), (3, .int s.2)]) rfl ?_
          exact t_X12_nearest_69_j56_b14 u v1 s.2
        · refine J_aload_n (j := 0) dX12_nearest_41 rfl rfl ?_
          refine J_iload_n (j := 3) dX12_nearest_42 rfl rfl ?_
          refine J_iload_n (j := 1) dX12_nearest_43 rfl rfl ?_
          refine J_callVip2 dX12_nearest_44 (t_X12_miles_69 (llL G) (llFx G) (d + 3) u s.2 v1) ym_X12_miles wd_1577 sh_69 rfl (Nat.le_of_ble_eq_true rfl) (fun r4 => ?_)
          refine J_aload_n (j := 0) dX12_nearest_47 rfl rfl ?_
          refine J_iload_n (j := 2) dX12_nearest_48 rfl rfl ?_
          refine J_iload_n (j := 1) dX12_nearest_49 rfl rfl ?_
          refine J_callVip2 dX12_nearest_50 (t_X12_miles_69 (llL G) (llFx G) (d + 3) u s.1 v1) ym_X12_miles wd_1577 sh_69 rfl (Nat.le_of_ble_eq_true rfl) (fun r5 => ?_)
          refine J_icmp_ge (tgt := 58) dX12_nearest_53 (by decide) ?_ ?_
          · refine J_sub [0, 1, 2, 3] (lv' := [(0, .ref (llAd G 69)), (1, .int v1), (2, .int s.1), (3, .int s.2)]) rfl ?_
            exact t_X12_nearest_69_j58_b14 u v1 s.1 s.2
          · refine J_sub [0, 1, 3] (lv' := [(0, .ref (llAd G 69)), (1, .int v1), (3, .int s.2)]) rfl ?_
            exact t_X12_nearest_69_j56_b14 u v1 s.2
def fx_X12_nearest_69 (u : llMem) (a0 : Int32) : Option Int32 := (fx_X12_plays_69 u a0).bind (fun r1 => (if ¬ r1 = 0 then (loop (fx_X12_nearest_69_l14 u a0) llFuel ((-1), 0)).bind (fun e6 => some e6) else some ((-1))))
set_option maxRecDepth 20000 in
theorem tj_X12_nearest_69 {G : llG} {d : Nat} (u : llMem) (a0 : Int32) : llJ G RX12 cX12_nearest 4 (some .int) (d + 4) (fun r => llRet G (llI r) u) 0 [(0, .ref (llAd G 69)), (1, .int a0)] [] u (fx_X12_nearest_69 u a0) := by
  unfold fx_X12_nearest_69
  refine J_aload_n (j := 0) dX12_nearest_0 rfl rfl ?_
  refine J_iload_n (j := 1) dX12_nearest_1 rfl rfl ?_
  refine J_callVip1 dX12_nearest_2 (t_X12_plays_69 (llL G) (llFx G) (d + 1) u a0) ym_X12_plays wd_1467 sh_69 rfl (Nat.le_of_ble_eq_true rfl) (fun r1 => ?_)
  refine J_if_ne (tgt := 10) dX12_nearest_5 (by decide) ?_ ?_
  · refine J_iconst (v := (-1)) dX12_nearest_10 (by decide) ?_
    refine J_istore_n [(2, .int ((-1))), (0, .ref (llAd G 69)), (1, .int a0)] dX12_nearest_11 rfl (by decide) rfl ?_
    refine J_iconst (v := 0) dX12_nearest_12 (by decide) ?_
    refine J_istore_n [(3, .int 0), (2, .int ((-1))), (0, .ref (llAd G 69)), (1, .int a0)] dX12_nearest_13 rfl (by decide) rfl ?_
    refine J_loopE (fun s' => [(0, .ref (llAd G 69)), (1, .int a0), (2, .int s'.1), (3, .int s'.2)]) (fun s' => u) 64 (fun e => [(2, .int e)]) (fun e => u) (fun z => t_X12_nearest_69_l14 u a0 z) [2, 3, 1, 0] rfl rfl (fun e6 => ?_)
    refine J_iload_n (j := 0) dX12_nearest_64 rfl rfl ?_
    exact J_iret dX12_nearest_65 (fun h => h)
  · refine J_iconst (v := (-1)) dX12_nearest_8 (by decide) ?_
    exact J_iret dX12_nearest_9 (fun h => h)
theorem t_X12_nearest_69 (l : Launch) (F : llFix) (d : Nat) (u : llMem) (a0 : Int32) : llCp l F yX12_nearest cX12_nearest 4 (some .int) (d + 4) [.ref (F.2.2.1 69), .int a0] u llI (fx_X12_nearest_69 u a0) := llCp.of (by decide +kernel) (by exact Nat.le_of_ble_eq_true rfl) (fun G h1 h2 => by subst h1; subst h2; exact tj_X12_nearest_69 u a0)
def fx_X7_pointsFor (u : llMem) (a0 : Int32) (a1 : Int32) : Option Int32 := (if a0 = ((-1)) then some 0 else (if a1 ≤ a0 then (if a0 ≤ a1 then some 1 else some 3) else some 0))
set_option maxRecDepth 20000 in
theorem tj_X7_pointsFor {G : llG} {d : Nat} (u : llMem) (a0 : Int32) (a1 : Int32) : llJ G RX7 cX7_pointsFor 2 (some .int) d (fun r => llRet G (llI r) u) 0 [(0, .int a0), (1, .int a1)] [] u (fx_X7_pointsFor u a0 a1) := by
  unfold fx_X7_pointsFor
  refine J_iload_n (j := 0) dX7_pointsFor_0 rfl rfl ?_
  refine J_iconst (v := (-1)) dX7_pointsFor_1 (by decide) ?_
  refine J_icmp_eq (tgt := 10) dX7_pointsFor_2 (by decide) ?_ ?_
  · refine J_iconst (v := 0) dX7_pointsFor_10 (by decide) ?_
    exact J_iret dX7_pointsFor_11 (fun h => h)
  · refine J_iload_n (j := 0) dX7_pointsFor_5 rfl rfl ?_
    refine J_iload_n (j := 1) dX7_pointsFor_6 rfl rfl ?_
    refine J_icmp_ge (tgt := 12) dX7_pointsFor_7 (by decide) ?_ ?_
    · refine J_iload_n (j := 0) dX7_pointsFor_12 rfl rfl ?_
      refine J_iload_n (j := 1) dX7_pointsFor_13 rfl rfl ?_
      refine J_icmp_le (tgt := 21) dX7_pointsFor_14 (by decide) ?_ ?_
      · refine J_iconst (v := 1) dX7_pointsFor_21 (by decide) ?_
        exact J_iret dX7_pointsFor_22 (fun h => h)
      · refine J_iconst (v := 3) dX7_pointsFor_17 (by decide) ?_
        refine J_goto (tgt := 22) dX7_pointsFor_18 (by decide) ?_
        exact J_iret dX7_pointsFor_22 (fun h => h)
    · refine J_iconst (v := 0) dX7_pointsFor_10 (by decide) ?_
      exact J_iret dX7_pointsFor_11 (fun h => h)
theorem t_X7_pointsFor (l : Launch) (F : llFix) (d : Nat) (u : llMem) (a0 : Int32) (a1 : Int32) : llCp l F yX7_pointsFor cX7_pointsFor 2 (some .int) d [.int a0, .int a1] u llI (fx_X7_pointsFor u a0 a1) := llCp.of (by decide +kernel) (by exact Nat.le_of_ble_eq_true rfl) (fun G h1 h2 => by subst h1; subst h2; exact tj_X7_pointsFor u a0 a1)
def fx_X7_gotFrom_14 (u : llMem) (a0 : Int32) (a1 : Int32) : Option Int32 := (fx_X7_homeGoals_14 u a0 a1).bind (fun r1 => (fx_X7_awayGoals_14 u a0 a1).bind (fun r2 => (fx_X7_pointsFor u r1 r2).bind (fun r3 => (fx_X7_awayGoals_14 u a1 a0).bind (fun r4 => (fx_X7_homeGoals_14 u a1 a0).bind (fun r5 => (fx_X7_pointsFor u r4 r5).bind (fun r6 => some (r3 + r6)))))))
set_option maxRecDepth 20000 in
theorem tj_X7_gotFrom_14 {G : llG} {d : Nat} (u : llMem) (a0 : Int32) (a1 : Int32) : llJ G RX7 cX7_gotFrom 4 (some .int) (d + 2) (fun r => llRet G (llI r) u) 0 [(0, .ref (llAd G 14)), (1, .int a0), (2, .int a1)] [] u (fx_X7_gotFrom_14 u a0 a1) := by
  unfold fx_X7_gotFrom_14
  refine J_aload_n (j := 0) dX7_gotFrom_0 rfl rfl ?_
  refine J_iload_n (j := 1) dX7_gotFrom_1 rfl rfl ?_
  refine J_iload_n (j := 2) dX7_gotFrom_2 rfl rfl ?_
  refine J_callVip2 dX7_gotFrom_3 (t_X7_homeGoals_14 (llL G) (llFx G) d u a0 a1) ym_X7_homeGoals wd_643 sh_14 rfl (Nat.le_of_ble_eq_true rfl) (fun r1 => ?_)
  refine J_aload_n (j := 0) dX7_gotFrom_6 rfl rfl ?_
  refine J_iload_n (j := 1) dX7_gotFrom_7 rfl rfl ?_
  refine J_iload_n (j := 2) dX7_gotFrom_8 rfl rfl ?_
  refine J_callVip2 dX7_gotFrom_9 (t_X7_awayGoals_14 (llL G) (llFx G) d u a0 a1) ym_X7_awayGoals wd_651 sh_14 rfl (Nat.le_of_ble_eq_true rfl) (fun r2 => ?_)
  refine J_callSip2 dX7_gotFrom_12 (t_X7_pointsFor (llL G) (llFx G) (d + 1) u r1 r2) ym_X7_pointsFor wd_1082 (Nat.le_of_ble_eq_true rfl) (fun r3 => ?_)
  refine J_istore_n [(3, .int r3), (0, .ref (llAd G 14)), (1, .int a0), (2, .int a1)] dX7_gotFrom_15 rfl (by decide) rfl ?_
  refine J_iload_n (j := 0) dX7_gotFrom_16 rfl rfl ?_
  refine J_aload_n (j := 1) dX7_gotFrom_17 rfl rfl ?_
  refine J_iload_n (j := 3) dX7_gotFrom_18 rfl rfl ?_
  refine J_iload_n (j := 2) dX7_gotFrom_19 rfl rfl ?_
  refine J_callVip2 dX7_gotFrom_20 (t_X7_awayGoals_14 (llL G) (llFx G) d u a1 a0) ym_X7_awayGoals wd_651 sh_14 rfl (Nat.le_of_ble_eq_true rfl) (fun r4 => ?_)
  refine J_aload_n (j := 1) dX7_gotFrom_23 rfl rfl ?_
  refine J_iload_n (j := 3) dX7_gotFrom_24 rfl rfl ?_
  refine J_iload_n (j := 2) dX7_gotFrom_25 rfl rfl ?_
  refine J_callVip2 dX7_gotFrom_26 (t_X7_homeGoals_14 (llL G) (llFx G) d u a1 a0) ym_X7_homeGoals wd_643 sh_14 rfl (Nat.le_of_ble_eq_true rfl) (fun r5 => ?_)
  refine J_callSip2 dX7_gotFrom_29 (t_X7_pointsFor (llL G) (llFx G) (d + 1) u r4 r5) ym_X7_pointsFor wd_1082 (Nat.le_of_ble_eq_true rfl) (fun r6 => ?_)
  refine J_iadd dX7_gotFrom_32 ?_
  exact J_iret dX7_gotFrom_33 (fun h => h)
theorem t_X7_gotFrom_14 (l : Launch) (F : llFix) (d : Nat) (u : llMem) (a0 : Int32) (a1 : Int32) : llCp l F yX7_gotFrom cX7_gotFrom 4 (some .int) (d + 2) [.ref (F.2.2.1 14), .int a0, .int a1] u llI (fx_X7_gotFrom_14 u a0 a1) := llCp.of (by decide +kernel) (by exact Nat.le_of_ble_eq_true rfl) (fun G h1 h2 => by subst h1; subst h2; exact tj_X7_gotFrom_14 u a0 a1)
def fx_X11_versus_0 (u : llMem) (a0 : Int32) (a1 : Int32) : Option Int32 := (fx_X5_plays_3 u a0).bind (fun r1 => (if r1 = 0 then some ((-1)) else (fx_X5_plays_3 u a1).bind (fun r2 => (if r2 = 0 then some ((-1)) else (if ¬ a0 = a1 then (fx_X7_gotFrom_14 u a0 a1).bind (fun r3 => (fx_X7_gotFrom_14 u a1 a0).bind (fun r4 => some ((10 * r3) + r4))) else some ((-1)))))))
set_option maxRecDepth 20000 in
theorem tj_X11_versus_0 {G : llG} {d : Nat} (u : llMem) (a0 : Int32) (a1 : Int32) : llJ G RX11 cX11_versus 3 (some .int) (d + 3) (fun r => llRet G (llI r) u) 0 [(0, .ref (llAd G 0)), (1, .int a0), (2, .int a1)] [] u (fx_X11_versus_0 u a0 a1) := by
  unfold fx_X11_versus_0
  refine J_aload_n (j := 0) dX11_versus_0 rfl rfl ?_
  refine J_getR (b := 3) dX11_versus_1 fl_X11_19 sh_0 rfl ?_
  refine J_iload_n (j := 1) dX11_versus_4 rfl rfl ?_
  refine J_callVip1 dX11_versus_5 (t_X5_plays_3 (llL G) (llFx G) (d + 1) u a0) ym_X5_plays wd_725 sh_3 rfl (Nat.le_of_ble_eq_true rfl) (fun r1 => ?_)
  refine J_if_eq (tgt := 27) dX11_versus_8 (by decide) ?_ ?_
  · refine J_iconst (v := (-1)) dX11_versus_27 (by decide) ?_
    exact J_iret dX11_versus_28 (fun h => h)
  · refine J_aload_n (j := 0) dX11_versus_11 rfl rfl ?_
    refine J_getR (b := 3) dX11_versus_12 fl_X11_19 sh_0 rfl ?_
    refine J_iload_n (j := 2) dX11_versus_15 rfl rfl ?_
    refine J_callVip1 dX11_versus_16 (t_X5_plays_3 (llL G) (llFx G) (d + 1) u a1) ym_X5_plays wd_725 sh_3 rfl (Nat.le_of_ble_eq_true rfl) (fun r2 => ?_)
    refine J_if_eq (tgt := 27) dX11_versus_19 (by decide) ?_ ?_
    · refine J_iconst (v := (-1)) dX11_versus_27 (by decide) ?_
      exact J_iret dX11_versus_28 (fun h => h)
    · refine J_iload_n (j := 1) dX11_versus_22 rfl rfl ?_
      refine J_iload_n (j := 2) dX11_versus_23 rfl rfl ?_
      refine J_icmp_ne (tgt := 29) dX11_versus_24 (by decide) ?_ ?_
      · refine J_bipush (v := 10) dX11_versus_29 (by decide) ?_
        refine J_aload_n (j := 0) dX11_versus_31 rfl rfl ?_
        refine J_getR (b := 14) dX11_versus_32 fl_X11_26 sh_0 rfl ?_
        refine J_iload_n (j := 1) dX11_versus_35 rfl rfl ?_
        refine J_iload_n (j := 2) dX11_versus_36 rfl rfl ?_
        refine J_callVip2 dX11_versus_37 (t_X7_gotFrom_14 (llL G) (llFx G) d u a0 a1) ym_X7_gotFrom wd_1078 sh_14 rfl (Nat.le_of_ble_eq_true rfl) (fun r3 => ?_)
        refine J_imul dX11_versus_40 ?_
        refine J_aload_n (j := 0) dX11_versus_41 rfl rfl ?_
        refine J_getR (b := 14) dX11_versus_42 fl_X11_26 sh_0 rfl ?_
        refine J_iload_n (j := 2) dX11_versus_45 rfl rfl ?_
        refine J_iload_n (j := 1) dX11_versus_46 rfl rfl ?_
        refine J_callVip2 dX11_versus_47 (t_X7_gotFrom_14 (llL G) (llFx G) d u a1 a0) ym_X7_gotFrom wd_1078 sh_14 rfl (Nat.le_of_ble_eq_true rfl) (fun r4 => ?_)
        refine J_iadd dX11_versus_50 ?_
        exact J_iret dX11_versus_51 (fun h => h)
      · refine J_iconst (v := (-1)) dX11_versus_27 (by decide) ?_
        exact J_iret dX11_versus_28 (fun h => h)
theorem t_X11_versus_0 (l : Launch) (F : llFix) (d : Nat) (u : llMem) (a0 : Int32) (a1 : Int32) : llCp l F yX11_versus cX11_versus 3 (some .int) (d + 3) [.ref (F.2.2.1 0), .int a0, .int a1] u llI (fx_X11_versus_0 u a0 a1) := llCp.of (by decide +kernel) (by exact Nat.le_of_ble_eq_true rfl) (fun G h1 h2 => by subst h1; subst h2; exact tj_X11_versus_0 u a0 a1)
def fx_X12_versus_69_j124 (u : llMem) (v3 : Int32) (v4 : Int32) : Option Int32 := some ((10 * v3) + v4)
set_option maxRecDepth 20000 in
theorem t_X12_versus_69_j124 {G : llG} {d : Nat} (u : llMem) (v3 : Int32) (v4 : Int32) : llJ G RX12 cX12_versus 6 (some .int) (d + 3) (fun r => llRet G (llI r) u) 124 [(3, .int v3), (4, .int v4)] [] u (fx_X12_versus_69_j124 u v3 v4) := by
  unfold fx_X12_versus_69_j124
  refine J_bipush (v := 10) dX12_versus_124 (by decide) ?_
  refine J_iload_n (j := 0) dX12_versus_126 rfl rfl ?_
  refine J_imul dX12_versus_127 ?_
  refine J_iload (j := 1) dX12_versus_128 rfl ?_
  refine J_iadd dX12_versus_130 ?_
  exact J_iret dX12_versus_131 (fun h => h)
def fx_X12_gains (u : llMem) (a0 : Int32) (a1 : Int32) : Option Int32 := (if a0 ≤ a1 then (if ¬ a0 = a1 then some 0 else some 1) else some 3)
set_option maxRecDepth 20000 in
theorem tj_X12_gains {G : llG} {d : Nat} (u : llMem) (a0 : Int32) (a1 : Int32) : llJ G RX12 cX12_gains 2 (some .int) d (fun r => llRet G (llI r) u) 0 [(0, .int a0), (1, .int a1)] [] u (fx_X12_gains u a0 a1) := by
  unfold fx_X12_gains
  refine J_iload_n (j := 0) dX12_gains_0 rfl rfl ?_
  refine J_iload_n (j := 1) dX12_gains_1 rfl rfl ?_
  refine J_icmp_le (tgt := 9) dX12_gains_2 (by decide) ?_ ?_
  · refine J_iload_n (j := 0) dX12_gains_9 rfl rfl ?_
    refine J_iload_n (j := 1) dX12_gains_10 rfl rfl ?_
    refine J_icmp_ne (tgt := 18) dX12_gains_11 (by decide) ?_ ?_
    · refine J_iconst (v := 0) dX12_gains_18 (by decide) ?_
      exact J_iret dX12_gains_19 (fun h => h)
    · refine J_iconst (v := 1) dX12_gains_14 (by decide) ?_
      refine J_goto (tgt := 19) dX12_gains_15 (by decide) ?_
      exact J_iret dX12_gains_19 (fun h => h)
  · refine J_iconst (v := 3) dX12_gains_5 (by decide) ?_
    refine J_goto (tgt := 19) dX12_gains_6 (by decide) ?_
    exact J_iret dX12_gains_19 (fun h => h)
theorem t_X12_gains (l : Launch) (F : llFix) (d : Nat) (u : llMem) (a0 : Int32) (a1 : Int32) : llCp l F yX12_gains cX12_gains 2 (some .int) d [.int a0, .int a1] u llI (fx_X12_gains u a0 a1) := llCp.of (by decide +kernel) (by exact Nat.le_of_ble_eq_true rfl) (fun G h1 h2 => by subst h1; subst h2; exact tj_X12_gains u a0 a1)
def fx_X12_versus_69_j76 (u : llMem) (v1 : Int32) (v2 : Int32) (v3 : Int32) (v4 : Int32) : Option Int32 := (fx_X12_goalsAt_69 u v2 v1).bind (fun r4 => (if r4 = ((-1)) then fx_X12_versus_69_j124 u v3 v4 else gZ 100 (gZ 100 ((fx_X12_gains u (r4 - r4 / 100 * 100) (r4 / 100)).bind (fun r5 => lt (v3 + r5) (fun v3_6 => gZ 100 (gZ 100 ((fx_X12_gains u (r4 / 100) (r4 - r4 / 100 * 100)).bind (fun r7 => lt (v4 + r7) (fun v4_8 => fx_X12_versus_69_j124 u v3_6 v4_8))))))))))
set_option maxRecDepth 20000 in
theorem t_X12_versus_69_j76 {G : llG} {d : Nat} (u : llMem) (v1 : Int32) (v2 : Int32) (v3 : Int32) (v4 : Int32) : llJ G RX12 cX12_versus 6 (some .int) (d + 3) (fun r => llRet G (llI r) u) 76 [(0, .ref (llAd G 69)), (1, .int v1), (2, .int v2), (3, .int v3), (4, .int v4)] [] u (fx_X12_versus_69_j76 u v1 v2 v3 v4) := by
  unfold fx_X12_versus_69_j76
  refine J_aload_n (j := 0) dX12_versus_76 rfl rfl ?_
  refine J_iload_n (j := 2) dX12_versus_77 rfl rfl ?_
  refine J_iload_n (j := 1) dX12_versus_78 rfl rfl ?_
  refine J_callVip2 dX12_versus_79 (t_X12_goalsAt_69 (llL G) (llFx G) (d + 2) u v2 v1) ym_X12_goalsAt wd_1529 sh_69 rfl (Nat.le_of_ble_eq_true rfl) (fun r4 => ?_)
  refine J_istore [(5, .int r4), (0, .ref (llAd G 69)), (1, .int v1), (2, .int v2), (3, .int v3), (4, .int v4)] dX12_versus_82 (by decide) rfl ?_
  refine J_iload (j := 0) dX12_versus_84 rfl ?_
  refine J_iconst (v := (-1)) dX12_versus_86 (by decide) ?_
  refine J_icmp_eq (tgt := 124) dX12_versus_87 (by decide) ?_ ?_
  · refine J_sub [4, 5] (lv' := [(3, .int v3), (4, .int v4)]) rfl ?_
    exact t_X12_versus_69_j124 u v3 v4
  · refine J_iload_n (j := 4) dX12_versus_90 rfl rfl ?_
    refine J_iload (j := 0) dX12_versus_91 rfl ?_
    refine J_bipush (v := 100) dX12_versus_93 (by decide) ?_
    refine J_irem dX12_versus_95 ?_
    refine J_iload (j := 0) dX12_versus_96 rfl ?_
    refine J_bipush (v := 100) dX12_versus_98 (by decide) ?_
    refine J_idiv dX12_versus_100 ?_
    refine J_callSip2 dX12_versus_101 (t_X12_gains (llL G) (llFx G) (d + 2) u (r4 - r4 / 100 * 100) (r4 / 100)) ym_X12_gains wd_1706 (Nat.le_of_ble_eq_true rfl) (fun r5 => ?_)
    refine J_iadd dX12_versus_104 ?_
    refine J_istore_nL (fun v3_6 => [(3, .int v3_6), (5, .int r4), (0, .ref (llAd G 69)), (1, .int v1), (2, .int v2), (4, .int v4)]) dX12_versus_105 rfl (by decide) (fun _ => rfl) (fun v3_6 => ?_)
    refine J_iload (j := 5) dX12_versus_106 rfl ?_
    refine J_iload (j := 1) dX12_versus_108 rfl ?_
    refine J_bipush (v := 100) dX12_versus_110 (by decide) ?_
    refine J_idiv dX12_versus_112 ?_
    refine J_iload (j := 1) dX12_versus_113 rfl ?_
    refine J_bipush (v := 100) dX12_versus_115 (by decide) ?_
    refine J_irem dX12_versus_117 ?_
    refine J_callSip2 dX12_versus_118 (t_X12_gains (llL G) (llFx G) (d + 2) u (r4 / 100) (r4 - r4 / 100 * 100)) ym_X12_gains wd_1706 (Nat.le_of_ble_eq_true rfl) (fun r7 => ?_)
    refine J_iadd dX12_versus_121 ?_
    refine J_istoreL (fun v4_8 => [(4, .int v4_8), (3, .int v3_6), (5, .int r4), (0, .ref (llAd G 69)), (1, .int v1), (2, .int v2)]) dX12_versus_122 (by decide) (fun _ => rfl) (fun v4_8 => ?_)
    refine J_sub [1, 0] (lv' := [(3, .int v3_6), (4, .int v4_8)]) rfl ?_
    exact t_X12_versus_69_j124 u v3_6 v4_8
def fx_X12_versus_69 (u : llMem) (a0 : Int32) (a1 : Int32) : Option Int32 := (fx_X12_plays_69 u a0).bind (fun r1 => (if r1 = 0 then some ((-1)) else (fx_X12_plays_69 u a1).bind (fun r2 => (if r2 = 0 then some ((-1)) else (if ¬ a0 = a1 then (fx_X12_goalsAt_69 u a0 a1).bind (fun r3 => (if r3 = ((-1)) then fx_X12_versus_69_j76 u a0 a1 0 0 else gZ 100 (gZ 100 ((fx_X12_gains u (r3 / 100) (r3 - r3 / 100 * 100)).bind (fun r9 => lt (0 + r9) (fun v3_10 => gZ 100 (gZ 100 ((fx_X12_gains u (r3 - r3 / 100 * 100) (r3 / 100)).bind (fun r11 => lt (0 + r11) (fun v4_12 => fx_X12_versus_69_j76 u a0 a1 v3_10 v4_12)))))))))) else some ((-1)))))))
set_option maxRecDepth 20000 in
theorem tj_X12_versus_69 {G : llG} {d : Nat} (u : llMem) (a0 : Int32) (a1 : Int32) : llJ G RX12 cX12_versus 6 (some .int) (d + 3) (fun r => llRet G (llI r) u) 0 [(0, .ref (llAd G 69)), (1, .int a0), (2, .int a1)] [] u (fx_X12_versus_69 u a0 a1) := by
  unfold fx_X12_versus_69
  refine J_aload_n (j := 0) dX12_versus_0 rfl rfl ?_
  refine J_iload_n (j := 1) dX12_versus_1 rfl rfl ?_
  refine J_callVip1 dX12_versus_2 (t_X12_plays_69 (llL G) (llFx G) d u a0) ym_X12_plays wd_1467 sh_69 rfl (Nat.le_of_ble_eq_true rfl) (fun r1 => ?_)
  refine J_if_eq (tgt := 21) dX12_versus_5 (by decide) ?_ ?_
  · refine J_iconst (v := (-1)) dX12_versus_21 (by decide) ?_
    exact J_iret dX12_versus_22 (fun h => h)
  · refine J_aload_n (j := 0) dX12_versus_8 rfl rfl ?_
    refine J_iload_n (j := 2) dX12_versus_9 rfl rfl ?_
    refine J_callVip1 dX12_versus_10 (t_X12_plays_69 (llL G) (llFx G) d u a1) ym_X12_plays wd_1467 sh_69 rfl (Nat.le_of_ble_eq_true rfl) (fun r2 => ?_)
    refine J_if_eq (tgt := 21) dX12_versus_13 (by decide) ?_ ?_
    · refine J_iconst (v := (-1)) dX12_versus_21 (by decide) ?_
      exact J_iret dX12_versus_22 (fun h => h)
    · refine J_iload_n (j := 1) dX12_versus_16 rfl rfl ?_
      refine J_iload_n (j := 2) dX12_versus_17 rfl rfl ?_
      refine J_icmp_ne (tgt := 23) dX12_versus_18 (by decide) ?_ ?_
      · refine J_iconst (v := 0) dX12_versus_23 (by decide) ?_
        refine J_istore_n [(3, .int 0), (0, .ref (llAd G 69)), (1, .int a0), (2, .int a1)] dX12_versus_24 rfl (by decide) rfl ?_
        refine J_iconst (v := 0) dX12_versus_25 (by decide) ?_
        refine J_istore [(4, .int 0), (3, .int 0), (0, .ref (llAd G 69)), (1, .int a0), (2, .int a1)] dX12_versus_26 (by decide) rfl ?_
        refine J_aload_n (j := 2) dX12_versus_28 rfl rfl ?_
        refine J_iload_n (j := 3) dX12_versus_29 rfl rfl ?_
        refine J_iload_n (j := 4) dX12_versus_30 rfl rfl ?_
        refine J_callVip2 dX12_versus_31 (t_X12_goalsAt_69 (llL G) (llFx G) (d + 2) u a0 a1) ym_X12_goalsAt wd_1529 sh_69 rfl (Nat.le_of_ble_eq_true rfl) (fun r3 => ?_)
        refine J_istore [(5, .int r3), (4, .int 0), (3, .int 0), (0, .ref (llAd G 69)), (1, .int a0), (2, .int a1)] dX12_versus_34 (by decide) rfl ?_
        refine J_iload (j := 0) dX12_versus_36 rfl ?_
        refine J_iconst (v := (-1)) dX12_versus_38 (by decide) ?_
        refine J_icmp_eq (tgt := 76) dX12_versus_39 (by decide) ?_ ?_
        · refine J_sub [3, 4, 5, 2, 1] (lv' := [(0, .ref (llAd G 69)), (1, .int a0), (2, .int a1), (3, .int 0), (4, .int 0)]) rfl ?_
          exact t_X12_versus_69_j76 u a0 a1 0 0
        · refine J_iload_n (j := 2) dX12_versus_42 rfl rfl ?_
          refine J_iload (j := 0) dX12_versus_43 rfl ?_
          refine J_bipush (v := 100) dX12_versus_45 (by decide) ?_
          refine J_idiv dX12_versus_47 ?_
          refine J_iload (j := 0) dX12_versus_48 rfl ?_
          refine J_bipush (v := 100) dX12_versus_50 (by decide) ?_
          refine J_irem dX12_versus_52 ?_
          refine J_callSip2 dX12_versus_53 (t_X12_gains (llL G) (llFx G) (d + 2) u (r3 / 100) (r3 - r3 / 100 * 100)) ym_X12_gains wd_1706 (Nat.le_of_ble_eq_true rfl) (fun r9 => ?_)
          refine J_iadd dX12_versus_56 ?_
          refine J_istore_nL (fun v3_10 => [(3, .int v3_10), (5, .int r3), (4, .int 0), (0, .ref (llAd G 69)), (1, .int a0), (2, .int a1)]) dX12_versus_57 rfl (by decide) (fun _ => rfl) (fun v3_10 => ?_)
          refine J_iload (j := 2) dX12_versus_58 rfl ?_
          refine J_iload (j := 1) dX12_versus_60 rfl ?_
          refine J_bipush (v := 100) dX12_versus_62 (by decide) ?_
          refine J_irem dX12_versus_64 ?_
          refine J_iload (j := 1) dX12_versus_65 rfl ?_
          refine J_bipush (v := 100) dX12_versus_67 (by decide) ?_
          refine J_idiv dX12_versus_69 ?_
          refine J_callSip2 dX12_versus_70 (t_X12_gains (llL G) (llFx G) (d + 2) u (r3 - r3 / 100 * 100) (r3 / 100)) ym_X12_gains wd_1706 (Nat.le_of_ble_eq_true rfl) (fun r11 => ?_)
          refine J_iadd dX12_versus_73 ?_
          refine J_istoreL (fun v4_12 => [(4, .int v4_12), (3, .int v3_10), (5, .int r3), (0, .ref (llAd G 69)), (1, .int a0), (2, .int a1)]) dX12_versus_74 (by decide) (fun _ => rfl) (fun v4_12 => ?_)
          refine J_sub [3, 4, 5, 1, 0] (lv' := [(0, .ref (llAd G 69)), (1, .int a0), (2, .int a1), (3, .int v3_10), (4, .int v4_12)]) rfl ?_
          exact t_X12_versus_69_j76 u a0 a1 v3_10 v4_12
      · refine J_iconst (v := (-1)) dX12_versus_21 (by decide) ?_
        exact J_iret dX12_versus_22 (fun h => h)
theorem t_X12_versus_69 (l : Launch) (F : llFix) (d : Nat) (u : llMem) (a0 : Int32) (a1 : Int32) : llCp l F yX12_versus cX12_versus 6 (some .int) (d + 3) [.ref (F.2.2.1 69), .int a0, .int a1] u llI (fx_X12_versus_69 u a0 a1) := llCp.of (by decide +kernel) (by exact Nat.le_of_ble_eq_true rfl) (fun G h1 h2 => by subst h1; subst h2; exact tj_X12_versus_69 u a0 a1)
def fx_X10_strangersOf_48_j65_b20_b9 (u : llMem) (v1 : Int32) (v2 : Int32) (v3 : Int32) (v4 : Int32) : Option ((Int32 × Int32) ⊕ (Int32)) := lt (v4 + 1) (fun v4_5 => some (.inl (v2, v4_5)))
set_option maxRecDepth 20000 in
theorem t_X10_strangersOf_48_j65_b20_b9 {G : llG} {d : Nat} (u : llMem) (v1 : Int32) (v2 : Int32) (v3 : Int32) (v4 : Int32) : llJ G RX10 cX10_strangersOf 5 (some .int) (d + 3) (Sum.elim (fun s' => llJq G 5 20 [(0, .ref (llAd G 48)), (1, .int v1), (2, .int s'.1), (3, .int v3), (4, .int s'.2)] [] u) (fun e => llJq G 5 71 [(0, .ref (llAd G 48)), (1, .int v1), (2, .int e), (3, .int v3)] [] u)) 65 [(0, .ref (llAd G 48)), (1, .int v1), (2, .int v2), (3, .int v3), (4, .int v4)] [] u (fx_X10_strangersOf_48_j65_b20_b9 u v1 v2 v3 v4) := by
  unfold fx_X10_strangersOf_48_j65_b20_b9
  refine J_iinc (j := 4) (b := 1) (fun v4_5 => [(4, .int v4_5), (0, .ref (llAd G 48)), (1, .int v1), (2, .int v2), (3, .int v3)]) dX10_strangersOf_65 rfl (by decide) (by decide) (fun _ => rfl) (fun v4_5 => ?_)
  refine J_goto (tgt := 20) dX10_strangersOf_68 (by decide) ?_
  exact J_cut [1, 2, 3, 4, 0] (lv' := [(0, .ref (llAd G 48)), (1, .int v1), (2, .int v2), (3, .int v3), (4, .int v4_5)]) rfl (fun h => h)
def fx_X10_strangersOf_48_l20_b9 (u : llMem) (v1 : Int32) (v3 : Int32) (s : Int32 × Int32) : Option ((Int32 × Int32) ⊕ (Int32)) := gI v1 4 ((if (rI u 4 v1) ≤ s.2 then some (.inr s.1) else (fx_X10_farFrom_48 u v3 s.2).bind (fun r2 => (fx_X10_divisionOf_48 u v3).bind (fun r3 => (fx_X10_farFrom_48 u v3 r3).bind (fun r4 => (if r4 ≤ r2 then fx_X10_strangersOf_48_j65_b20_b9 u v1 s.1 v3 s.2 else gI v3 12 (lt (s.1 ||| (1 <<< ((rI u 50 v3) &&& 31))) (fun v2_6 => fx_X10_strangersOf_48_j65_b20_b9 u v1 v2_6 v3 s.2))))))))
set_option maxRecDepth 20000 in
theorem t_X10_strangersOf_48_l20_b9 {G : llG} {d : Nat} (u : llMem) (v1 : Int32) (v3 : Int32) (s : Int32 × Int32) : llJ G RX10 cX10_strangersOf 5 (some .int) (d + 3) (Sum.elim (fun s' => llJq G 5 20 [(0, .ref (llAd G 48)), (1, .int v1), (2, .int s'.1), (3, .int v3), (4, .int s'.2)] [] u) (fun e => llJq G 5 71 [(0, .ref (llAd G 48)), (1, .int v1), (2, .int e), (3, .int v3)] [] u)) 20 [(0, .ref (llAd G 48)), (1, .int v1), (2, .int s.1), (3, .int v3), (4, .int s.2)] [] u (fx_X10_strangersOf_48_l20_b9 u v1 v3 s) := by
  unfold fx_X10_strangersOf_48_l20_b9
  refine J_iload (j := 4) dX10_strangersOf_20 rfl ?_
  refine J_aload_n (j := 0) dX10_strangersOf_22 rfl rfl ?_
  refine J_getR (b := 3) dX10_strangersOf_23 fl_X10_9 sh_48 rfl ?_
  refine J_getR (b := 4) dX10_strangersOf_26 fl_X10_53 sh_3 rfl ?_
  refine J_iload_n (j := 1) dX10_strangersOf_29 rfl rfl ?_
  refine J_iald dX10_strangersOf_30 sh_4 ?_
  refine J_icmp_ge (tgt := 71) dX10_strangersOf_31 (by decide) ?_ ?_
  · exact J_cut [0, 1, 2, 3] (lv' := [(0, .ref (llAd G 48)), (1, .int v1), (2, .int s.1), (3, .int v3)]) rfl (fun h => h)
  · refine J_aload_n (j := 0) dX10_strangersOf_34 rfl rfl ?_
    refine J_iload_n (j := 3) dX10_strangersOf_35 rfl rfl ?_
    refine J_iload (j := 4) dX10_strangersOf_36 rfl ?_
    refine J_callVip2 dX10_strangersOf_38 (t_X10_farFrom_48 (llL G) (llFx G) (d + 2) u v3 s.2) ym_X10_farFrom wd_1020 sh_48 rfl (Nat.le_of_ble_eq_true rfl) (fun r2 => ?_)
    refine J_aload_n (j := 0) dX10_strangersOf_41 rfl rfl ?_
    refine J_iload_n (j := 3) dX10_strangersOf_42 rfl rfl ?_
    refine J_aload_n (j := 0) dX10_strangersOf_43 rfl rfl ?_
    refine J_iload_n (j := 3) dX10_strangersOf_44 rfl rfl ?_
    refine J_callVip1 dX10_strangersOf_45 (t_X10_divisionOf_48 (llL G) (llFx G) (d + 2) u v3) ym_X10_divisionOf wd_1012 sh_48 rfl (Nat.le_of_ble_eq_true rfl) (fun r3 => ?_)
    refine J_callVip2 dX10_strangersOf_48 (t_X10_farFrom_48 (llL G) (llFx G) (d + 2) u v3 r3) ym_X10_farFrom wd_1020 sh_48 rfl (Nat.le_of_ble_eq_true rfl) (fun r4 => ?_)
    refine J_icmp_ge (tgt := 65) dX10_strangersOf_51 (by decide) ?_ ?_
    · refine J_sub [0, 1, 2, 3, 4] (lv' := [(0, .ref (llAd G 48)), (1, .int v1), (2, .int s.1), (3, .int v3), (4, .int s.2)]) rfl ?_
      exact t_X10_strangersOf_48_j65_b20_b9 u v1 s.1 v3 s.2
    · refine J_iload_n (j := 2) dX10_strangersOf_54 rfl rfl ?_
      refine J_iconst (v := 1) dX10_strangersOf_55 (by decide) ?_
      refine J_aload_n (j := 0) dX10_strangersOf_56 rfl rfl ?_
      refine J_getR (b := 50) dX10_strangersOf_57 fl_X10_19 sh_48 rfl ?_
      refine J_iload_n (j := 3) dX10_strangersOf_60 rfl rfl ?_
      refine J_iald dX10_strangersOf_61 sh_50 ?_
      refine J_ishl dX10_strangersOf_62 ?_
      refine J_ior dX10_strangersOf_63 ?_
      refine J_istore_nL (fun v2_6 => [(2, .int v2_6), (0, .ref (llAd G 48)), (1, .int v1), (3, .int v3), (4, .int s.2)]) dX10_strangersOf_64 rfl (by decide) (fun _ => rfl) (fun v2_6 => ?_)
      refine J_sub [1, 2, 0, 3, 4] (lv' := [(0, .ref (llAd G 48)), (1, .int v1), (2, .int v2_6), (3, .int v3), (4, .int s.2)]) rfl ?_
      exact t_X10_strangersOf_48_j65_b20_b9 u v1 v2_6 v3 s.2
def fx_X10_strangersOf_48_l9 (u : llMem) (v1 : Int32) (s : Int32 × Int32) : Option ((Int32 × Int32) ⊕ (Int32)) := (if (u.1 48 2) ≤ s.2 then some (.inr s.1) else (loop (fx_X10_strangersOf_48_l20_b9 u v1 s.2) llFuel (s.1, 0)).bind (fun e7 => lt (s.2 + 1) (fun v3_8 => some (.inl (e7, v3_8)))))
set_option maxRecDepth 20000 in
theorem t_X10_strangersOf_48_l9 {G : llG} {d : Nat} (u : llMem) (v1 : Int32) (s : Int32 × Int32) : llJ G RX10 cX10_strangersOf 5 (some .int) (d + 3) (Sum.elim (fun s' => llJq G 5 9 [(0, .ref (llAd G 48)), (1, .int v1), (2, .int s'.1), (3, .int s'.2)] [] u) (fun e => llJq G 5 77 [(2, .int e)] [] u)) 9 [(0, .ref (llAd G 48)), (1, .int v1), (2, .int s.1), (3, .int s.2)] [] u (fx_X10_strangersOf_48_l9 u v1 s) := by
  unfold fx_X10_strangersOf_48_l9
  refine J_iload_n (j := 3) dX10_strangersOf_9 rfl rfl ?_
  refine J_aload_n (j := 0) dX10_strangersOf_10 rfl rfl ?_
  refine J_getI dX10_strangersOf_11 fl_X10_63 sh_48 rfl ?_
  refine J_icmp_ge (tgt := 77) dX10_strangersOf_14 (by decide) ?_ ?_
  · exact J_cut [2] (lv' := [(2, .int s.1)]) rfl (fun h => h)
  · refine J_iconst (v := 0) dX10_strangersOf_17 (by decide) ?_
    refine J_istore [(4, .int 0), (0, .ref (llAd G 48)), (1, .int v1), (2, .int s.1), (3, .int s.2)] dX10_strangersOf_18 (by decide) rfl ?_
    refine J_loopE (fun s' => [(0, .ref (llAd G 48)), (1, .int v1), (2, .int s'.1), (3, .int s.2), (4, .int s'.2)]) (fun s' => u) 71 (fun e => [(0, .ref (llAd G 48)), (1, .int v1), (2, .int e), (3, .int s.2)]) (fun e => u) (fun z => t_X10_strangersOf_48_l20_b9 u v1 s.2 z) [1, 2, 3, 4, 0] rfl rfl (fun e7 => ?_)
    refine J_iinc (j := 3) (b := 1) (fun v3_8 => [(3, .int v3_8), (0, .ref (llAd G 48)), (1, .int v1), (2, .int e7)]) dX10_strangersOf_71 rfl (by decide) (by decide) (fun _ => rfl) (fun v3_8 => ?_)
    refine J_goto (tgt := 9) dX10_strangersOf_74 (by decide) ?_
    exact J_cut [1, 2, 3, 0] (lv' := [(0, .ref (llAd G 48)), (1, .int v1), (2, .int e7), (3, .int v3_8)]) rfl (fun h => h)
def fx_X10_strangersOf_48 (u : llMem) (a0 : Int32) : Option (llMem × Int32) := bd (fx_X10_survey_48 u a0) (fun u1 _ => (loop (fx_X10_strangersOf_48_l9 u1 a0) llFuel (0, 0)).bind (fun e9 => some (u1, e9)))
set_option maxRecDepth 20000 in
theorem tj_X10_strangersOf_48 {G : llG} {d : Nat} (u : llMem) (a0 : Int32) : llJ G RX10 cX10_strangersOf 5 (some .int) (d + 3) (fun r => llRet G (llI r.2) r.1) 0 [(0, .ref (llAd G 48)), (1, .int a0)] [] u (fx_X10_strangersOf_48 u a0) := by
  unfold fx_X10_strangersOf_48
  refine J_aload_n (j := 0) dX10_strangersOf_0 rfl rfl ?_
  refine J_iload_n (j := 1) dX10_strangersOf_1 rfl rfl ?_
  refine J_callVv1 dX10_strangersOf_2 (t_X10_survey_48 (llL G) (llFx G) d u a0) ym_X10_survey wd_1007 sh_48 rfl (Nat.le_of_ble_eq_true rfl) (fun u1 => ?_)
  refine J_iconst (v := 0) dX10_strangersOf_5 (by decide) ?_
  refine J_istore_n [(2, .int 0), (0, .ref (llAd G 48)), (1, .int a0)] dX10_strangersOf_6 rfl (by decide) rfl ?_
  refine J_iconst (v := 0) dX10_strangersOf_7 (by decide) ?_
  refine J_istore_n [(3, .int 0), (2, .int 0), (0, .ref (llAd G 48)), (1, .int a0)] dX10_strangersOf_8 rfl (by decide) rfl ?_
  refine J_loopE (fun s' => [(0, .ref (llAd G 48)), (1, .int a0), (2, .int s'.1), (3, .int s'.2)]) (fun s' => u1) 77 (fun e => [(2, .int e)]) (fun e => u1) (fun z => t_X10_strangersOf_48_l9 u1 a0 z) [2, 3, 1, 0] rfl rfl (fun e9 => ?_)
  refine J_iload_n (j := 0) dX10_strangersOf_77 rfl rfl ?_
  exact J_iret dX10_strangersOf_78 (fun h => h)
theorem t_X10_strangersOf_48 (l : Launch) (F : llFix) (d : Nat) (u : llMem) (a0 : Int32) : llCt l F yX10_strangersOf cX10_strangersOf 5 (some .int) (d + 3) [.ref (F.2.2.1 48), .int a0] u llI (fx_X10_strangersOf_48 u a0) := llCt.of (by decide +kernel) (by exact Nat.le_of_ble_eq_true rfl) (fun G h1 h2 => by subst h1; subst h2; exact tj_X10_strangersOf_48 u a0)
def fx_X11_strangers_0 (u : llMem) (a0 : Int32) : Option (llMem × Int32) := (fx_X5_hasLevel_3 u a0).bind (fun r1 => (if r1 = 0 then some (u, (-1)) else bd (fx_X10_strangersOf_48 u a0) (fun u2 r3 => some (u2, r3))))
set_option maxRecDepth 20000 in
theorem tj_X11_strangers_0 {G : llG} {d : Nat} (u : llMem) (a0 : Int32) : llJ G RX11 cX11_strangers 2 (some .int) (d + 4) (fun r => llRet G (llI r.2) r.1) 0 [(0, .ref (llAd G 0)), (1, .int a0)] [] u (fx_X11_strangers_0 u a0) := by
  unfold fx_X11_strangers_0
  refine J_aload_n (j := 0) dX11_strangers_0 rfl rfl ?_
  refine J_getR (b := 3) dX11_strangers_1 fl_X11_19 sh_0 rfl ?_
  refine J_iload_n (j := 1) dX11_strangers_4 rfl rfl ?_
  refine J_callVip1 dX11_strangers_5 (t_X5_hasLevel_3 (llL G) (llFx G) (d + 3) u a0) ym_X5_hasLevel wd_956 sh_3 rfl (Nat.le_of_ble_eq_true rfl) (fun r1 => ?_)
  refine J_if_eq (tgt := 22) dX11_strangers_8 (by decide) ?_ ?_
  · refine J_iconst (v := (-1)) dX11_strangers_22 (by decide) ?_
    exact J_iret dX11_strangers_23 (fun h => h)
  · refine J_aload_n (j := 0) dX11_strangers_11 rfl rfl ?_
    refine J_getR (b := 48) dX11_strangers_12 fl_X11_69 sh_0 rfl ?_
    refine J_iload_n (j := 1) dX11_strangers_15 rfl rfl ?_
    refine J_callVi1 dX11_strangers_16 (t_X10_strangersOf_48 (llL G) (llFx G) d u a0) ym_X10_strangersOf wd_1089 sh_48 rfl (Nat.le_of_ble_eq_true rfl) (fun u2 r3 => ?_)
    refine J_goto (tgt := 23) dX11_strangers_19 (by decide) ?_
    exact J_iret dX11_strangers_23 (fun h => h)
theorem t_X11_strangers_0 (l : Launch) (F : llFix) (d : Nat) (u : llMem) (a0 : Int32) : llCt l F yX11_strangers cX11_strangers 2 (some .int) (d + 4) [.ref (F.2.2.1 0), .int a0] u llI (fx_X11_strangers_0 u a0) := llCt.of (by decide +kernel) (by exact Nat.le_of_ble_eq_true rfl) (fun G h1 h2 => by subst h1; subst h2; exact tj_X11_strangers_0 u a0)
def fx_X12_strangers_69_j97_b28_b14 (u : llMem) (v1 : Int32) (v2 : Int32) (v3 : Int32) (v5 : Int32) (t0 : Int32) : Option ((Int32 × Int32) ⊕ (Int32)) := lt (v5 + 1) (fun v5_2 => some (.inl (t0, v5_2)))
set_option maxRecDepth 20000 in
theorem t_X12_strangers_69_j97_b28_b14 {G : llG} {d : Nat} (u : llMem) (v1 : Int32) (v2 : Int32) (v3 : Int32) (v5 : Int32) (t0 : Int32) : llJ G RX12 cX12_strangers 6 (some .int) (d + 2) (Sum.elim (fun s' => llJq G 6 28 [(0, .ref (llAd G 69)), (1, .int v1), (2, .int v2), (3, .int v3), (4, .int s'.1), (5, .int s'.2)] [] u) (fun e => llJq G 6 105 [(0, .ref (llAd G 69)), (1, .int v1), (2, .int v2), (3, .int v3), (4, .int e)] [] u)) 97 [(0, .ref (llAd G 69)), (1, .int v1), (2, .int v2), (3, .int v3), (5, .int v5)] [.int t0] u (fx_X12_strangers_69_j97_b28_b14 u v1 v2 v3 v5 t0) := by
  unfold fx_X12_strangers_69_j97_b28_b14
  refine J_istore [(4, .int t0), (0, .ref (llAd G 69)), (1, .int v1), (2, .int v2), (3, .int v3), (5, .int v5)] dX12_strangers_97 (by decide) rfl ?_
  refine J_iinc (j := 5) (b := 1) (fun v5_2 => [(5, .int v5_2), (4, .int t0), (0, .ref (llAd G 69)), (1, .int v1), (2, .int v2), (3, .int v3)]) dX12_strangers_99 rfl (by decide) (by decide) (fun _ => rfl) (fun v5_2 => ?_)
  refine J_goto (tgt := 28) dX12_strangers_102 (by decide) ?_
  exact J_cut [2, 3, 4, 5, 1, 0] (lv' := [(0, .ref (llAd G 69)), (1, .int v1), (2, .int v2), (3, .int v3), (4, .int t0), (5, .int v5_2)]) rfl (fun h => h)
def fx_X12_strangers_69_j92_b28_b14 (u : llMem) (v1 : Int32) (v2 : Int32) (v3 : Int32) (v5 : Int32) : Option ((Int32 × Int32) ⊕ (Int32)) := fx_X12_strangers_69_j97_b28_b14 u v1 v2 v3 v5 1
set_option maxRecDepth 20000 in
theorem t_X12_strangers_69_j92_b28_b14 {G : llG} {d : Nat} (u : llMem) (v1 : Int32) (v2 : Int32) (v3 : Int32) (v5 : Int32) : llJ G RX12 cX12_strangers 6 (some .int) (d + 2) (Sum.elim (fun s' => llJq G 6 28 [(0, .ref (llAd G 69)), (1, .int v1), (2, .int v2), (3, .int v3), (4, .int s'.1), (5, .int s'.2)] [] u) (fun e => llJq G 6 105 [(0, .ref (llAd G 69)), (1, .int v1), (2, .int v2), (3, .int v3), (4, .int e)] [] u)) 92 [(0, .ref (llAd G 69)), (1, .int v1), (2, .int v2), (3, .int v3), (5, .int v5)] [] u (fx_X12_strangers_69_j92_b28_b14 u v1 v2 v3 v5) := by
  unfold fx_X12_strangers_69_j92_b28_b14
  refine J_iconst (v := 1) dX12_strangers_92 (by decide) ?_
  refine J_goto (tgt := 97) dX12_strangers_93 (by decide) ?_
  refine J_sub [0, 1, 2, 3, 4] (lv' := [(0, .ref (llAd G 69)), (1, .int v1), (2, .int v2), (3, .int v3), (5, .int v5)]) rfl ?_
  exact t_X12_strangers_69_j97_b28_b14 u v1 v2 v3 v5 1
def fx_X12_strangers_69_j96_b28_b14 (u : llMem) (v1 : Int32) (v2 : Int32) (v3 : Int32) (v5 : Int32) : Option ((Int32 × Int32) ⊕ (Int32)) := fx_X12_strangers_69_j97_b28_b14 u v1 v2 v3 v5 0
set_option maxRecDepth 20000 in
theorem t_X12_strangers_69_j96_b28_b14 {G : llG} {d : Nat} (u : llMem) (v1 : Int32) (v2 : Int32) (v3 : Int32) (v5 : Int32) : llJ G RX12 cX12_strangers 6 (some .int) (d + 2) (Sum.elim (fun s' => llJq G 6 28 [(0, .ref (llAd G 69)), (1, .int v1), (2, .int v2), (3, .int v3), (4, .int s'.1), (5, .int s'.2)] [] u) (fun e => llJq G 6 105 [(0, .ref (llAd G 69)), (1, .int v1), (2, .int v2), (3, .int v3), (4, .int e)] [] u)) 96 [(0, .ref (llAd G 69)), (1, .int v1), (2, .int v2), (3, .int v3), (5, .int v5)] [] u (fx_X12_strangers_69_j96_b28_b14 u v1 v2 v3 v5) := by
  unfold fx_X12_strangers_69_j96_b28_b14
  refine J_iconst (v := 0) dX12_strangers_96 (by decide) ?_
  refine J_sub [0, 1, 2, 3, 4] (lv' := [(0, .ref (llAd G 69)), (1, .int v1), (2, .int v2), (3, .int v3), (5, .int v5)]) rfl ?_
  exact t_X12_strangers_69_j97_b28_b14 u v1 v2 v3 v5 0
def fx_X12_strangers_69_l28_b14 (u : llMem) (v1 : Int32) (v2 : Int32) (v3 : Int32) (s : Int32 × Int32) : Option ((Int32 × Int32) ⊕ (Int32)) := gI ((4 * v1) + 0) 32 ((if (rI u 70 ((4 * v1) + 0)) ≤ s.2 then some (.inr s.1) else gI v3 60 ((if ¬ (rI u 74 v3) = v1 then some (.inr s.1) else (if ¬ s.1 = 0 then fx_X12_strangers_69_j92_b28_b14 u v1 v2 v3 s.2 else gI v3 60 ((if s.2 = (rI u 75 v3) then fx_X12_strangers_69_j96_b28_b14 u v1 v2 v3 s.2 else (fx_X12_milesIn_69 u v3 v1 s.2).bind (fun r3 => gI v3 60 ((fx_X12_milesIn_69 u v3 v1 (rI u 75 v3)).bind (fun r4 => (if r4 ≤ r3 then fx_X12_strangers_69_j96_b28_b14 u v1 v2 v3 s.2 else fx_X12_strangers_69_j92_b28_b14 u v1 v2 v3 s.2)))))))))))
set_option maxRecDepth 20000 in
theorem t_X12_strangers_69_l28_b14 {G : llG} {d : Nat} (u : llMem) (v1 : Int32) (v2 : Int32) (v3 : Int32) (s : Int32 × Int32) : llJ G RX12 cX12_strangers 6 (some .int) (d + 2) (Sum.elim (fun s' => llJq G 6 28 [(0, .ref (llAd G 69)), (1, .int v1), (2, .int v2), (3, .int v3), (4, .int s'.1), (5, .int s'.2)] [] u) (fun e => llJq G 6 105 [(0, .ref (llAd G 69)), (1, .int v1), (2, .int v2), (3, .int v3), (4, .int e)] [] u)) 28 [(0, .ref (llAd G 69)), (1, .int v1), (2, .int v2), (3, .int v3), (4, .int s.1), (5, .int s.2)] [] u (fx_X12_strangers_69_l28_b14 u v1 v2 v3 s) := by
  unfold fx_X12_strangers_69_l28_b14
  refine J_iload (j := 5) dX12_strangers_28 rfl ?_
  refine J_aload_n (j := 0) dX12_strangers_30 rfl rfl ?_
  refine J_getR (b := 70) dX12_strangers_31 fl_X12_7 sh_69 rfl ?_
  refine J_iconst (v := 4) dX12_strangers_34 (by decide) ?_
  refine J_iload_n (j := 1) dX12_strangers_35 rfl rfl ?_
  refine J_imul dX12_strangers_36 ?_
  refine J_iconst (v := 0) dX12_strangers_37 (by decide) ?_
  refine J_iadd dX12_strangers_38 ?_
  refine J_iald dX12_strangers_39 sh_70 ?_
  refine J_icmp_ge (tgt := 105) dX12_strangers_40 (by decide) ?_ ?_
  · exact J_cut [0, 1, 2, 3, 4] (lv' := [(0, .ref (llAd G 69)), (1, .int v1), (2, .int v2), (3, .int v3), (4, .int s.1)]) rfl (fun h => h)
  · refine J_aload_n (j := 0) dX12_strangers_43 rfl rfl ?_
    refine J_getR (b := 74) dX12_strangers_44 fl_X12_23 sh_69 rfl ?_
    refine J_iload_n (j := 3) dX12_strangers_47 rfl rfl ?_
    refine J_iald dX12_strangers_48 sh_74 ?_
    refine J_iload_n (j := 1) dX12_strangers_49 rfl rfl ?_
    refine J_icmp_ne (tgt := 105) dX12_strangers_50 (by decide) ?_ ?_
    · exact J_cut [0, 1, 2, 3, 4] (lv' := [(0, .ref (llAd G 69)), (1, .int v1), (2, .int v2), (3, .int v3), (4, .int s.1)]) rfl (fun h => h)
    · refine J_iload (j := 4) dX12_strangers_53 rfl ?_
      refine J_if_ne (tgt := 92) dX12_strangers_55 (by decide) ?_ ?_
      · refine J_sub [0, 1, 2, 3, 5] (lv' := [(0, .ref (llAd G 69)), (1, .int v1), (2, .int v2), (3, .int v3), (5, .int s.2)]) rfl ?_
        exact t_X12_strangers_69_j92_b28_b14 u v1 v2 v3 s.2
      · refine J_iload (j := 5) dX12_strangers_58 rfl ?_
        refine J_aload_n (j := 0) dX12_strangers_60 rfl rfl ?_
        refine J_getR (b := 75) dX12_strangers_61 fl_X12_26 sh_69 rfl ?_
        refine J_iload_n (j := 3) dX12_strangers_64 rfl rfl ?_
        refine J_iald dX12_strangers_65 sh_75 ?_
        refine J_icmp_eq (tgt := 96) dX12_strangers_66 (by decide) ?_ ?_
        · refine J_sub [0, 1, 2, 3, 5] (lv' := [(0, .ref (llAd G 69)), (1, .int v1), (2, .int v2), (3, .int v3), (5, .int s.2)]) rfl ?_
          exact t_X12_strangers_69_j96_b28_b14 u v1 v2 v3 s.2
        · refine J_aload_n (j := 0) dX12_strangers_69 rfl rfl ?_
          refine J_iload_n (j := 3) dX12_strangers_70 rfl rfl ?_
          refine J_iload_n (j := 1) dX12_strangers_71 rfl rfl ?_
          refine J_iload (j := 5) dX12_strangers_72 rfl ?_
          refine J_callVip3 dX12_strangers_74 (t_X12_milesIn_69 (llL G) (llFx G) d u v3 v1 s.2) ym_X12_milesIn wd_1594 sh_69 rfl (Nat.le_of_ble_eq_true rfl) (fun r3 => ?_)
          refine J_aload_n (j := 0) dX12_strangers_77 rfl rfl ?_
          refine J_iload_n (j := 3) dX12_strangers_78 rfl rfl ?_
          refine J_iload_n (j := 1) dX12_strangers_79 rfl rfl ?_
          refine J_aload_n (j := 0) dX12_strangers_80 rfl rfl ?_
          refine J_getR (b := 75) dX12_strangers_81 fl_X12_26 sh_69 rfl ?_
          refine J_iload_n (j := 3) dX12_strangers_84 rfl rfl ?_
          refine J_iald dX12_strangers_85 sh_75 ?_
          refine J_callVip3 dX12_strangers_86 (t_X12_milesIn_69 (llL G) (llFx G) d u v3 v1 (rI u 75 v3)) ym_X12_milesIn wd_1594 sh_69 rfl (Nat.le_of_ble_eq_true rfl) (fun r4 => ?_)
          refine J_icmp_ge (tgt := 96) dX12_strangers_89 (by decide) ?_ ?_
          · refine J_sub [0, 1, 2, 3, 5] (lv' := [(0, .ref (llAd G 69)), (1, .int v1), (2, .int v2), (3, .int v3), (5, .int s.2)]) rfl ?_
            exact t_X12_strangers_69_j96_b28_b14 u v1 v2 v3 s.2
          · refine J_sub [0, 1, 2, 3, 5] (lv' := [(0, .ref (llAd G 69)), (1, .int v1), (2, .int v2), (3, .int v3), (5, .int s.2)]) rfl ?_
            exact t_X12_strangers_69_j92_b28_b14 u v1 v2 v3 s.2
def fx_X12_strangers_69_l14 (u : llMem) (v1 : Int32) (s : Int32 × Int32) : Option ((Int32 × Int32) ⊕ (Int32)) := (if (u.1 69 9) ≤ s.2 then some (.inr s.1) else (loop (fx_X12_strangers_69_l28_b14 u v1 s.1 s.2) llFuel (0, 0)).bind (fun e5 => (fx_X12_one u e5).bind (fun r6 => lt (s.1 ||| (r6 <<< (s.2 &&& 31))) (fun v2_7 => lt (s.2 + 1) (fun v3_8 => some (.inl (v2_7, v3_8)))))))
set_option maxRecDepth 20000 in
theorem t_X12_strangers_69_l14 {G : llG} {d : Nat} (u : llMem) (v1 : Int32) (s : Int32 × Int32) : llJ G RX12 cX12_strangers 6 (some .int) (d + 2) (Sum.elim (fun s' => llJq G 6 14 [(0, .ref (llAd G 69)), (1, .int v1), (2, .int s'.1), (3, .int s'.2)] [] u) (fun e => llJq G 6 121 [(2, .int e)] [] u)) 14 [(0, .ref (llAd G 69)), (1, .int v1), (2, .int s.1), (3, .int s.2)] [] u (fx_X12_strangers_69_l14 u v1 s) := by
  unfold fx_X12_strangers_69_l14
  refine J_iload_n (j := 3) dX12_strangers_14 rfl rfl ?_
  refine J_aload_n (j := 0) dX12_strangers_15 rfl rfl ?_
  refine J_getI dX12_strangers_16 fl_X12_263 sh_69 rfl ?_
  refine J_icmp_ge (tgt := 121) dX12_strangers_19 (by decide) ?_ ?_
  · exact J_cut [2] (lv' := [(2, .int s.1)]) rfl (fun h => h)
  · refine J_iconst (v := 0) dX12_strangers_22 (by decide) ?_
    refine J_istore [(4, .int 0), (0, .ref (llAd G 69)), (1, .int v1), (2, .int s.1), (3, .int s.2)] dX12_strangers_23 (by decide) rfl ?_
    refine J_iconst (v := 0) dX12_strangers_25 (by decide) ?_
    refine J_istore [(5, .int 0), (4, .int 0), (0, .ref (llAd G 69)), (1, .int v1), (2, .int s.1), (3, .int s.2)] dX12_strangers_26 (by decide) rfl ?_
    refine J_loopE (fun s' => [(0, .ref (llAd G 69)), (1, .int v1), (2, .int s.1), (3, .int s.2), (4, .int s'.1), (5, .int s'.2)]) (fun s' => u) 105 (fun e => [(0, .ref (llAd G 69)), (1, .int v1), (2, .int s.1), (3, .int s.2), (4, .int e)]) (fun e => u) (fun z => t_X12_strangers_69_l28_b14 u v1 s.1 s.2 z) [2, 3, 4, 5, 1, 0] rfl rfl (fun e5 => ?_)
    refine J_iload_n (j := 2) dX12_strangers_105 rfl rfl ?_
    refine J_iload (j := 4) dX12_strangers_106 rfl ?_
    refine J_callSip1 dX12_strangers_108 (t_X12_one (llL G) (llFx G) (d + 1) u e5) ym_X12_one wd_1439 (Nat.le_of_ble_eq_true rfl) (fun r6 => ?_)
    refine J_iload_n (j := 3) dX12_strangers_111 rfl rfl ?_
    refine J_ishl dX12_strangers_112 ?_
    refine J_ior dX12_strangers_113 ?_
    refine J_istore_nL (fun v2_7 => [(2, .int v2_7), (0, .ref (llAd G 69)), (1, .int v1), (3, .int s.2), (4, .int e5)]) dX12_strangers_114 rfl (by decide) (fun _ => rfl) (fun v2_7 => ?_)
    refine J_iinc (j := 3) (b := 1) (fun v3_8 => [(3, .int v3_8), (2, .int v2_7), (0, .ref (llAd G 69)), (1, .int v1), (4, .int e5)]) dX12_strangers_115 rfl (by decide) (by decide) (fun _ => rfl) (fun v3_8 => ?_)
    refine J_goto (tgt := 14) dX12_strangers_118 (by decide) ?_
    exact J_cut [2, 3, 1, 0] (lv' := [(0, .ref (llAd G 69)), (1, .int v1), (2, .int v2_7), (3, .int v3_8)]) rfl (fun h => h)
def fx_X12_strangers_69 (u : llMem) (a0 : Int32) : Option Int32 := (fx_X12_isLevel_69 u a0).bind (fun r1 => (if ¬ r1 = 0 then (loop (fx_X12_strangers_69_l14 u a0) llFuel (0, 0)).bind (fun e9 => some e9) else some ((-1))))
set_option maxRecDepth 20000 in
theorem tj_X12_strangers_69 {G : llG} {d : Nat} (u : llMem) (a0 : Int32) : llJ G RX12 cX12_strangers 6 (some .int) (d + 2) (fun r => llRet G (llI r) u) 0 [(0, .ref (llAd G 69)), (1, .int a0)] [] u (fx_X12_strangers_69 u a0) := by
  unfold fx_X12_strangers_69
  refine J_aload_n (j := 0) dX12_strangers_0 rfl rfl ?_
  refine J_iload_n (j := 1) dX12_strangers_1 rfl rfl ?_
  refine J_callVip1 dX12_strangers_2 (t_X12_isLevel_69 (llL G) (llFx G) d u a0) ym_X12_isLevel wd_1625 sh_69 rfl (Nat.le_of_ble_eq_true rfl) (fun r1 => ?_)
  refine J_if_ne (tgt := 10) dX12_strangers_5 (by decide) ?_ ?_
  · refine J_iconst (v := 0) dX12_strangers_10 (by decide) ?_
    refine J_istore_n [(2, .int 0), (0, .ref (llAd G 69)), (1, .int a0)] dX12_strangers_11 rfl (by decide) rfl ?_
    refine J_iconst (v := 0) dX12_strangers_12 (by decide) ?_
    refine J_istore_n [(3, .int 0), (2, .int 0), (0, .ref (llAd G 69)), (1, .int a0)] dX12_strangers_13 rfl (by decide) rfl ?_
    refine J_loopE (fun s' => [(0, .ref (llAd G 69)), (1, .int a0), (2, .int s'.1), (3, .int s'.2)]) (fun s' => u) 121 (fun e => [(2, .int e)]) (fun e => u) (fun z => t_X12_strangers_69_l14 u a0 z) [2, 3, 1, 0] rfl rfl (fun e9 => ?_)
    refine J_iload_n (j := 0) dX12_strangers_121 rfl rfl ?_
    exact J_iret dX12_strangers_122 (fun h => h)
  · refine J_iconst (v := (-1)) dX12_strangers_8 (by decide) ?_
    exact J_iret dX12_strangers_9 (fun h => h)
theorem t_X12_strangers_69 (l : Launch) (F : llFix) (d : Nat) (u : llMem) (a0 : Int32) : llCp l F yX12_strangers cX12_strangers 6 (some .int) (d + 2) [.ref (F.2.2.1 69), .int a0] u llI (fx_X12_strangers_69 u a0) := llCp.of (by decide +kernel) (by exact Nat.le_of_ble_eq_true rfl) (fun G h1 h2 => by subst h1; subst h2; exact tj_X12_strangers_69 u a0)
def fx_X8_write_43_j43_b7 (u : llMem) (v1 : Int32) (v2 : Int32) : Option ((llMem × Int32) ⊕ (llMem)) := lt (v2 + 1) (fun v2_2 => some (.inl (u, v2_2)))
set_option maxRecDepth 20000 in
theorem t_X8_write_43_j43_b7 {G : llG} {d : Nat} (u : llMem) (v1 : Int32) (v2 : Int32) : llJ G RX8 cX8_write 3 none (d + 3) (Sum.elim (fun s' => llJq G 3 7 [(0, .ref (llAd G 43)), (1, .int v1), (2, .int s'.2)] [] s'.1) (fun e => llJq G 3 49 [] [] e)) 43 [(0, .ref (llAd G 43)), (1, .int v1), (2, .int v2)] [] u (fx_X8_write_43_j43_b7 u v1 v2) := by
  unfold fx_X8_write_43_j43_b7
  refine J_iinc (j := 2) (b := 1) (fun v2_2 => [(2, .int v2_2), (0, .ref (llAd G 43)), (1, .int v1)]) dX8_write_43 rfl (by decide) (by decide) (fun _ => rfl) (fun v2_2 => ?_)
  refine J_goto (tgt := 7) dX8_write_46 (by decide) ?_
  exact J_cut [1, 2, 0] (lv' := [(0, .ref (llAd G 43)), (1, .int v1), (2, .int v2_2)]) rfl (fun h => h)
def fx_X8_writeClub_43_j33_b3 (u : llMem) (v1 : Int32) (v2 : Int32) : Option ((llMem × Int32) ⊕ (llMem)) := lt (v2 + (-8)) (fun v2_2 => some (.inl (u, v2_2)))
set_option maxRecDepth 20000 in
theorem t_X8_writeClub_43_j33_b3 {G : llG} {d : Nat} (u : llMem) (v1 : Int32) (v2 : Int32) : llJ G RX8 cX8_writeClub 4 none (d + 2) (Sum.elim (fun s' => llJq G 4 3 [(0, .ref (llAd G 43)), (1, .int v1), (2, .int s'.2)] [] s'.1) (fun e => llJq G 4 39 [(0, .ref (llAd G 43)), (1, .int v1)] [] e)) 33 [(0, .ref (llAd G 43)), (1, .int v1), (2, .int v2)] [] u (fx_X8_writeClub_43_j33_b3 u v1 v2) := by
  unfold fx_X8_writeClub_43_j33_b3
  refine J_iinc (j := 2) (b := (-8)) (fun v2_2 => [(2, .int v2_2), (0, .ref (llAd G 43)), (1, .int v1)]) dX8_writeClub_33 rfl (by decide) (by decide) (fun _ => rfl) (fun v2_2 => ?_)
  refine J_goto (tgt := 3) dX8_writeClub_36 (by decide) ?_
  exact J_cut [1, 2, 0] (lv' := [(0, .ref (llAd G 43)), (1, .int v1), (2, .int v2_2)]) rfl (fun h => h)
def fx_X8_writeSign_43 (u : llMem) (a0 : Int32) : Option (llMem × Unit) := (if 96 ≤ (u.1 43 6) then some (u, ()) else gI (u.1 43 6) 96 (lt (llSI u 47 (Int32.toNatClampNeg (u.1 43 6)) a0) (fun u1 => lt (llSI u1 43 6 ((u1.1 43 6) + 1)) (fun u2 => some (u2, ())))))
set_option maxRecDepth 20000 in
theorem tj_X8_writeSign_43 {G : llG} {d : Nat} (u : llMem) (a0 : Int32) : llJ G RX8 cX8_writeSign 2 none d (fun r => llRet G (llVd r.2) r.1) 0 [(0, .ref (llAd G 43)), (1, .int a0)] [] u (fx_X8_writeSign_43 u a0) := by
  unfold fx_X8_writeSign_43
  refine J_aload_n (j := 0) dX8_writeSign_0 rfl rfl ?_
  refine J_getI dX8_writeSign_1 fl_X8_95 sh_43 rfl ?_
  refine J_bipush (v := 96) dX8_writeSign_4 (by decide) ?_
  refine J_icmp_ge (tgt := 29) dX8_writeSign_6 (by decide) ?_ ?_
  · exact J_vret dX8_writeSign_29 (fun h => h)
  · refine J_aload_n (j := 0) dX8_writeSign_9 rfl rfl ?_
    refine J_getR (b := 47) dX8_writeSign_10 fl_X8_29 sh_43 rfl ?_
    refine J_aload_n (j := 0) dX8_writeSign_13 rfl rfl ?_
    refine J_getI dX8_writeSign_14 fl_X8_95 sh_43 rfl ?_
    refine J_iload_n (j := 1) dX8_writeSign_17 rfl rfl ?_
    refine J_iast dX8_writeSign_18 sh_47 (fun u1 => ?_)
    refine J_aload_n (j := 0) dX8_writeSign_19 rfl rfl ?_
    refine J_dup dX8_writeSign_20 rfl ?_
    refine J_getI dX8_writeSign_21 fl_X8_95 sh_43 rfl ?_
    refine J_iconst (v := 1) dX8_writeSign_24 (by decide) ?_
    refine J_iadd dX8_writeSign_25 ?_
    refine J_putI dX8_writeSign_26 fl_X8_95 sh_43 rfl (fun u2 => ?_)
    exact J_vret dX8_writeSign_29 (fun h => h)
theorem t_X8_writeSign_43 (l : Launch) (F : llFix) (d : Nat) (u : llMem) (a0 : Int32) : llCt l F yX8_writeSign cX8_writeSign 2 none d [.ref (F.2.2.1 43), .int a0] u llVd (fx_X8_writeSign_43 u a0) := llCt.of (by decide +kernel) (by exact Nat.le_of_ble_eq_true rfl) (fun G h1 h2 => by subst h1; subst h2; exact tj_X8_writeSign_43 u a0)
def fx_X8_writeClub_43_l3 (v1 : Int32) (s : llMem × Int32) : Option ((llMem × Int32) ⊕ (llMem)) := (if s.2 < 0 then some (.inr s.1) else gI v1 30 (lt (Int64.toInt32 (((Int64.toUInt64 (rL s.1 8 v1) >>> (Int64.toUInt64 (Int32.toInt64 s.2) &&& Int64.toUInt64 63)).toInt64) &&& 255)) (fun v3_1 => (if v3_1 = 0 then fx_X8_writeClub_43_j33_b3 s.1 v1 s.2 else bd (fx_X8_writeSign_43 s.1 v3_1) (fun u3 _ => fx_X8_writeClub_43_j33_b3 u3 v1 s.2)))))
set_option maxRecDepth 20000 in
theorem t_X8_writeClub_43_l3 {G : llG} {d : Nat} (v1 : Int32) (s : llMem × Int32) : llJ G RX8 cX8_writeClub 4 none (d + 2) (Sum.elim (fun s' => llJq G 4 3 [(0, .ref (llAd G 43)), (1, .int v1), (2, .int s'.2)] [] s'.1) (fun e => llJq G 4 39 [(0, .ref (llAd G 43)), (1, .int v1)] [] e)) 3 [(0, .ref (llAd G 43)), (1, .int v1), (2, .int s.2)] [] s.1 (fx_X8_writeClub_43_l3 v1 s) := by
  unfold fx_X8_writeClub_43_l3
  refine J_iload_n (j := 2) dX8_writeClub_3 rfl rfl ?_
  refine J_if_lt (tgt := 39) dX8_writeClub_4 (by decide) ?_ ?_
  · exact J_cut [0, 1] (lv' := [(0, .ref (llAd G 43)), (1, .int v1)]) rfl (fun h => h)
  · refine J_aload_n (j := 0) dX8_writeClub_7 rfl rfl ?_
    refine J_getR (b := 3) dX8_writeClub_8 fl_X8_9 sh_43 rfl ?_
    refine J_getR (b := 8) dX8_writeClub_11 fl_X8_101 sh_3 rfl ?_
    refine J_iload_n (j := 1) dX8_writeClub_14 rfl rfl ?_
    refine J_lald dX8_writeClub_15 sh_8 ?_
    refine J_iload_n (j := 2) dX8_writeClub_16 rfl rfl ?_
    refine J_lushr dX8_writeClub_17 ?_
    refine J_ldc2 (v := 255) dX8_writeClub_18 wd_1105 ?_
    refine J_land dX8_writeClub_21 ?_
    refine J_l2i dX8_writeClub_22 ?_
    refine J_istore_nL (fun v3_1 => [(3, .int v3_1), (0, .ref (llAd G 43)), (1, .int v1), (2, .int s.2)]) dX8_writeClub_23 rfl (by decide) (fun _ => rfl) (fun v3_1 => ?_)
    refine J_iload_n (j := 0) dX8_writeClub_24 rfl rfl ?_
    refine J_if_eq (tgt := 33) dX8_writeClub_25 (by decide) ?_ ?_
    · refine J_sub [1, 2, 3] (lv' := [(0, .ref (llAd G 43)), (1, .int v1), (2, .int s.2)]) rfl ?_
      exact t_X8_writeClub_43_j33_b3 s.1 v1 s.2
    · refine J_aload_n (j := 1) dX8_writeClub_28 rfl rfl ?_
      refine J_iload_n (j := 0) dX8_writeClub_29 rfl rfl ?_
      refine J_callVv1 dX8_writeClub_30 (t_X8_writeSign_43 (llL G) (llFx G) (d + 1) s.1 v3_1) ym_X8_writeSign wd_1106 sh_43 rfl (Nat.le_of_ble_eq_true rfl) (fun u3 => ?_)
      refine J_sub [1, 2, 3] (lv' := [(0, .ref (llAd G 43)), (1, .int v1), (2, .int s.2)]) rfl ?_
      exact t_X8_writeClub_43_j33_b3 u3 v1 s.2
def fx_X8_writeNumber_43_j52 (u : llMem) (v2 : Int32) : Option ((llMem × Unit)) := gZ 10 (bd (fx_X8_writeSign_43 u (48 + (v2 - v2 / 10 * 10))) (fun u2 _ => some (u2, ())))
set_option maxRecDepth 20000 in
theorem t_X8_writeNumber_43_j52 {G : llG} {d : Nat} (u : llMem) (v2 : Int32) : llJ G RX8 cX8_writeNumber 3 none (d + 1) (fun r => llRet G (llVd r.2) r.1) 52 [(0, .ref (llAd G 43)), (2, .int v2)] [] u (fx_X8_writeNumber_43_j52 u v2) := by
  unfold fx_X8_writeNumber_43_j52
  refine J_aload_n (j := 0) dX8_writeNumber_52 rfl rfl ?_
  refine J_bipush (v := 48) dX8_writeNumber_53 (by decide) ?_
  refine J_iload_n (j := 1) dX8_writeNumber_55 rfl rfl ?_
  refine J_bipush (v := 10) dX8_writeNumber_56 (by decide) ?_
  refine J_irem dX8_writeNumber_58 ?_
  refine J_iadd dX8_writeNumber_59 ?_
  refine J_callVv1 dX8_writeNumber_60 (t_X8_writeSign_43 (llL G) (llFx G) d u (48 + (v2 - v2 / 10 * 10))) ym_X8_writeSign wd_1106 sh_43 rfl (Nat.le_of_ble_eq_true rfl) (fun u2 => ?_)
  exact J_vret dX8_writeNumber_63 (fun h => h)
def fx_X8_writeNumber_43_j32 (u : llMem) (v2 : Int32) : Option ((llMem × Unit)) := (if v2 < 10 then fx_X8_writeNumber_43_j52 u v2 else gZ 10 (gZ 10 (bd (fx_X8_writeSign_43 u (48 + ((v2 / 10) - (v2 / 10) / 10 * 10))) (fun u3 _ => fx_X8_writeNumber_43_j52 u3 v2))))
set_option maxRecDepth 20000 in
theorem t_X8_writeNumber_43_j32 {G : llG} {d : Nat} (u : llMem) (v2 : Int32) : llJ G RX8 cX8_writeNumber 3 none (d + 1) (fun r => llRet G (llVd r.2) r.1) 32 [(0, .ref (llAd G 43)), (2, .int v2)] [] u (fx_X8_writeNumber_43_j32 u v2) := by
  unfold fx_X8_writeNumber_43_j32
  refine J_iload_n (j := 1) dX8_writeNumber_32 rfl rfl ?_
  refine J_bipush (v := 10) dX8_writeNumber_33 (by decide) ?_
  refine J_icmp_lt (tgt := 52) dX8_writeNumber_35 (by decide) ?_ ?_
  · refine J_sub [0, 1] (lv' := [(0, .ref (llAd G 43)), (2, .int v2)]) rfl ?_
    exact t_X8_writeNumber_43_j52 u v2
  · refine J_aload_n (j := 0) dX8_writeNumber_38 rfl rfl ?_
    refine J_bipush (v := 48) dX8_writeNumber_39 (by decide) ?_
    refine J_iload_n (j := 1) dX8_writeNumber_41 rfl rfl ?_
    refine J_bipush (v := 10) dX8_writeNumber_42 (by decide) ?_
    refine J_idiv dX8_writeNumber_44 ?_
    refine J_bipush (v := 10) dX8_writeNumber_45 (by decide) ?_
    refine J_irem dX8_writeNumber_47 ?_
    refine J_iadd dX8_writeNumber_48 ?_
    refine J_callVv1 dX8_writeNumber_49 (t_X8_writeSign_43 (llL G) (llFx G) d u (48 + ((v2 / 10) - (v2 / 10) / 10 * 10))) ym_X8_writeSign wd_1106 sh_43 rfl (Nat.le_of_ble_eq_true rfl) (fun u3 => ?_)
    refine J_sub [0, 1] (lv' := [(0, .ref (llAd G 43)), (2, .int v2)]) rfl ?_
    exact t_X8_writeNumber_43_j52 u3 v2
def fx_X8_writeNumber_43_j10 (u : llMem) (v1 : Int32) : Option ((llMem × Unit)) := lt (if 0 ≤ v1 then v1 else 0 - v1) (fun v2_1 => (if v2_1 < 100 then fx_X8_writeNumber_43_j32 u v2_1 else gZ 100 (bd (fx_X8_writeSign_43 u (48 + (v2_1 / 100))) (fun u4 _ => fx_X8_writeNumber_43_j32 u4 v2_1))))
set_option maxRecDepth 20000 in
theorem t_X8_writeNumber_43_j10 {G : llG} {d : Nat} (u : llMem) (v1 : Int32) : llJ G RX8 cX8_writeNumber 3 none (d + 1) (fun r => llRet G (llVd r.2) r.1) 10 [(0, .ref (llAd G 43)), (1, .int v1)] [] u (fx_X8_writeNumber_43_j10 u v1) := by
  unfold fx_X8_writeNumber_43_j10
  refine J_iload_n (j := 1) dX8_writeNumber_10 rfl rfl ?_
  refine J_mabs dX8_writeNumber_11 wd_1114 wd_1115 wd_14 wd_1116 (Nat.le_of_ble_eq_true rfl) ?_
  refine J_istore_nL (fun v2_1 => [(2, .int v2_1), (0, .ref (llAd G 43)), (1, .int v1)]) dX8_writeNumber_14 rfl (by decide) (fun _ => rfl) (fun v2_1 => ?_)
  refine J_iload_n (j := 0) dX8_writeNumber_15 rfl rfl ?_
  refine J_bipush (v := 100) dX8_writeNumber_16 (by decide) ?_
  refine J_icmp_lt (tgt := 32) dX8_writeNumber_18 (by decide) ?_ ?_
  · refine J_sub [1, 0] (lv' := [(0, .ref (llAd G 43)), (2, .int v2_1)]) rfl ?_
    exact t_X8_writeNumber_43_j32 u v2_1
  · refine J_aload_n (j := 1) dX8_writeNumber_21 rfl rfl ?_
    refine J_bipush (v := 48) dX8_writeNumber_22 (by decide) ?_
    refine J_iload_n (j := 0) dX8_writeNumber_24 rfl rfl ?_
    refine J_bipush (v := 100) dX8_writeNumber_25 (by decide) ?_
    refine J_idiv dX8_writeNumber_27 ?_
    refine J_iadd dX8_writeNumber_28 ?_
    refine J_callVv1 dX8_writeNumber_29 (t_X8_writeSign_43 (llL G) (llFx G) d u (48 + (v2_1 / 100))) ym_X8_writeSign wd_1106 sh_43 rfl (Nat.le_of_ble_eq_true rfl) (fun u4 => ?_)
    refine J_sub [1, 0] (lv' := [(0, .ref (llAd G 43)), (2, .int v2_1)]) rfl ?_
    exact t_X8_writeNumber_43_j32 u4 v2_1
def fx_X8_writeNumber_43 (u : llMem) (a0 : Int32) : Option (llMem × Unit) := (if 0 ≤ a0 then fx_X8_writeNumber_43_j10 u a0 else bd (fx_X8_writeSign_43 u 45) (fun u5 _ => fx_X8_writeNumber_43_j10 u5 a0))
set_option maxRecDepth 20000 in
theorem tj_X8_writeNumber_43 {G : llG} {d : Nat} (u : llMem) (a0 : Int32) : llJ G RX8 cX8_writeNumber 3 none (d + 1) (fun r => llRet G (llVd r.2) r.1) 0 [(0, .ref (llAd G 43)), (1, .int a0)] [] u (fx_X8_writeNumber_43 u a0) := by
  unfold fx_X8_writeNumber_43
  refine J_iload_n (j := 1) dX8_writeNumber_0 rfl rfl ?_
  refine J_if_ge (tgt := 10) dX8_writeNumber_1 (by decide) ?_ ?_
  · refine J_sub [0, 1] (lv' := [(0, .ref (llAd G 43)), (1, .int a0)]) rfl ?_
    exact t_X8_writeNumber_43_j10 u a0
  · refine J_aload_n (j := 0) dX8_writeNumber_4 rfl rfl ?_
    refine J_bipush (v := 45) dX8_writeNumber_5 (by decide) ?_
    refine J_callVv1 dX8_writeNumber_7 (t_X8_writeSign_43 (llL G) (llFx G) d u 45) ym_X8_writeSign wd_1106 sh_43 rfl (Nat.le_of_ble_eq_true rfl) (fun u5 => ?_)
    refine J_sub [0, 1] (lv' := [(0, .ref (llAd G 43)), (1, .int a0)]) rfl ?_
    exact t_X8_writeNumber_43_j10 u5 a0
theorem t_X8_writeNumber_43 (l : Launch) (F : llFix) (d : Nat) (u : llMem) (a0 : Int32) : llCt l F yX8_writeNumber cX8_writeNumber 3 none (d + 1) [.ref (F.2.2.1 43), .int a0] u llVd (fx_X8_writeNumber_43 u a0) := llCt.of (by decide +kernel) (by exact Nat.le_of_ble_eq_true rfl) (fun G h1 h2 => by subst h1; subst h2; exact tj_X8_writeNumber_43 u a0)
def fx_X8_writeClub_43 (u : llMem) (a0 : Int32) : Option (llMem × Unit) := (loop (fx_X8_writeClub_43_l3 a0) llFuel (u, 48)).bind (fun e4 => bd (fx_X8_writeSign_43 e4 32) (fun u5 _ => gI a0 30 (bd (fx_X8_writeNumber_43 u5 (rI u5 46 a0)) (fun u6 _ => bd (fx_X8_writeSign_43 u6 32) (fun u7 _ => gI a0 30 (bd (fx_X8_writeNumber_43 u7 (rI u7 21 a0)) (fun u8 _ => bd (fx_X8_writeSign_43 u8 59) (fun u9 _ => some (u9, ())))))))))
set_option maxRecDepth 20000 in
theorem tj_X8_writeClub_43 {G : llG} {d : Nat} (u : llMem) (a0 : Int32) : llJ G RX8 cX8_writeClub 4 none (d + 2) (fun r => llRet G (llVd r.2) r.1) 0 [(0, .ref (llAd G 43)), (1, .int a0)] [] u (fx_X8_writeClub_43 u a0) := by
  unfold fx_X8_writeClub_43
  refine J_bipush (v := 48) dX8_writeClub_0 (by decide) ?_
  refine J_istore_n [(2, .int 48), (0, .ref (llAd G 43)), (1, .int a0)] dX8_writeClub_2 rfl (by decide) rfl ?_
  refine J_loopE (fun s' => [(0, .ref (llAd G 43)), (1, .int a0), (2, .int s'.2)]) (fun s' => s'.1) 39 (fun e => [(0, .ref (llAd G 43)), (1, .int a0)]) (fun e => e) (fun z => t_X8_writeClub_43_l3 a0 z) [1, 2, 0] rfl rfl (fun e4 => ?_)
  refine J_aload_n (j := 0) dX8_writeClub_39 rfl rfl ?_
  refine J_bipush (v := 32) dX8_writeClub_40 (by decide) ?_
  refine J_callVv1 dX8_writeClub_42 (t_X8_writeSign_43 (llL G) (llFx G) (d + 1) e4 32) ym_X8_writeSign wd_1106 sh_43 rfl (Nat.le_of_ble_eq_true rfl) (fun u5 => ?_)
  refine J_aload_n (j := 0) dX8_writeClub_45 rfl rfl ?_
  refine J_aload_n (j := 0) dX8_writeClub_46 rfl rfl ?_
  refine J_getR (b := 46) dX8_writeClub_47 fl_X8_26 sh_43 rfl ?_
  refine J_iload_n (j := 1) dX8_writeClub_50 rfl rfl ?_
  refine J_iald dX8_writeClub_51 sh_46 ?_
  refine J_callVv1 dX8_writeClub_52 (t_X8_writeNumber_43 (llL G) (llFx G) d u5 (rI u5 46 a0)) ym_X8_writeNumber wd_1110 sh_43 rfl (Nat.le_of_ble_eq_true rfl) (fun u6 => ?_)
  refine J_aload_n (j := 0) dX8_writeClub_55 rfl rfl ?_
  refine J_bipush (v := 32) dX8_writeClub_56 (by decide) ?_
  refine J_callVv1 dX8_writeClub_58 (t_X8_writeSign_43 (llL G) (llFx G) (d + 1) u6 32) ym_X8_writeSign wd_1106 sh_43 rfl (Nat.le_of_ble_eq_true rfl) (fun u7 => ?_)
  refine J_aload_n (j := 0) dX8_writeClub_61 rfl rfl ?_
  refine J_aload_n (j := 0) dX8_writeClub_62 rfl rfl ?_
  refine J_getR (b := 14) dX8_writeClub_63 fl_X8_15 sh_43 rfl ?_
  refine J_getR (b := 21) dX8_writeClub_66 fl_X8_74 sh_14 rfl ?_
  refine J_iload_n (j := 1) dX8_writeClub_69 rfl rfl ?_
  refine J_iald dX8_writeClub_70 sh_21 ?_
  refine J_callVv1 dX8_writeClub_71 (t_X8_writeNumber_43 (llL G) (llFx G) d u7 (rI u7 21 a0)) ym_X8_writeNumber wd_1110 sh_43 rfl (Nat.le_of_ble_eq_true rfl) (fun u8 => ?_)
  refine J_aload_n (j := 0) dX8_writeClub_74 rfl rfl ?_
  refine J_bipush (v := 59) dX8_writeClub_75 (by decide) ?_
  refine J_callVv1 dX8_writeClub_77 (t_X8_writeSign_43 (llL G) (llFx G) (d + 1) u8 59) ym_X8_writeSign wd_1106 sh_43 rfl (Nat.le_of_ble_eq_true rfl) (fun u9 => ?_)
  exact J_vret dX8_writeClub_80 (fun h => h)
theorem t_X8_writeClub_43 (l : Launch) (F : llFix) (d : Nat) (u : llMem) (a0 : Int32) : llCt l F yX8_writeClub cX8_writeClub 4 none (d + 2) [.ref (F.2.2.1 43), .int a0] u llVd (fx_X8_writeClub_43 u a0) := llCt.of (by decide +kernel) (by exact Nat.le_of_ble_eq_true rfl) (fun G h1 h2 => by subst h1; subst h2; exact tj_X8_writeClub_43 u a0)
def fx_X8_write_43_l7 (v1 : Int32) (s : llMem × Int32) : Option ((llMem × Int32) ⊕ (llMem)) := (if (s.1.1 43 2) ≤ s.2 then some (.inr s.1) else gI s.2 12 (gI (rI s.1 44 s.2) 30 ((if ¬ (rI s.1 13 (rI s.1 44 s.2)) = v1 then fx_X8_write_43_j43_b7 s.1 v1 s.2 else gI s.2 12 (bd (fx_X8_writeClub_43 s.1 (rI s.1 44 s.2)) (fun u3 _ => fx_X8_write_43_j43_b7 u3 v1 s.2))))))
set_option maxRecDepth 20000 in
theorem t_X8_write_43_l7 {G : llG} {d : Nat} (v1 : Int32) (s : llMem × Int32) : llJ G RX8 cX8_write 3 none (d + 3) (Sum.elim (fun s' => llJq G 3 7 [(0, .ref (llAd G 43)), (1, .int v1), (2, .int s'.2)] [] s'.1) (fun e => llJq G 3 49 [] [] e)) 7 [(0, .ref (llAd G 43)), (1, .int v1), (2, .int s.2)] [] s.1 (fx_X8_write_43_l7 v1 s) := by
  unfold fx_X8_write_43_l7
  refine J_iload_n (j := 2) dX8_write_7 rfl rfl ?_
  refine J_aload_n (j := 0) dX8_write_8 rfl rfl ?_
  refine J_getI dX8_write_9 fl_X8_38 sh_43 rfl ?_
  refine J_icmp_ge (tgt := 49) dX8_write_12 (by decide) ?_ ?_
  · exact J_cut [] (lv' := []) rfl (fun h => h)
  · refine J_aload_n (j := 0) dX8_write_15 rfl rfl ?_
    refine J_getR (b := 3) dX8_write_16 fl_X8_9 sh_43 rfl ?_
    refine J_getR (b := 13) dX8_write_19 fl_X8_55 sh_3 rfl ?_
    refine J_aload_n (j := 0) dX8_write_22 rfl rfl ?_
    refine J_getR (b := 44) dX8_write_23 fl_X8_19 sh_43 rfl ?_
    refine J_iload_n (j := 2) dX8_write_26 rfl rfl ?_
    refine J_iald dX8_write_27 sh_44 ?_
    refine J_iald dX8_write_28 sh_13 ?_
    refine J_iload_n (j := 1) dX8_write_29 rfl rfl ?_
    refine J_icmp_ne (tgt := 43) dX8_write_30 (by decide) ?_ ?_
    · refine J_sub [0, 1, 2] (lv' := [(0, .ref (llAd G 43)), (1, .int v1), (2, .int s.2)]) rfl ?_
      exact t_X8_write_43_j43_b7 s.1 v1 s.2
    · refine J_aload_n (j := 0) dX8_write_33 rfl rfl ?_
      refine J_aload_n (j := 0) dX8_write_34 rfl rfl ?_
      refine J_getR (b := 44) dX8_write_35 fl_X8_19 sh_43 rfl ?_
      refine J_iload_n (j := 2) dX8_write_38 rfl rfl ?_
      refine J_iald dX8_write_39 sh_44 ?_
      refine J_callVv1 dX8_write_40 (t_X8_writeClub_43 (llL G) (llFx G) d s.1 (rI s.1 44 s.2)) ym_X8_writeClub wd_1101 sh_43 rfl (Nat.le_of_ble_eq_true rfl) (fun u3 => ?_)
      refine J_sub [0, 1, 2] (lv' := [(0, .ref (llAd G 43)), (1, .int v1), (2, .int s.2)]) rfl ?_
      exact t_X8_write_43_j43_b7 u3 v1 s.2
def fx_X8_write_43 (u : llMem) (a0 : Int32) : Option (llMem × Unit) := lt (llSI u 43 6 0) (fun u1 => (loop (fx_X8_write_43_l7 a0) llFuel (u1, 0)).bind (fun e4 => some (e4, ())))
set_option maxRecDepth 20000 in
theorem tj_X8_write_43 {G : llG} {d : Nat} (u : llMem) (a0 : Int32) : llJ G RX8 cX8_write 3 none (d + 3) (fun r => llRet G (llVd r.2) r.1) 0 [(0, .ref (llAd G 43)), (1, .int a0)] [] u (fx_X8_write_43 u a0) := by
  unfold fx_X8_write_43
  refine J_aload_n (j := 0) dX8_write_0 rfl rfl ?_
  refine J_iconst (v := 0) dX8_write_1 (by decide) ?_
  refine J_putI dX8_write_2 fl_X8_95 sh_43 rfl (fun u1 => ?_)
  refine J_iconst (v := 0) dX8_write_5 (by decide) ?_
  refine J_istore_n [(2, .int 0), (0, .ref (llAd G 43)), (1, .int a0)] dX8_write_6 rfl (by decide) rfl ?_
  refine J_loopE (fun s' => [(0, .ref (llAd G 43)), (1, .int a0), (2, .int s'.2)]) (fun s' => s'.1) 49 (fun e => []) (fun e => e) (fun z => t_X8_write_43_l7 a0 z) [1, 2, 0] rfl rfl (fun e4 => ?_)
  exact J_vret dX8_write_49 (fun h => h)
theorem t_X8_write_43 (l : Launch) (F : llFix) (d : Nat) (u : llMem) (a0 : Int32) : llCt l F yX8_write cX8_write 3 none (d + 3) [.ref (F.2.2.1 43), .int a0] u llVd (fx_X8_write_43 u a0) := llCt.of (by decide +kernel) (by exact Nat.le_of_ble_eq_true rfl) (fun G h1 h2 => by subst h1; subst h2; exact tj_X8_write_43 u a0)
