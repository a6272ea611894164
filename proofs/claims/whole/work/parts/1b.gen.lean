def fx_X7_keepFirst_14_l2 (v1 : Int32) (s : llMem × Int32) : Option ((llMem × Int32) ⊕ (llMem)) := (if (s.1.1 14 1) ≤ s.2 then some (.inr s.1) else gI s.2 150 (lt (rI s.1 15 s.2) (fun v3_1 => gI s.2 150 (lt (rI s.1 16 s.2) (fun v4_2 => (fx_X7_homeGoals_14 s.1 v3_1 v4_2).bind (fun r3 => (fx_X7_awayGoals_14 s.1 v3_1 v4_2).bind (fun r4 => bd (fx_X7_tally_14 s.1 v3_1 r3 r4 ((-1))) (fun u5 _ => bd (fx_X7_tally_14 u5 v4_2 r4 r3 ((-1))) (fun u6 _ => gI ((v3_1 * 30) + v4_2) 900 (lt (llSI u6 17 (Int32.toNatClampNeg ((v3_1 * 30) + v4_2)) ((-1))) (fun u7 => lt (s.2 + 1) (fun v2_8 => some (.inl (u7, v2_8))))))))))))))
set_option maxRecDepth 20000 in
theorem t_X7_keepFirst_14_l2 {G : llG} {d : Nat} (v1 : Int32) (s : llMem × Int32) : llJ G RX7 cX7_keepFirst 7 none (d + 2) (Sum.elim (fun s' => llJq G 7 2 [(0, .ref (llAd G 14)), (1, .int v1), (2, .int s'.2)] [] s'.1) (fun e => llJq G 7 83 [(0, .ref (llAd G 14)), (1, .int v1)] [] e)) 2 [(0, .ref (llAd G 14)), (1, .int v1), (2, .int s.2)] [] s.1 (fx_X7_keepFirst_14_l2 v1 s) := by
  unfold fx_X7_keepFirst_14_l2
  refine J_iload_n (j := 2) dX7_keepFirst_2 rfl rfl ?_
  refine J_aload_n (j := 0) dX7_keepFirst_3 rfl rfl ?_
  refine J_getI dX7_keepFirst_4 fl_X7_55 sh_14 rfl ?_
  refine J_icmp_ge (tgt := 83) dX7_keepFirst_7 (by decide) ?_ ?_
  · exact J_cut [0, 1] (lv' := [(0, .ref (llAd G 14)), (1, .int v1)]) rfl (fun h => h)
  · refine J_aload_n (j := 0) dX7_keepFirst_10 rfl rfl ?_
    refine J_getR (b := 15) dX7_keepFirst_11 fl_X7_11 sh_14 rfl ?_
    refine J_iload_n (j := 2) dX7_keepFirst_14 rfl rfl ?_
    refine J_iald dX7_keepFirst_15 sh_15 ?_
    refine J_istore_nL (fun v3_1 => [(3, .int v3_1), (0, .ref (llAd G 14)), (1, .int v1), (2, .int s.2)]) dX7_keepFirst_16 rfl (by decide) (fun _ => rfl) (fun v3_1 => ?_)
    refine J_aload_n (j := 1) dX7_keepFirst_17 rfl rfl ?_
    refine J_getR (b := 16) dX7_keepFirst_18 fl_X7_15 sh_14 rfl ?_
    refine J_iload_n (j := 3) dX7_keepFirst_21 rfl rfl ?_
    refine J_iald dX7_keepFirst_22 sh_16 ?_
    refine J_istoreL (fun v4_2 => [(4, .int v4_2), (3, .int v3_1), (0, .ref (llAd G 14)), (1, .int v1), (2, .int s.2)]) dX7_keepFirst_23 (by decide) (fun _ => rfl) (fun v4_2 => ?_)
    refine J_aload_n (j := 2) dX7_keepFirst_25 rfl rfl ?_
    refine J_iload_n (j := 1) dX7_keepFirst_26 rfl rfl ?_
    refine J_iload (j := 0) dX7_keepFirst_27 rfl ?_
    refine J_callVip2 dX7_keepFirst_29 (t_X7_homeGoals_14 (llL G) (llFx G) d s.1 v3_1 v4_2) ym_X7_homeGoals wd_643 sh_14 rfl (Nat.le_of_ble_eq_true rfl) (fun r3 => ?_)
    refine J_istore [(5, .int r3), (4, .int v4_2), (3, .int v3_1), (0, .ref (llAd G 14)), (1, .int v1), (2, .int s.2)] dX7_keepFirst_32 (by decide) rfl ?_
    refine J_aload_n (j := 3) dX7_keepFirst_34 rfl rfl ?_
    refine J_iload_n (j := 2) dX7_keepFirst_35 rfl rfl ?_
    refine J_iload (j := 1) dX7_keepFirst_36 rfl ?_
    refine J_callVip2 dX7_keepFirst_38 (t_X7_awayGoals_14 (llL G) (llFx G) d s.1 v3_1 v4_2) ym_X7_awayGoals wd_651 sh_14 rfl (Nat.le_of_ble_eq_true rfl) (fun r4 => ?_)
    refine J_istore [(6, .int r4), (5, .int r3), (4, .int v4_2), (3, .int v3_1), (0, .ref (llAd G 14)), (1, .int v1), (2, .int s.2)] dX7_keepFirst_41 (by decide) rfl ?_
    refine J_aload_n (j := 4) dX7_keepFirst_43 rfl rfl ?_
    refine J_iload_n (j := 3) dX7_keepFirst_44 rfl rfl ?_
    refine J_iload (j := 1) dX7_keepFirst_45 rfl ?_
    refine J_iload (j := 0) dX7_keepFirst_47 rfl ?_
    refine J_iconst (v := (-1)) dX7_keepFirst_49 (by decide) ?_
    refine J_callVv4 dX7_keepFirst_50 (t_X7_tally_14 (llL G) (llFx G) (d + 1) s.1 v3_1 r3 r4 ((-1))) ym_X7_tally wd_655 sh_14 rfl (Nat.le_of_ble_eq_true rfl) (fun u5 => ?_)
    refine J_aload_n (j := 4) dX7_keepFirst_53 rfl rfl ?_
    refine J_iload (j := 2) dX7_keepFirst_54 rfl ?_
    refine J_iload (j := 0) dX7_keepFirst_56 rfl ?_
    refine J_iload (j := 1) dX7_keepFirst_58 rfl ?_
    refine J_iconst (v := (-1)) dX7_keepFirst_60 (by decide) ?_
    refine J_callVv4 dX7_keepFirst_61 (t_X7_tally_14 (llL G) (llFx G) (d + 1) u5 v4_2 r4 r3 ((-1))) ym_X7_tally wd_655 sh_14 rfl (Nat.le_of_ble_eq_true rfl) (fun u6 => ?_)
    refine J_aload_n (j := 4) dX7_keepFirst_64 rfl rfl ?_
    refine J_getR (b := 17) dX7_keepFirst_65 fl_X7_18 sh_14 rfl ?_
    refine J_iload_n (j := 3) dX7_keepFirst_68 rfl rfl ?_
    refine J_bipush (v := 30) dX7_keepFirst_69 (by decide) ?_
    refine J_imul dX7_keepFirst_71 ?_
    refine J_iload (j := 2) dX7_keepFirst_72 rfl ?_
    refine J_iadd dX7_keepFirst_74 ?_
    refine J_iconst (v := (-1)) dX7_keepFirst_75 (by decide) ?_
    refine J_iast dX7_keepFirst_76 sh_17 (fun u7 => ?_)
    refine J_iinc (j := 6) (b := 1) (fun v2_8 => [(2, .int v2_8), (6, .int r4), (5, .int r3), (4, .int v4_2), (3, .int v3_1), (0, .ref (llAd G 14)), (1, .int v1)]) dX7_keepFirst_77 rfl (by decide) (by decide) (fun _ => rfl) (fun v2_8 => ?_)
    refine J_goto (tgt := 2) dX7_keepFirst_80 (by decide) ?_
    exact J_cut [5, 6, 0] (lv' := [(0, .ref (llAd G 14)), (1, .int v1), (2, .int v2_8)]) rfl (fun h => h)
def fx_X7_keepFirst_14 (u : llMem) (a0 : Int32) : Option (llMem × Unit) := (loop (fx_X7_keepFirst_14_l2 a0) llFuel (u, a0)).bind (fun e9 => lt (llSI e9 14 1 (if a0 < (e9.1 14 1) then a0 else (e9.1 14 1))) (fun u10 => some (u10, ())))
set_option maxRecDepth 20000 in
theorem tj_X7_keepFirst_14 {G : llG} {d : Nat} (u : llMem) (a0 : Int32) : llJ G RX7 cX7_keepFirst 7 none (d + 2) (fun r => llRet G (llVd r.2) r.1) 0 [(0, .ref (llAd G 14)), (1, .int a0)] [] u (fx_X7_keepFirst_14 u a0) := by
  unfold fx_X7_keepFirst_14
  refine J_iload_n (j := 1) dX7_keepFirst_0 rfl rfl ?_
  refine J_istore_n [(2, .int a0), (0, .ref (llAd G 14)), (1, .int a0)] dX7_keepFirst_1 rfl (by decide) rfl ?_
  refine J_loopE (fun s' => [(0, .ref (llAd G 14)), (1, .int a0), (2, .int s'.2)]) (fun s' => s'.1) 83 (fun e => [(0, .ref (llAd G 14)), (1, .int a0)]) (fun e => e) (fun z => t_X7_keepFirst_14_l2 a0 z) [1, 2, 0] rfl rfl (fun e9 => ?_)
  refine J_aload_n (j := 0) dX7_keepFirst_83 rfl rfl ?_
  refine J_aload_n (j := 0) dX7_keepFirst_84 rfl rfl ?_
  refine J_getI dX7_keepFirst_85 fl_X7_55 sh_14 rfl ?_
  refine J_iload_n (j := 1) dX7_keepFirst_88 rfl rfl ?_
  refine J_mmin dX7_keepFirst_89 wd_659 wd_561 wd_14 wd_562 (Nat.le_of_ble_eq_true rfl) ?_
  refine J_putI dX7_keepFirst_92 fl_X7_55 sh_14 rfl (fun u10 => ?_)
  exact J_vret dX7_keepFirst_95 (fun h => h)
theorem t_X7_keepFirst_14 (l : Launch) (F : llFix) (d : Nat) (u : llMem) (a0 : Int32) : llCt l F yX7_keepFirst cX7_keepFirst 7 none (d + 2) [.ref (F.2.2.1 14), .int a0] u llVd (fx_X7_keepFirst_14 u a0) := llCt.of (by decide +kernel) (by exact Nat.le_of_ble_eq_true rfl) (fun G h1 h2 => by subst h1; subst h2; exact tj_X7_keepFirst_14 u a0)
def fx_J7_fill_53178_18_l5 (v1 : Int32) (v3 : Int32) (s : llMem × Int32) : Option ((llMem × Int32) ⊕ (llMem)) := (if v3 ≤ s.2 then some (.inr s.1) else gI s.2 30 (lt (llSI s.1 18 (Int32.toNatClampNeg s.2) v1) (fun u1 => lt (s.2 + 1) (fun v2_2 => some (.inl (u1, v2_2))))))
set_option maxRecDepth 20000 in
theorem t_J7_fill_53178_18_l5 {G : llG} {d : Nat} (v1 : Int32) (v3 : Int32) (s : llMem × Int32) : llJ G RJ7 cJ7_fill_53178 4 none d (Sum.elim (fun s' => llJq G 4 5 [(0, .ref (llAd G 18)), (1, .int v1), (2, .int s'.2), (3, .int v3)] [] s'.1) (fun e => llJq G 4 20 [] [] e)) 5 [(0, .ref (llAd G 18)), (1, .int v1), (2, .int s.2), (3, .int v3)] [] s.1 (fx_J7_fill_53178_18_l5 v1 v3 s) := by
  unfold fx_J7_fill_53178_18_l5
  refine J_iload_n (j := 2) dJ7_fill_53178_5 rfl rfl ?_
  refine J_iload_n (j := 3) dJ7_fill_53178_6 rfl rfl ?_
  refine J_icmp_ge (tgt := 20) dJ7_fill_53178_7 (by decide) ?_ ?_
  · exact J_cut [] (lv' := []) rfl (fun h => h)
  · refine J_aload_n (j := 0) dJ7_fill_53178_10 rfl rfl ?_
    refine J_iload_n (j := 2) dJ7_fill_53178_11 rfl rfl ?_
    refine J_iload_n (j := 1) dJ7_fill_53178_12 rfl rfl ?_
    refine J_iast dJ7_fill_53178_13 sh_18 (fun u1 => ?_)
    refine J_iinc (j := 2) (b := 1) (fun v2_2 => [(2, .int v2_2), (0, .ref (llAd G 18)), (1, .int v1), (3, .int v3)]) dJ7_fill_53178_14 rfl (by decide) (by decide) (fun _ => rfl) (fun v2_2 => ?_)
    refine J_goto (tgt := 5) dJ7_fill_53178_17 (by decide) ?_
    exact J_cut [1, 2, 0, 3] (lv' := [(0, .ref (llAd G 18)), (1, .int v1), (2, .int v2_2), (3, .int v3)]) rfl (fun h => h)
def fx_J7_fill_53178_18 (u : llMem) (a1 : Int32) : Option (llMem × Unit) := (loop (fx_J7_fill_53178_18_l5 a1 30) llFuel (u, 0)).bind (fun e3 => some (e3, ()))
set_option maxRecDepth 20000 in
theorem tj_J7_fill_53178_18 {G : llG} {d : Nat} (u : llMem) (a1 : Int32) : llJ G RJ7 cJ7_fill_53178 4 none d (fun r => llRet G (llVd r.2) r.1) 0 [(0, .ref (llAd G 18)), (1, .int a1)] [] u (fx_J7_fill_53178_18 u a1) := by
  unfold fx_J7_fill_53178_18
  refine J_iconst (v := 0) dJ7_fill_53178_0 (by decide) ?_
  refine J_istore_n [(2, .int 0), (0, .ref (llAd G 18)), (1, .int a1)] dJ7_fill_53178_1 rfl (by decide) rfl ?_
  refine J_aload_n (j := 1) dJ7_fill_53178_2 rfl rfl ?_
  refine J_alen (v := 30) dJ7_fill_53178_3 sh_18 (by decide) (by decide) ?_
  refine J_istore_n [(3, .int 30), (2, .int 0), (0, .ref (llAd G 18)), (1, .int a1)] dJ7_fill_53178_4 rfl (by decide) rfl ?_
  refine J_loopE (fun s' => [(0, .ref (llAd G 18)), (1, .int a1), (2, .int s'.2), (3, .int 30)]) (fun s' => s'.1) 20 (fun e => []) (fun e => e) (fun z => t_J7_fill_53178_18_l5 a1 30 z) [2, 3, 1, 0] rfl rfl (fun e3 => ?_)
  exact J_vret dJ7_fill_53178_20 (fun h => h)
theorem t_J7_fill_53178_18 (l : Launch) (F : llFix) (d : Nat) (u : llMem) (a1 : Int32) : llCt l F yJ7_fill_53178 cJ7_fill_53178 4 none d [.ref (F.2.2.1 18), .int a1] u llVd (fx_J7_fill_53178_18 u a1) := llCt.of (by decide +kernel) (by exact Nat.le_of_ble_eq_true rfl) (fun G h1 h2 => by subst h1; subst h2; exact tj_J7_fill_53178_18 u a1)
def fx_J7_fill_53178_19_l5 (v1 : Int32) (v3 : Int32) (s : llMem × Int32) : Option ((llMem × Int32) ⊕ (llMem)) := (if v3 ≤ s.2 then some (.inr s.1) else gI s.2 30 (lt (llSI s.1 19 (Int32.toNatClampNeg s.2) v1) (fun u1 => lt (s.2 + 1) (fun v2_2 => some (.inl (u1, v2_2))))))
set_option maxRecDepth 20000 in
theorem t_J7_fill_53178_19_l5 {G : llG} {d : Nat} (v1 : Int32) (v3 : Int32) (s : llMem × Int32) : llJ G RJ7 cJ7_fill_53178 4 none d (Sum.elim (fun s' => llJq G 4 5 [(0, .ref (llAd G 19)), (1, .int v1), (2, .int s'.2), (3, .int v3)] [] s'.1) (fun e => llJq G 4 20 [] [] e)) 5 [(0, .ref (llAd G 19)), (1, .int v1), (2, .int s.2), (3, .int v3)] [] s.1 (fx_J7_fill_53178_19_l5 v1 v3 s) := by
  unfold fx_J7_fill_53178_19_l5
  refine J_iload_n (j := 2) dJ7_fill_53178_5 rfl rfl ?_
  refine J_iload_n (j := 3) dJ7_fill_53178_6 rfl rfl ?_
  refine J_icmp_ge (tgt := 20) dJ7_fill_53178_7 (by decide) ?_ ?_
  · exact J_cut [] (lv' := []) rfl (fun h => h)
  · refine J_aload_n (j := 0) dJ7_fill_53178_10 rfl rfl ?_
    refine J_iload_n (j := 2) dJ7_fill_53178_11 rfl rfl ?_
    refine J_iload_n (j := 1) dJ7_fill_53178_12 rfl rfl ?_
    refine J_iast dJ7_fill_53178_13 sh_19 (fun u1 => ?_)
    refine J_iinc (j := 2) (b := 1) (fun v2_2 => [(2, .int v2_2), (0, .ref (llAd G 19)), (1, .int v1), (3, .int v3)]) dJ7_fill_53178_14 rfl (by decide) (by decide) (fun _ => rfl) (fun v2_2 => ?_)
    refine J_goto (tgt := 5) dJ7_fill_53178_17 (by decide) ?_
    exact J_cut [1, 2, 0, 3] (lv' := [(0, .ref (llAd G 19)), (1, .int v1), (2, .int v2_2), (3, .int v3)]) rfl (fun h => h)
def fx_J7_fill_53178_19 (u : llMem) (a1 : Int32) : Option (llMem × Unit) := (loop (fx_J7_fill_53178_19_l5 a1 30) llFuel (u, 0)).bind (fun e3 => some (e3, ()))
set_option maxRecDepth 20000 in
theorem tj_J7_fill_53178_19 {G : llG} {d : Nat} (u : llMem) (a1 : Int32) : llJ G RJ7 cJ7_fill_53178 4 none d (fun r => llRet G (llVd r.2) r.1) 0 [(0, .ref (llAd G 19)), (1, .int a1)] [] u (fx_J7_fill_53178_19 u a1) := by
  unfold fx_J7_fill_53178_19
  refine J_iconst (v := 0) dJ7_fill_53178_0 (by decide) ?_
  refine J_istore_n [(2, .int 0), (0, .ref (llAd G 19)), (1, .int a1)] dJ7_fill_53178_1 rfl (by decide) rfl ?_
  refine J_aload_n (j := 1) dJ7_fill_53178_2 rfl rfl ?_
  refine J_alen (v := 30) dJ7_fill_53178_3 sh_19 (by decide) (by decide) ?_
  refine J_istore_n [(3, .int 30), (2, .int 0), (0, .ref (llAd G 19)), (1, .int a1)] dJ7_fill_53178_4 rfl (by decide) rfl ?_
  refine J_loopE (fun s' => [(0, .ref (llAd G 19)), (1, .int a1), (2, .int s'.2), (3, .int 30)]) (fun s' => s'.1) 20 (fun e => []) (fun e => e) (fun z => t_J7_fill_53178_19_l5 a1 30 z) [2, 3, 1, 0] rfl rfl (fun e3 => ?_)
  exact J_vret dJ7_fill_53178_20 (fun h => h)
theorem t_J7_fill_53178_19 (l : Launch) (F : llFix) (d : Nat) (u : llMem) (a1 : Int32) : llCt l F yJ7_fill_53178 cJ7_fill_53178 4 none d [.ref (F.2.2.1 19), .int a1] u llVd (fx_J7_fill_53178_19 u a1) := llCt.of (by decide +kernel) (by exact Nat.le_of_ble_eq_true rfl) (fun G h1 h2 => by subst h1; subst h2; exact tj_J7_fill_53178_19 u a1)
def fx_J7_fill_53178_20_l5 (v1 : Int32) (v3 : Int32) (s : llMem × Int32) : Option ((llMem × Int32) ⊕ (llMem)) := (if v3 ≤ s.2 then some (.inr s.1) else gI s.2 30 (lt (llSI s.1 20 (Int32.toNatClampNeg s.2) v1) (fun u1 => lt (s.2 + 1) (fun v2_2 => some (.inl (u1, v2_2))))))
set_option maxRecDepth 20000 in
theorem t_J7_fill_53178_20_l5 {G : llG} {d : Nat} (v1 : Int32) (v3 : Int32) (s : llMem × Int32) : llJ G RJ7 cJ7_fill_53178 4 none d (Sum.elim (fun s' => llJq G 4 5 [(0, .ref (llAd G 20)), (1, .int v1), (2, .int s'.2), (3, .int v3)] [] s'.1) (fun e => llJq G 4 20 [] [] e)) 5 [(0, .ref (llAd G 20)), (1, .int v1), (2, .int s.2), (3, .int v3)] [] s.1 (fx_J7_fill_53178_20_l5 v1 v3 s) := by
  unfold fx_J7_fill_53178_20_l5
  refine J_iload_n (j := 2) dJ7_fill_53178_5 rfl rfl ?_
  refine J_iload_n (j := 3) dJ7_fill_53178_6 rfl rfl ?_
  refine J_icmp_ge (tgt := 20) dJ7_fill_53178_7 (by decide) ?_ ?_
  · exact J_cut [] (lv' := []) rfl (fun h => h)
  · refine J_aload_n (j := 0) dJ7_fill_53178_10 rfl rfl ?_
    refine J_iload_n (j := 2) dJ7_fill_53178_11 rfl rfl ?_
    refine J_iload_n (j := 1) dJ7_fill_53178_12 rfl rfl ?_
    refine J_iast dJ7_fill_53178_13 sh_20 (fun u1 => ?_)
    refine J_iinc (j := 2) (b := 1) (fun v2_2 => [(2, .int v2_2), (0, .ref (llAd G 20)), (1, .int v1), (3, .int v3)]) dJ7_fill_53178_14 rfl (by decide) (by decide) (fun _ => rfl) (fun v2_2 => ?_)
    refine J_goto (tgt := 5) dJ7_fill_53178_17 (by decide) ?_
    exact J_cut [1, 2, 0, 3] (lv' := [(0, .ref (llAd G 20)), (1, .int v1), (2, .int v2_2), (3, .int v3)]) rfl (fun h => h)
def fx_J7_fill_53178_20 (u : llMem) (a1 : Int32) : Option (llMem × Unit) := (loop (fx_J7_fill_53178_20_l5 a1 30) llFuel (u, 0)).bind (fun e3 => some (e3, ()))
set_option maxRecDepth 20000 in
theorem tj_J7_fill_53178_20 {G : llG} {d : Nat} (u : llMem) (a1 : Int32) : llJ G RJ7 cJ7_fill_53178 4 none d (fun r => llRet G (llVd r.2) r.1) 0 [(0, .ref (llAd G 20)), (1, .int a1)] [] u (fx_J7_fill_53178_20 u a1) := by
  unfold fx_J7_fill_53178_20
  refine J_iconst (v := 0) dJ7_fill_53178_0 (by decide) ?_
  refine J_istore_n [(2, .int 0), (0, .ref (llAd G 20)), (1, .int a1)] dJ7_fill_53178_1 rfl (by decide) rfl ?_
  refine J_aload_n (j := 1) dJ7_fill_53178_2 rfl rfl ?_
  refine J_alen (v := 30) dJ7_fill_53178_3 sh_20 (by decide) (by decide) ?_
  refine J_istore_n [(3, .int 30), (2, .int 0), (0, .ref (llAd G 20)), (1, .int a1)] dJ7_fill_53178_4 rfl (by decide) rfl ?_
  refine J_loopE (fun s' => [(0, .ref (llAd G 20)), (1, .int a1), (2, .int s'.2), (3, .int 30)]) (fun s' => s'.1) 20 (fun e => []) (fun e => e) (fun z => t_J7_fill_53178_20_l5 a1 30 z) [2, 3, 1, 0] rfl rfl (fun e3 => ?_)
  exact J_vret dJ7_fill_53178_20 (fun h => h)
theorem t_J7_fill_53178_20 (l : Launch) (F : llFix) (d : Nat) (u : llMem) (a1 : Int32) : llCt l F yJ7_fill_53178 cJ7_fill_53178 4 none d [.ref (F.2.2.1 20), .int a1] u llVd (fx_J7_fill_53178_20 u a1) := llCt.of (by decide +kernel) (by exact Nat.le_of_ble_eq_true rfl) (fun G h1 h2 => by subst h1; subst h2; exact tj_J7_fill_53178_20 u a1)
def fx_X7_begin_14 (u : llMem)  : Option (llMem × Unit) := bd (fx_X7_keepFirst_14 u 0) (fun u1 _ => bd (fx_J7_fill_53178_18 u1 0) (fun u2 _ => bd (fx_J7_fill_53178_19 u2 0) (fun u3 _ => bd (fx_J7_fill_53178_20 u3 0) (fun u4 _ => some (u4, ())))))
set_option maxRecDepth 20000 in
theorem tj_X7_begin_14 {G : llG} {d : Nat} (u : llMem)  : llJ G RX7 cX7_begin 1 none (d + 3) (fun r => llRet G (llVd r.2) r.1) 0 [(0, .ref (llAd G 14))] [] u (fx_X7_begin_14 u ) := by
  unfold fx_X7_begin_14
  refine J_aload_n (j := 0) dX7_begin_0 rfl rfl ?_
  refine J_iconst (v := 0) dX7_begin_1 (by decide) ?_
  refine J_callVv1 dX7_begin_2 (t_X7_keepFirst_14 (llL G) (llFx G) d u 0) ym_X7_keepFirst wd_639 sh_14 rfl (Nat.le_of_ble_eq_true rfl) (fun u1 => ?_)
  refine J_aload_n (j := 0) dX7_begin_5 rfl rfl ?_
  refine J_getR (b := 18) dX7_begin_6 fl_X7_27 sh_14 rfl ?_
  refine J_iconst (v := 0) dX7_begin_9 (by decide) ?_
  refine J_callSv2 dX7_begin_10 (t_J7_fill_53178_18 (llL G) (llFx G) (d + 2) u1 0) ym_J7_fill_53178 wd_177 (Nat.le_of_ble_eq_true rfl) (fun u2 => ?_)
  refine J_aload_n (j := 0) dX7_begin_13 rfl rfl ?_
  refine J_getR (b := 19) dX7_begin_14 fl_X7_30 sh_14 rfl ?_
  refine J_iconst (v := 0) dX7_begin_17 (by decide) ?_
  refine J_callSv2 dX7_begin_18 (t_J7_fill_53178_19 (llL G) (llFx G) (d + 2) u2 0) ym_J7_fill_53178 wd_177 (Nat.le_of_ble_eq_true rfl) (fun u3 => ?_)
  refine J_aload_n (j := 0) dX7_begin_21 rfl rfl ?_
  refine J_getR (b := 20) dX7_begin_22 fl_X7_33 sh_14 rfl ?_
  refine J_iconst (v := 0) dX7_begin_25 (by decide) ?_
  refine J_callSv2 dX7_begin_26 (t_J7_fill_53178_20 (llL G) (llFx G) (d + 2) u3 0) ym_J7_fill_53178 wd_177 (Nat.le_of_ble_eq_true rfl) (fun u4 => ?_)
  exact J_vret dX7_begin_29 (fun h => h)
theorem t_X7_begin_14 (l : Launch) (F : llFix) (d : Nat) (u : llMem)  : llCt l F yX7_begin cX7_begin 1 none (d + 3) [.ref (F.2.2.1 14)] u llVd (fx_X7_begin_14 u ) := llCt.of (by decide +kernel) (by exact Nat.le_of_ble_eq_true rfl) (fun G h1 h2 => by subst h1; subst h2; exact tj_X7_begin_14 u )
def fx_X11_pyramid_0 (u : llMem)  : Option (llMem × Int32) := bd (fx_X6_read_30 u ) (fun u1 r2 => lt (llSI u1 1 1 0) (fun u3 => (if ¬ r2 = 0 then bd (fx_X5_copy_3_31 u3 ) (fun u4 _ => bd (fx_X10_measure_48 u4 ) (fun u5 _ => bd (fx_X4_forgetAll_52 u5 ) (fun u6 _ => bd (fx_X7_begin_14 u6 ) (fun u7 _ => lt (llSI u7 14 0 0) (fun u8 => lt (llSI u8 26 2 0) (fun u9 => some (u9, u9.1 3 5))))))) else some (u3, (-1)))))
set_option maxRecDepth 20000 in
theorem tj_X11_pyramid_0 {G : llG} {d : Nat} (u : llMem)  : llJ G RX11 cX11_pyramid 2 (some .int) (d + 6) (fun r => llRet G (llI r.2) r.1) 0 [(0, .ref (llAd G 0))] [] u (fx_X11_pyramid_0 u ) := by
  unfold fx_X11_pyramid_0
  refine J_aload_n (j := 0) dX11_pyramid_0 rfl rfl ?_
  refine J_getR (b := 30) dX11_pyramid_1 fl_X11_44 sh_0 rfl ?_
  refine J_callVi0 dX11_pyramid_4 (t_X6_read_30 (llL G) (llFx G) d u ) ym_X6_read wd_507 sh_30 rfl (Nat.le_of_ble_eq_true rfl) (fun u1 r2 => ?_)
  refine J_istore_n [(1, .int r2), (0, .ref (llAd G 0))] dX11_pyramid_7 rfl (by decide) rfl ?_
  refine J_aload_n (j := 1) dX11_pyramid_8 rfl rfl ?_
  refine J_getR (b := 1) dX11_pyramid_9 fl_X11_10 sh_0 rfl ?_
  refine J_iconst (v := 0) dX11_pyramid_12 (by decide) ?_
  refine J_putI dX11_pyramid_13 fl_X11_91 sh_1 rfl (fun u3 => ?_)
  refine J_iload_n (j := 0) dX11_pyramid_16 rfl rfl ?_
  refine J_if_ne (tgt := 22) dX11_pyramid_17 (by decide) ?_ ?_
  · refine J_aload_n (j := 1) dX11_pyramid_22 rfl rfl ?_
    refine J_getR (b := 3) dX11_pyramid_23 fl_X11_19 sh_0 rfl ?_
    refine J_aload_n (j := 1) dX11_pyramid_26 rfl rfl ?_
    refine J_getR (b := 30) dX11_pyramid_27 fl_X11_44 sh_0 rfl ?_
    refine J_getR (b := 31) dX11_pyramid_30 fl_X11_103 sh_30 rfl ?_
    refine J_callVv1 dX11_pyramid_33 (t_X5_copy_3_31 (llL G) (llFx G) (d + 5) u3 ) ym_X5_copy wd_616 sh_3 rfl (Nat.le_of_ble_eq_true rfl) (fun u4 => ?_)
    refine J_aload_n (j := 1) dX11_pyramid_36 rfl rfl ?_
    refine J_getR (b := 48) dX11_pyramid_37 fl_X11_69 sh_0 rfl ?_
    refine J_callVv0 dX11_pyramid_40 (t_X10_measure_48 (llL G) (llFx G) (d + 4) u4 ) ym_X10_measure wd_623 sh_48 rfl (Nat.le_of_ble_eq_true rfl) (fun u5 => ?_)
    refine J_aload_n (j := 1) dX11_pyramid_43 rfl rfl ?_
    refine J_getR (b := 52) dX11_pyramid_44 fl_X11_78 sh_0 rfl ?_
    refine J_callVv0 dX11_pyramid_47 (t_X4_forgetAll_52 (llL G) (llFx G) (d + 4) u5 ) ym_X4_forgetAll wd_630 sh_52 rfl (Nat.le_of_ble_eq_true rfl) (fun u6 => ?_)
    refine J_aload_n (j := 1) dX11_pyramid_50 rfl rfl ?_
    refine J_getR (b := 14) dX11_pyramid_51 fl_X11_26 sh_0 rfl ?_
    refine J_callVv0 dX11_pyramid_54 (t_X7_begin_14 (llL G) (llFx G) (d + 2) u6 ) ym_X7_begin wd_635 sh_14 rfl (Nat.le_of_ble_eq_true rfl) (fun u7 => ?_)
    refine J_aload_n (j := 1) dX11_pyramid_57 rfl rfl ?_
    refine J_getR (b := 14) dX11_pyramid_58 fl_X11_26 sh_0 rfl ?_
    refine J_iconst (v := 0) dX11_pyramid_61 (by decide) ?_
    refine J_putI dX11_pyramid_62 fl_X11_118 sh_14 rfl (fun u8 => ?_)
    refine J_aload_n (j := 1) dX11_pyramid_65 rfl rfl ?_
    refine J_getR (b := 26) dX11_pyramid_66 fl_X11_35 sh_0 rfl ?_
    refine J_iconst (v := 0) dX11_pyramid_69 (by decide) ?_
    refine J_putI dX11_pyramid_70 fl_X11_121 sh_26 rfl (fun u9 => ?_)
    refine J_aload_n (j := 1) dX11_pyramid_73 rfl rfl ?_
    refine J_getR (b := 3) dX11_pyramid_74 fl_X11_19 sh_0 rfl ?_
    refine J_getI dX11_pyramid_77 fl_X11_124 sh_3 rfl ?_
    exact J_iret dX11_pyramid_80 (fun h => h)
  · refine J_iconst (v := (-1)) dX11_pyramid_20 (by decide) ?_
    exact J_iret dX11_pyramid_21 (fun h => h)
theorem t_X11_pyramid_0 (l : Launch) (F : llFix) (d : Nat) (u : llMem)  : llCt l F yX11_pyramid cX11_pyramid 2 (some .int) (d + 6) [.ref (F.2.2.1 0)] u llI (fx_X11_pyramid_0 u ) := llCt.of (by decide +kernel) (by exact Nat.le_of_ble_eq_true rfl) (fun G h1 h2 => by subst h1; subst h2; exact tj_X11_pyramid_0 u )
def fx_X12_see_69 (u : llMem) (a0 : Int32) : Option Int32 := (if (u.1 69 16) ≤ a0 then some ((-1)) else gI a0 700 (some (rI u 79 a0)))
set_option maxRecDepth 20000 in
theorem tj_X12_see_69 {G : llG} {d : Nat} (u : llMem) (a0 : Int32) : llJ G RX12 cX12_see 2 (some .int) d (fun r => llRet G (llI r) u) 0 [(0, .ref (llAd G 69)), (1, .int a0)] [] u (fx_X12_see_69 u a0) := by
  unfold fx_X12_see_69
  refine J_iload_n (j := 1) dX12_see_0 rfl rfl ?_
  refine J_aload_n (j := 0) dX12_see_1 rfl rfl ?_
  refine J_getI dX12_see_2 fl_X12_113 sh_69 rfl ?_
  refine J_icmp_ge (tgt := 17) dX12_see_5 (by decide) ?_ ?_
  · refine J_iconst (v := (-1)) dX12_see_17 (by decide) ?_
    exact J_iret dX12_see_18 (fun h => h)
  · refine J_aload_n (j := 0) dX12_see_8 rfl rfl ?_
    refine J_getR (b := 79) dX12_see_9 fl_X12_38 sh_69 rfl ?_
    refine J_iload_n (j := 1) dX12_see_12 rfl rfl ?_
    refine J_iald dX12_see_13 sh_79 ?_
    refine J_goto (tgt := 18) dX12_see_14 (by decide) ?_
    exact J_iret dX12_see_18 (fun h => h)
theorem t_X12_see_69 (l : Launch) (F : llFix) (d : Nat) (u : llMem) (a0 : Int32) : llCp l F yX12_see cX12_see 2 (some .int) d [.ref (F.2.2.1 69), .int a0] u llI (fx_X12_see_69 u a0) := llCp.of (by decide +kernel) (by exact Nat.le_of_ble_eq_true rfl) (fun G h1 h2 => by subst h1; subst h2; exact tj_X12_see_69 u a0)
def fx_X12_next_69_j26_b0 (u : llMem)  : Option ((llMem) ⊕ (llMem)) := lt (llSI u 69 23 ((u.1 69 23) + 1)) (fun u2 => some (.inl u2))
set_option maxRecDepth 20000 in
theorem t_X12_next_69_j26_b0 {G : llG} {d : Nat} (u : llMem)  : llJ G RX12 cX12_next 2 none (d + 1) (Sum.elim (fun s' => llJq G 2 0 [(0, .ref (llAd G 69))] [] s') (fun e => llJq G 2 39 [(0, .ref (llAd G 69))] [] e)) 26 [(0, .ref (llAd G 69))] [] u (fx_X12_next_69_j26_b0 u ) := by
  unfold fx_X12_next_69_j26_b0
  refine J_aload_n (j := 0) dX12_next_26 rfl rfl ?_
  refine J_dup dX12_next_27 rfl ?_
  refine J_getI dX12_next_28 fl_X12_124 sh_69 rfl ?_
  refine J_iconst (v := 1) dX12_next_31 (by decide) ?_
  refine J_iadd dX12_next_32 ?_
  refine J_putI dX12_next_33 fl_X12_124 sh_69 rfl (fun u2 => ?_)
  refine J_goto (tgt := 0) dX12_next_36 (by decide) ?_
  exact J_cut [0] (lv' := [(0, .ref (llAd G 69))]) rfl (fun h => h)
def fx_X12_next_69_l0  (s : llMem) : Option ((llMem) ⊕ (llMem)) := (fx_X12_see_69 s (s.1 69 23)).bind (fun r1 => (if r1 = 32 then fx_X12_next_69_j26_b0 s  else (fx_X12_see_69 s (s.1 69 23)).bind (fun r3 => (if ¬ r3 = 10 then some (.inr s) else fx_X12_next_69_j26_b0 s ))))
set_option maxRecDepth 20000 in
theorem t_X12_next_69_l0 {G : llG} {d : Nat}  (s : llMem) : llJ G RX12 cX12_next 2 none (d + 1) (Sum.elim (fun s' => llJq G 2 0 [(0, .ref (llAd G 69))] [] s') (fun e => llJq G 2 39 [(0, .ref (llAd G 69))] [] e)) 0 [(0, .ref (llAd G 69))] [] s (fx_X12_next_69_l0 s) := by
  unfold fx_X12_next_69_l0
  refine J_aload_n (j := 0) dX12_next_0 rfl rfl ?_
  refine J_aload_n (j := 0) dX12_next_1 rfl rfl ?_
  refine J_getI dX12_next_2 fl_X12_124 sh_69 rfl ?_
  refine J_callVip1 dX12_next_5 (t_X12_see_69 (llL G) (llFx G) d s (s.1 69 23)) ym_X12_see wd_1328 sh_69 rfl (Nat.le_of_ble_eq_true rfl) (fun r1 => ?_)
  refine J_bipush (v := 32) dX12_next_8 (by decide) ?_
  refine J_icmp_eq (tgt := 26) dX12_next_10 (by decide) ?_ ?_
  · refine J_sub [0] (lv' := [(0, .ref (llAd G 69))]) rfl ?_
    exact t_X12_next_69_j26_b0 s 
  · refine J_aload_n (j := 0) dX12_next_13 rfl rfl ?_
    refine J_aload_n (j := 0) dX12_next_14 rfl rfl ?_
    refine J_getI dX12_next_15 fl_X12_124 sh_69 rfl ?_
    refine J_callVip1 dX12_next_18 (t_X12_see_69 (llL G) (llFx G) d s (s.1 69 23)) ym_X12_see wd_1328 sh_69 rfl (Nat.le_of_ble_eq_true rfl) (fun r3 => ?_)
    refine J_bipush (v := 10) dX12_next_21 (by decide) ?_
    refine J_icmp_ne (tgt := 39) dX12_next_23 (by decide) ?_ ?_
    · exact J_cut [0] (lv' := [(0, .ref (llAd G 69))]) rfl (fun h => h)
    · refine J_sub [0] (lv' := [(0, .ref (llAd G 69))]) rfl ?_
      exact t_X12_next_69_j26_b0 s 
def fx_X12_next_69_j250_b193 (u : llMem)  : Option ((llMem) ⊕ (llMem)) := lt (llSI u 69 23 ((u.1 69 23) + 1)) (fun u18 => some (.inl u18))
set_option maxRecDepth 20000 in
theorem t_X12_next_69_j250_b193 {G : llG} {d : Nat} (u : llMem)  : llJ G RX12 cX12_next 2 none (d + 1) (Sum.elim (fun s' => llJq G 2 193 [(0, .ref (llAd G 69))] [] s') (fun e => llJq G 2 283 [] [] e)) 250 [(0, .ref (llAd G 69))] [] u (fx_X12_next_69_j250_b193 u ) := by
  unfold fx_X12_next_69_j250_b193
  refine J_aload_n (j := 0) dX12_next_250 rfl rfl ?_
  refine J_dup dX12_next_251 rfl ?_
  refine J_getI dX12_next_252 fl_X12_124 sh_69 rfl ?_
  refine J_iconst (v := 1) dX12_next_255 (by decide) ?_
  refine J_iadd dX12_next_256 ?_
  refine J_putI dX12_next_257 fl_X12_124 sh_69 rfl (fun u18 => ?_)
  refine J_goto (tgt := 193) dX12_next_260 (by decide) ?_
  exact J_cut [0] (lv' := [(0, .ref (llAd G 69))]) rfl (fun h => h)
def fx_X12_next_69_l193  (s : llMem) : Option ((llMem) ⊕ (llMem)) := (fx_X12_see_69 s (s.1 69 23)).bind (fun r16 => (fx_X12_isIn s (Int32.toInt64 r16) 48 57).bind (fun r17 => (if r17 = 0 then some (.inr s) else (if 3 ≤ ((s.1 69 23) - (s.1 69 22)) then fx_X12_next_69_j250_b193 s  else (fx_X12_see_69 s (s.1 69 23)).bind (fun r19 => lt (llSI s 69 25 (((10 * (s.1 69 25)) + r19) - 48)) (fun u20 => fx_X12_next_69_j250_b193 u20 ))))))
set_option maxRecDepth 20000 in
theorem t_X12_next_69_l193 {G : llG} {d : Nat}  (s : llMem) : llJ G RX12 cX12_next 2 none (d + 1) (Sum.elim (fun s' => llJq G 2 193 [(0, .ref (llAd G 69))] [] s') (fun e => llJq G 2 283 [] [] e)) 193 [(0, .ref (llAd G 69))] [] s (fx_X12_next_69_l193 s) := by
  unfold fx_X12_next_69_l193
  refine J_aload_n (j := 0) dX12_next_193 rfl rfl ?_
  refine J_aload_n (j := 0) dX12_next_194 rfl rfl ?_
  refine J_getI dX12_next_195 fl_X12_124 sh_69 rfl ?_
  refine J_callVip1 dX12_next_198 (t_X12_see_69 (llL G) (llFx G) d s (s.1 69 23)) ym_X12_see wd_1328 sh_69 rfl (Nat.le_of_ble_eq_true rfl) (fun r16 => ?_)
  refine J_i2l dX12_next_201 ?_
  refine J_ldc2 (v := 48) dX12_next_202 wd_1334 ?_
  refine J_ldc2 (v := 57) dX12_next_205 wd_1335 ?_
  refine J_callSip3 dX12_next_208 (t_X12_isIn (llL G) (llFx G) d s (Int32.toInt64 r16) 48 57) ym_X12_isIn wd_1313 (Nat.le_of_ble_eq_true rfl) (fun r17 => ?_)
  refine J_if_eq (tgt := 283) dX12_next_211 (by decide) ?_ ?_
  · exact J_cut [] (lv' := []) rfl (fun h => h)
  · refine J_aload_n (j := 0) dX12_next_214 rfl rfl ?_
    refine J_getI dX12_next_215 fl_X12_124 sh_69 rfl ?_
    refine J_aload_n (j := 0) dX12_next_218 rfl rfl ?_
    refine J_getI dX12_next_219 fl_X12_131 sh_69 rfl ?_
    refine J_isub dX12_next_222 ?_
    refine J_iconst (v := 3) dX12_next_223 (by decide) ?_
    refine J_icmp_ge (tgt := 250) dX12_next_224 (by decide) ?_ ?_
    · refine J_sub [0] (lv' := [(0, .ref (llAd G 69))]) rfl ?_
      exact t_X12_next_69_j250_b193 s 
    · refine J_aload_n (j := 0) dX12_next_227 rfl rfl ?_
      refine J_bipush (v := 10) dX12_next_228 (by decide) ?_
      refine J_aload_n (j := 0) dX12_next_230 rfl rfl ?_
      refine J_getI dX12_next_231 fl_X12_138 sh_69 rfl ?_
      refine J_imul dX12_next_234 ?_
      refine J_aload_n (j := 0) dX12_next_235 rfl rfl ?_
      refine J_aload_n (j := 0) dX12_next_236 rfl rfl ?_
      refine J_getI dX12_next_237 fl_X12_124 sh_69 rfl ?_
      refine J_callVip1 dX12_next_240 (t_X12_see_69 (llL G) (llFx G) d s (s.1 69 23)) ym_X12_see wd_1328 sh_69 rfl (Nat.le_of_ble_eq_true rfl) (fun r19 => ?_)
      refine J_iadd dX12_next_243 ?_
      refine J_bipush (v := 48) dX12_next_244 (by decide) ?_
      refine J_isub dX12_next_246 ?_
      refine J_putI dX12_next_247 fl_X12_138 sh_69 rfl (fun u20 => ?_)
      refine J_sub [0] (lv' := [(0, .ref (llAd G 69))]) rfl ?_
      exact t_X12_next_69_j250_b193 u20 
def fx_X12_next_69_j161_b103 (u : llMem)  : Option ((llMem) ⊕ (llMem)) := lt (llSI u 69 23 ((u.1 69 23) + 1)) (fun u25 => some (.inl u25))
set_option maxRecDepth 20000 in
theorem t_X12_next_69_j161_b103 {G : llG} {d : Nat} (u : llMem)  : llJ G RX12 cX12_next 2 none (d + 1) (Sum.elim (fun s' => llJq G 2 103 [(0, .ref (llAd G 69))] [] s') (fun e => llJq G 2 283 [] [] e)) 161 [(0, .ref (llAd G 69))] [] u (fx_X12_next_69_j161_b103 u ) := by
  unfold fx_X12_next_69_j161_b103
  refine J_aload_n (j := 0) dX12_next_161 rfl rfl ?_
  refine J_dup dX12_next_162 rfl ?_
  refine J_getI dX12_next_163 fl_X12_124 sh_69 rfl ?_
  refine J_iconst (v := 1) dX12_next_166 (by decide) ?_
  refine J_iadd dX12_next_167 ?_
  refine J_putI dX12_next_168 fl_X12_124 sh_69 rfl (fun u25 => ?_)
  refine J_goto (tgt := 103) dX12_next_171 (by decide) ?_
  exact J_cut [0] (lv' := [(0, .ref (llAd G 69))]) rfl (fun h => h)
def fx_X12_next_69_l103  (s : llMem) : Option ((llMem) ⊕ (llMem)) := (fx_X12_see_69 s (s.1 69 23)).bind (fun r23 => (fx_X12_isIn s (Int32.toInt64 r23) 97 122).bind (fun r24 => (if r24 = 0 then some (.inr s) else (if 7 ≤ ((s.1 69 23) - (s.1 69 22)) then fx_X12_next_69_j161_b103 s  else (fx_X12_see_69 s (s.1 69 23)).bind (fun r26 => lt (llSL s 69 24 (((s.2.1 69 24) <<< (Int32.toInt64 5 &&& 63)) ||| (Int32.toInt64 (r26 - 96)))) (fun u27 => fx_X12_next_69_j161_b103 u27 ))))))
set_option maxRecDepth 20000 in
theorem t_X12_next_69_l103 {G : llG} {d : Nat}  (s : llMem) : llJ G RX12 cX12_next 2 none (d + 1) (Sum.elim (fun s' => llJq G 2 103 [(0, .ref (llAd G 69))] [] s') (fun e => llJq G 2 283 [] [] e)) 103 [(0, .ref (llAd G 69))] [] s (fx_X12_next_69_l103 s) := by
  unfold fx_X12_next_69_l103
  refine J_aload_n (j := 0) dX12_next_103 rfl rfl ?_
  refine J_aload_n (j := 0) dX12_next_104 rfl rfl ?_
  refine J_getI dX12_next_105 fl_X12_124 sh_69 rfl ?_
  refine J_callVip1 dX12_next_108 (t_X12_see_69 (llL G) (llFx G) d s (s.1 69 23)) ym_X12_see wd_1328 sh_69 rfl (Nat.le_of_ble_eq_true rfl) (fun r23 => ?_)
  refine J_i2l dX12_next_111 ?_
  refine J_ldc2 (v := 97) dX12_next_112 wd_1332 ?_
  refine J_ldc2 (v := 122) dX12_next_115 wd_1333 ?_
  refine J_callSip3 dX12_next_118 (t_X12_isIn (llL G) (llFx G) d s (Int32.toInt64 r23) 97 122) ym_X12_isIn wd_1313 (Nat.le_of_ble_eq_true rfl) (fun r24 => ?_)
  refine J_if_eq (tgt := 283) dX12_next_121 (by decide) ?_ ?_
  · exact J_cut [] (lv' := []) rfl (fun h => h)
  · refine J_aload_n (j := 0) dX12_next_124 rfl rfl ?_
    refine J_getI dX12_next_125 fl_X12_124 sh_69 rfl ?_
    refine J_aload_n (j := 0) dX12_next_128 rfl rfl ?_
    refine J_getI dX12_next_129 fl_X12_131 sh_69 rfl ?_
    refine J_isub dX12_next_132 ?_
    refine J_bipush (v := 7) dX12_next_133 (by decide) ?_
    refine J_icmp_ge (tgt := 161) dX12_next_135 (by decide) ?_ ?_
    · refine J_sub [0] (lv' := [(0, .ref (llAd G 69))]) rfl ?_
      exact t_X12_next_69_j161_b103 s 
    · refine J_aload_n (j := 0) dX12_next_138 rfl rfl ?_
      refine J_aload_n (j := 0) dX12_next_139 rfl rfl ?_
      refine J_getL dX12_next_140 fl_X12_134 sh_69 rfl ?_
      refine J_iconst (v := 5) dX12_next_143 (by decide) ?_
      refine J_lshl dX12_next_144 ?_
      refine J_aload_n (j := 0) dX12_next_145 rfl rfl ?_
      refine J_aload_n (j := 0) dX12_next_146 rfl rfl ?_
      refine J_getI dX12_next_147 fl_X12_124 sh_69 rfl ?_
      refine J_callVip1 dX12_next_150 (t_X12_see_69 (llL G) (llFx G) d s (s.1 69 23)) ym_X12_see wd_1328 sh_69 rfl (Nat.le_of_ble_eq_true rfl) (fun r26 => ?_)
      refine J_bipush (v := 96) dX12_next_153 (by decide) ?_
      refine J_isub dX12_next_155 ?_
      refine J_i2l dX12_next_156 ?_
      refine J_lor dX12_next_157 ?_
      refine J_putL dX12_next_158 fl_X12_134 sh_69 rfl (fun u27 => ?_)
      refine J_sub [0] (lv' := [(0, .ref (llAd G 69))]) rfl ?_
      exact t_X12_next_69_j161_b103 u27 
def fx_X12_next_69 (u : llMem)  : Option (llMem × Unit) := (loop (fx_X12_next_69_l0) llFuel u).bind (fun e4 => lt (llSI e4 69 22 (e4.1 69 23)) (fun u5 => (fx_X12_see_69 u5 (u5.1 69 23)).bind (fun r6 => lt (llSL u5 69 24 0) (fun u7 => lt (llSI u7 69 25 0) (fun u8 => lt (llSI u8 69 26 0) (fun u9 => (if ¬ r6 = ((-1)) then (fx_X12_isIn u9 (Int32.toInt64 r6) 97 122).bind (fun r10 => (if r10 = 0 then (fx_X12_isIn u9 (Int32.toInt64 r6) 48 57).bind (fun r11 => (if r11 = 0 then lt (llSI u9 69 21 3) (fun u12 => lt (llSI u12 69 26 r6) (fun u13 => lt (llSI u13 69 23 ((u13.1 69 23) + 1)) (fun u14 => some (u14, ())))) else lt (llSI u9 69 21 2) (fun u15 => (loop (fx_X12_next_69_l193) llFuel u15).bind (fun e21 => some (e21, ()))))) else lt (llSI u9 69 21 1) (fun u22 => (loop (fx_X12_next_69_l103) llFuel u22).bind (fun e28 => some (e28, ()))))) else lt (llSI u9 69 21 0) (fun u29 => some (u29, ())))))))))
set_option maxRecDepth 20000 in
theorem tj_X12_next_69 {G : llG} {d : Nat} (u : llMem)  : llJ G RX12 cX12_next 2 none (d + 1) (fun r => llRet G (llVd r.2) r.1) 0 [(0, .ref (llAd G 69))] [] u (fx_X12_next_69 u ) := by
  unfold fx_X12_next_69
  refine J_loopE (fun s' => [(0, .ref (llAd G 69))]) (fun s' => s') 39 (fun e => [(0, .ref (llAd G 69))]) (fun e => e) (fun z => t_X12_next_69_l0 z) [0] rfl rfl (fun e4 => ?_)
  refine J_aload_n (j := 0) dX12_next_39 rfl rfl ?_
  refine J_aload_n (j := 0) dX12_next_40 rfl rfl ?_
  refine J_getI dX12_next_41 fl_X12_124 sh_69 rfl ?_
  refine J_putI dX12_next_44 fl_X12_131 sh_69 rfl (fun u5 => ?_)
  refine J_aload_n (j := 0) dX12_next_47 rfl rfl ?_
  refine J_aload_n (j := 0) dX12_next_48 rfl rfl ?_
  refine J_getI dX12_next_49 fl_X12_124 sh_69 rfl ?_
  refine J_callVip1 dX12_next_52 (t_X12_see_69 (llL G) (llFx G) d u5 (u5.1 69 23)) ym_X12_see wd_1328 sh_69 rfl (Nat.le_of_ble_eq_true rfl) (fun r6 => ?_)
  refine J_istore_n [(1, .int r6), (0, .ref (llAd G 69))] dX12_next_55 rfl (by decide) rfl ?_
  refine J_aload_n (j := 1) dX12_next_56 rfl rfl ?_
  refine J_lconst (v := 0) dX12_next_57 (by decide) ?_
  refine J_putL dX12_next_58 fl_X12_134 sh_69 rfl (fun u7 => ?_)
  refine J_aload_n (j := 1) dX12_next_61 rfl rfl ?_
  refine J_iconst (v := 0) dX12_next_62 (by decide) ?_
  refine J_putI dX12_next_63 fl_X12_138 sh_69 rfl (fun u8 => ?_)
  refine J_aload_n (j := 1) dX12_next_66 rfl rfl ?_
  refine J_iconst (v := 0) dX12_next_67 (by decide) ?_
  refine J_putI dX12_next_68 fl_X12_141 sh_69 rfl (fun u9 => ?_)
  refine J_iload_n (j := 0) dX12_next_71 rfl rfl ?_
  refine J_iconst (v := (-1)) dX12_next_72 (by decide) ?_
  refine J_icmp_ne (tgt := 84) dX12_next_73 (by decide) ?_ ?_
  · refine J_iload_n (j := 0) dX12_next_84 rfl rfl ?_
    refine J_i2l dX12_next_85 ?_
    refine J_ldc2 (v := 97) dX12_next_86 wd_1332 ?_
    refine J_ldc2 (v := 122) dX12_next_89 wd_1333 ?_
    refine J_callSip3 dX12_next_92 (t_X12_isIn (llL G) (llFx G) d u9 (Int32.toInt64 r6) 97 122) ym_X12_isIn wd_1313 (Nat.le_of_ble_eq_true rfl) (fun r10 => ?_)
    refine J_if_eq (tgt := 174) dX12_next_95 (by decide) ?_ ?_
    · refine J_iload_n (j := 0) dX12_next_174 rfl rfl ?_
      refine J_i2l dX12_next_175 ?_
      refine J_ldc2 (v := 48) dX12_next_176 wd_1334 ?_
      refine J_ldc2 (v := 57) dX12_next_179 wd_1335 ?_
      refine J_callSip3 dX12_next_182 (t_X12_isIn (llL G) (llFx G) d u9 (Int32.toInt64 r6) 48 57) ym_X12_isIn wd_1313 (Nat.le_of_ble_eq_true rfl) (fun r11 => ?_)
      refine J_if_eq (tgt := 263) dX12_next_185 (by decide) ?_ ?_
      · refine J_aload_n (j := 1) dX12_next_263 rfl rfl ?_
        refine J_iconst (v := 3) dX12_next_264 (by decide) ?_
        refine J_putI dX12_next_265 fl_X12_144 sh_69 rfl (fun u12 => ?_)
        refine J_aload_n (j := 1) dX12_next_268 rfl rfl ?_
        refine J_iload_n (j := 0) dX12_next_269 rfl rfl ?_
        refine J_putI dX12_next_270 fl_X12_141 sh_69 rfl (fun u13 => ?_)
        refine J_aload_n (j := 1) dX12_next_273 rfl rfl ?_
        refine J_dup dX12_next_274 rfl ?_
        refine J_getI dX12_next_275 fl_X12_124 sh_69 rfl ?_
        refine J_iconst (v := 1) dX12_next_278 (by decide) ?_
        refine J_iadd dX12_next_279 ?_
        refine J_putI dX12_next_280 fl_X12_124 sh_69 rfl (fun u14 => ?_)
        exact J_vret dX12_next_283 (fun h => h)
      · refine J_aload_n (j := 1) dX12_next_188 rfl rfl ?_
        refine J_iconst (v := 2) dX12_next_189 (by decide) ?_
        refine J_putI dX12_next_190 fl_X12_144 sh_69 rfl (fun u15 => ?_)
        refine J_loopE (fun s' => [(0, .ref (llAd G 69))]) (fun s' => s') 283 (fun e => []) (fun e => e) (fun z => t_X12_next_69_l193 z) [1] rfl rfl (fun e21 => ?_)
        exact J_vret dX12_next_283 (fun h => h)
    · refine J_aload_n (j := 1) dX12_next_98 rfl rfl ?_
      refine J_iconst (v := 1) dX12_next_99 (by decide) ?_
      refine J_putI dX12_next_100 fl_X12_144 sh_69 rfl (fun u22 => ?_)
      refine J_loopE (fun s' => [(0, .ref (llAd G 69))]) (fun s' => s') 283 (fun e => []) (fun e => e) (fun z => t_X12_next_69_l103 z) [1] rfl rfl (fun e28 => ?_)
      exact J_vret dX12_next_283 (fun h => h)
  · refine J_aload_n (j := 1) dX12_next_76 rfl rfl ?_
    refine J_iconst (v := 0) dX12_next_77 (by decide) ?_
    refine J_putI dX12_next_78 fl_X12_144 sh_69 rfl (fun u29 => ?_)
    refine J_goto (tgt := 283) dX12_next_81 (by decide) ?_
    exact J_vret dX12_next_283 (fun h => h)
theorem t_X12_next_69 (l : Launch) (F : llFix) (d : Nat) (u : llMem)  : llCt l F yX12_next cX12_next 2 none (d + 1) [.ref (F.2.2.1 69)] u llVd (fx_X12_next_69 u ) := llCt.of (by decide +kernel) (by exact Nat.le_of_ble_eq_true rfl) (fun G h1 h2 => by subst h1; subst h2; exact tj_X12_next_69 u )
def fx_X12_begins_69 (u : llMem)  : Option (llMem × Unit) := lt (llSI u 69 23 0) (fun u1 => lt (llSI u1 69 19 0) (fun u2 => lt (llSI u2 69 20 ((-1))) (fun u3 => bd (fx_X12_next_69 u3 ) (fun u4 _ => some (u4, ())))))
set_option maxRecDepth 20000 in
theorem tj_X12_begins_69 {G : llG} {d : Nat} (u : llMem)  : llJ G RX12 cX12_begins 1 none (d + 2) (fun r => llRet G (llVd r.2) r.1) 0 [(0, .ref (llAd G 69))] [] u (fx_X12_begins_69 u ) := by
  unfold fx_X12_begins_69
  refine J_aload_n (j := 0) dX12_begins_0 rfl rfl ?_
  refine J_iconst (v := 0) dX12_begins_1 (by decide) ?_
  refine J_putI dX12_begins_2 fl_X12_124 sh_69 rfl (fun u1 => ?_)
  refine J_aload_n (j := 0) dX12_begins_5 rfl rfl ?_
  refine J_iconst (v := 0) dX12_begins_6 (by decide) ?_
  refine J_putI dX12_begins_7 fl_X12_155 sh_69 rfl (fun u2 => ?_)
  refine J_aload_n (j := 0) dX12_begins_10 rfl rfl ?_
  refine J_iconst (v := (-1)) dX12_begins_11 (by decide) ?_
  refine J_putI dX12_begins_12 fl_X12_158 sh_69 rfl (fun u3 => ?_)
  refine J_aload_n (j := 0) dX12_begins_15 rfl rfl ?_
  refine J_callVv0 dX12_begins_16 (t_X12_next_69 (llL G) (llFx G) d u3 ) ym_X12_next wd_1324 sh_69 rfl (Nat.le_of_ble_eq_true rfl) (fun u4 => ?_)
  exact J_vret dX12_begins_19 (fun h => h)
theorem t_X12_begins_69 (l : Launch) (F : llFix) (d : Nat) (u : llMem)  : llCt l F yX12_begins cX12_begins 1 none (d + 2) [.ref (F.2.2.1 69)] u llVd (fx_X12_begins_69 u ) := llCt.of (by decide +kernel) (by exact Nat.le_of_ble_eq_true rfl) (fun G h1 h2 => by subst h1; subst h2; exact tj_X12_begins_69 u )
def fx_X12_packed_s0_l4 (u : llMem)  (s : Int64 × Int32) : Option ((Int64 × Int32) ⊕ (Int64)) := (fx_strlen 0 u ).bind (fun r1 => (if r1 ≤ s.2 then some (.inr s.1) else (fx_charAt 0 u s.2).bind (fun r2 => lt ((s.1 <<< (Int32.toInt64 5 &&& 63)) ||| (Int32.toInt64 (r2 - 96))) (fun v1_3 => lt (s.2 + 1) (fun v3_4 => some (.inl (v1_3, v3_4)))))))
set_option maxRecDepth 20000 in
theorem t_X12_packed_s0_l4 {G : llG} {d : Nat} (u : llMem)  (s : Int64 × Int32) : llJ G RX12 cX12_packed 4 (some .long) (d + 6) (Sum.elim (fun s' => llJq G 4 4 [(0, .ref (llSk G 0)), (1, .long s'.1), (3, .int s'.2)] [] u) (fun e => llJq G 4 32 [(1, .long e)] [] u)) 4 [(0, .ref (llSk G 0)), (1, .long s.1), (3, .int s.2)] [] u (fx_X12_packed_s0_l4 u s) := by
  unfold fx_X12_packed_s0_l4
  refine J_iload_n (j := 2) dX12_packed_4 rfl rfl ?_
  refine J_aload_n (j := 0) dX12_packed_5 rfl rfl ?_
  refine J_callTip0 dX12_packed_6 (t_strlen (llL G) (llFx G) d 0 (by decide) u ) ym_J0_length_8abf5 wd_1345 0 (by decide) (Nat.le_of_ble_eq_true rfl) rfl (fun r1 => ?_)
  refine J_icmp_ge (tgt := 32) dX12_packed_9 (by decide) ?_ ?_
  · exact J_cut [1] (lv' := [(1, .long s.1)]) rfl (fun h => h)
  · refine J_lload_n (j := 1) dX12_packed_12 rfl rfl ?_
    refine J_iconst (v := 5) dX12_packed_13 (by decide) ?_
    refine J_lshl dX12_packed_14 ?_
    refine J_aload_n (j := 0) dX12_packed_15 rfl rfl ?_
    refine J_iload_n (j := 2) dX12_packed_16 rfl rfl ?_
    refine J_callTip1 dX12_packed_17 (t_charAt (llL G) (llFx G) d 0 (by decide) u s.2) ym_J0_charAt_5068e wd_1358 0 (by decide) (Nat.le_of_ble_eq_true rfl) rfl (fun r2 => ?_)
    refine J_bipush (v := 96) dX12_packed_20 (by decide) ?_
    refine J_isub dX12_packed_22 ?_
    refine J_i2l dX12_packed_23 ?_
    refine J_lor dX12_packed_24 ?_
    refine J_lstore_nL (fun v1_3 => [(1, .long v1_3), (0, .ref (llSk G 0)), (3, .int s.2)]) dX12_packed_25 rfl (by decide) (fun _ => rfl) (fun v1_3 => ?_)
    refine J_iinc (j := 2) (b := 1) (fun v3_4 => [(3, .int v3_4), (1, .long v1_3), (0, .ref (llSk G 0))]) dX12_packed_26 rfl (by decide) (by decide) (fun _ => rfl) (fun v3_4 => ?_)
    refine J_goto (tgt := 4) dX12_packed_29 (by decide) ?_
    exact J_cut [2, 1, 0] (lv' := [(0, .ref (llSk G 0)), (1, .long v1_3), (3, .int v3_4)]) rfl (fun h => h)
def fx_X12_packed_s0 (u : llMem)  : Option Int64 := (loop (fx_X12_packed_s0_l4 u) llFuel (0, 0)).bind (fun e5 => some e5)
set_option maxRecDepth 20000 in
theorem tj_X12_packed_s0 {G : llG} {d : Nat} (u : llMem)  : llJ G RX12 cX12_packed 4 (some .long) (d + 6) (fun r => llRet G (llLg r) u) 0 [(0, .ref (llSk G 0))] [] u (fx_X12_packed_s0 u ) := by
  unfold fx_X12_packed_s0
  refine J_lconst (v := 0) dX12_packed_0 (by decide) ?_
  refine J_lstore_n [(1, .long 0), (0, .ref (llSk G 0))] dX12_packed_1 rfl (by decide) rfl ?_
  refine J_iconst (v := 0) dX12_packed_2 (by decide) ?_
  refine J_istore_n [(3, .int 0), (1, .long 0), (0, .ref (llSk G 0))] dX12_packed_3 rfl (by decide) rfl ?_
  refine J_loopE (fun s' => [(0, .ref (llSk G 0)), (1, .long s'.1), (3, .int s'.2)]) (fun s' => u) 32 (fun e => [(1, .long e)]) (fun e => u) (fun z => t_X12_packed_s0_l4 u z) [2, 1, 0] rfl rfl (fun e5 => ?_)
  refine J_lload_n (j := 0) dX12_packed_32 rfl rfl ?_
  exact J_lret dX12_packed_33 (fun h => h)
theorem t_X12_packed_s0 (l : Launch) (F : llFix) (d : Nat) (u : llMem)  : llCp l F yX12_packed cX12_packed 4 (some .long) (d + 6) [.ref (F.2.2.2.1 0)] u llLg (fx_X12_packed_s0 u ) := llCp.of (by decide +kernel) (by exact Nat.le_of_ble_eq_true rfl) (fun G h1 h2 => by subst h1; subst h2; exact tj_X12_packed_s0 u )
def fx_X12_isWord_69_s0 (u : llMem)  : Option Int32 := (if ¬ (u.1 69 21) = 1 then gB 0 (some 0) else (fx_strlen 0 u ).bind (fun r1 => (if ¬ ((u.1 69 23) - (u.1 69 22)) = r1 then gB 0 (some 0) else (fx_X12_packed_s0 u ).bind (fun r2 => (if ¬ (lg_cmp (u.2.1 69 24) r2) = 0 then gB 0 (some 0) else gB 1 (some 1))))))
set_option maxRecDepth 20000 in
theorem tj_X12_isWord_69_s0 {G : llG} {d : Nat} (u : llMem)  : llJ G RX12 cX12_isWord 2 (some .boolean) (d + 7) (fun r => llRet G (llI r) u) 0 [(0, .ref (llAd G 69)), (1, .ref (llSk G 0))] [] u (fx_X12_isWord_69_s0 u ) := by
  unfold fx_X12_isWord_69_s0
  refine J_aload_n (j := 0) dX12_isWord_0 rfl rfl ?_
  refine J_getI dX12_isWord_1 fl_X12_144 sh_69 rfl ?_
  refine J_iconst (v := 1) dX12_isWord_4 (by decide) ?_
  refine J_icmp_ne (tgt := 40) dX12_isWord_5 (by decide) ?_ ?_
  · refine J_iconst (v := 0) dX12_isWord_40 (by decide) ?_
    exact J_zret dX12_isWord_41 (fun h => h)
  · refine J_aload_n (j := 0) dX12_isWord_8 rfl rfl ?_
    refine J_getI dX12_isWord_9 fl_X12_124 sh_69 rfl ?_
    refine J_aload_n (j := 0) dX12_isWord_12 rfl rfl ?_
    refine J_getI dX12_isWord_13 fl_X12_131 sh_69 rfl ?_
    refine J_isub dX12_isWord_16 ?_
    refine J_aload_n (j := 1) dX12_isWord_17 rfl rfl ?_
    refine J_callTip0 dX12_isWord_18 (t_strlen (llL G) (llFx G) (d + 1) 0 (by decide) u ) ym_J0_length_8abf5 wd_1345 0 (by decide) (Nat.le_of_ble_eq_true rfl) rfl (fun r1 => ?_)
    refine J_icmp_ne (tgt := 40) dX12_isWord_21 (by decide) ?_ ?_
    · refine J_iconst (v := 0) dX12_isWord_40 (by decide) ?_
      exact J_zret dX12_isWord_41 (fun h => h)
    · refine J_aload_n (j := 0) dX12_isWord_24 rfl rfl ?_
      refine J_getL dX12_isWord_25 fl_X12_134 sh_69 rfl ?_
      refine J_aload_n (j := 1) dX12_isWord_28 rfl rfl ?_
      refine J_callSlp1 dX12_isWord_29 (t_X12_packed_s0 (llL G) (llFx G) d u ) ym_X12_packed wd_1355 (Nat.le_of_ble_eq_true rfl) (fun r2 => ?_)
      refine J_lcmp dX12_isWord_32 ?_
      refine J_if_ne (tgt := 40) dX12_isWord_33 (by decide) ?_ ?_
      · refine J_iconst (v := 0) dX12_isWord_40 (by decide) ?_
        exact J_zret dX12_isWord_41 (fun h => h)
      · refine J_iconst (v := 1) dX12_isWord_36 (by decide) ?_
        refine J_goto (tgt := 41) dX12_isWord_37 (by decide) ?_
        exact J_zret dX12_isWord_41 (fun h => h)
theorem t_X12_isWord_69_s0 (l : Launch) (F : llFix) (d : Nat) (u : llMem)  : llCp l F yX12_isWord cX12_isWord 2 (some .boolean) (d + 7) [.ref (F.2.2.1 69), .ref (F.2.2.2.1 0)] u llI (fx_X12_isWord_69_s0 u ) := llCp.of (by decide +kernel) (by exact Nat.le_of_ble_eq_true rfl) (fun G h1 h2 => by subst h1; subst h2; exact tj_X12_isWord_69_s0 u )
def fx_X12_packed_s4_l4 (u : llMem)  (s : Int64 × Int32) : Option ((Int64 × Int32) ⊕ (Int64)) := (fx_strlen 4 u ).bind (fun r1 => (if r1 ≤ s.2 then some (.inr s.1) else (fx_charAt 4 u s.2).bind (fun r2 => lt ((s.1 <<< (Int32.toInt64 5 &&& 63)) ||| (Int32.toInt64 (r2 - 96))) (fun v1_3 => lt (s.2 + 1) (fun v3_4 => some (.inl (v1_3, v3_4)))))))
set_option maxRecDepth 20000 in
theorem t_X12_packed_s4_l4 {G : llG} {d : Nat} (u : llMem)  (s : Int64 × Int32) : llJ G RX12 cX12_packed 4 (some .long) (d + 6) (Sum.elim (fun s' => llJq G 4 4 [(0, .ref (llSk G 4)), (1, .long s'.1), (3, .int s'.2)] [] u) (fun e => llJq G 4 32 [(1, .long e)] [] u)) 4 [(0, .ref (llSk G 4)), (1, .long s.1), (3, .int s.2)] [] u (fx_X12_packed_s4_l4 u s) := by
  unfold fx_X12_packed_s4_l4
  refine J_iload_n (j := 2) dX12_packed_4 rfl rfl ?_
  refine J_aload_n (j := 0) dX12_packed_5 rfl rfl ?_
  refine J_callTip0 dX12_packed_6 (t_strlen (llL G) (llFx G) d 4 (by decide) u ) ym_J0_length_8abf5 wd_1345 4 (by decide) (Nat.le_of_ble_eq_true rfl) rfl (fun r1 => ?_)
  refine J_icmp_ge (tgt := 32) dX12_packed_9 (by decide) ?_ ?_
  · exact J_cut [1] (lv' := [(1, .long s.1)]) rfl (fun h => h)
  · refine J_lload_n (j := 1) dX12_packed_12 rfl rfl ?_
    refine J_iconst (v := 5) dX12_packed_13 (by decide) ?_
    refine J_lshl dX12_packed_14 ?_
    refine J_aload_n (j := 0) dX12_packed_15 rfl rfl ?_
    refine J_iload_n (j := 2) dX12_packed_16 rfl rfl ?_
    refine J_callTip1 dX12_packed_17 (t_charAt (llL G) (llFx G) d 4 (by decide) u s.2) ym_J0_charAt_5068e wd_1358 4 (by decide) (Nat.le_of_ble_eq_true rfl) rfl (fun r2 => ?_)
    refine J_bipush (v := 96) dX12_packed_20 (by decide) ?_
    refine J_isub dX12_packed_22 ?_
    refine J_i2l dX12_packed_23 ?_
    refine J_lor dX12_packed_24 ?_
    refine J_lstore_nL (fun v1_3 => [(1, .long v1_3), (0, .ref (llSk G 4)), (3, .int s.2)]) dX12_packed_25 rfl (by decide) (fun _ => rfl) (fun v1_3 => ?_)
    refine J_iinc (j := 2) (b := 1) (fun v3_4 => [(3, .int v3_4), (1, .long v1_3), (0, .ref (llSk G 4))]) dX12_packed_26 rfl (by decide) (by decide) (fun _ => rfl) (fun v3_4 => ?_)
    refine J_goto (tgt := 4) dX12_packed_29 (by decide) ?_
    exact J_cut [2, 1, 0] (lv' := [(0, .ref (llSk G 4)), (1, .long v1_3), (3, .int v3_4)]) rfl (fun h => h)
def fx_X12_packed_s4 (u : llMem)  : Option Int64 := (loop (fx_X12_packed_s4_l4 u) llFuel (0, 0)).bind (fun e5 => some e5)
set_option maxRecDepth 20000 in
theorem tj_X12_packed_s4 {G : llG} {d : Nat} (u : llMem)  : llJ G RX12 cX12_packed 4 (some .long) (d + 6) (fun r => llRet G (llLg r) u) 0 [(0, .ref (llSk G 4))] [] u (fx_X12_packed_s4 u ) := by
  unfold fx_X12_packed_s4
  refine J_lconst (v := 0) dX12_packed_0 (by decide) ?_
  refine J_lstore_n [(1, .long 0), (0, .ref (llSk G 4))] dX12_packed_1 rfl (by decide) rfl ?_
  refine J_iconst (v := 0) dX12_packed_2 (by decide) ?_
  refine J_istore_n [(3, .int 0), (1, .long 0), (0, .ref (llSk G 4))] dX12_packed_3 rfl (by decide) rfl ?_
  refine J_loopE (fun s' => [(0, .ref (llSk G 4)), (1, .long s'.1), (3, .int s'.2)]) (fun s' => u) 32 (fun e => [(1, .long e)]) (fun e => u) (fun z => t_X12_packed_s4_l4 u z) [2, 1, 0] rfl rfl (fun e5 => ?_)
  refine J_lload_n (j := 0) dX12_packed_32 rfl rfl ?_
  exact J_lret dX12_packed_33 (fun h => h)
theorem t_X12_packed_s4 (l : Launch) (F : llFix) (d : Nat) (u : llMem)  : llCp l F yX12_packed cX12_packed 4 (some .long) (d + 6) [.ref (F.2.2.2.1 4)] u llLg (fx_X12_packed_s4 u ) := llCp.of (by decide +kernel) (by exact Nat.le_of_ble_eq_true rfl) (fun G h1 h2 => by subst h1; subst h2; exact tj_X12_packed_s4 u )
def fx_X12_isWord_69_s4 (u : llMem)  : Option Int32 := (if ¬ (u.1 69 21) = 1 then gB 0 (some 0) else (fx_strlen 4 u ).bind (fun r1 => (if ¬ ((u.1 69 23) - (u.1 69 22)) = r1 then gB 0 (some 0) else (fx_X12_packed_s4 u ).bind (fun r2 => (if ¬ (lg_cmp (u.2.1 69 24) r2) = 0 then gB 0 (some 0) else gB 1 (some 1))))))
set_option maxRecDepth 20000 in
theorem tj_X12_isWord_69_s4 {G : llG} {d : Nat} (u : llMem)  : llJ G RX12 cX12_isWord 2 (some .boolean) (d + 7) (fun r => llRet G (llI r) u) 0 [(0, .ref (llAd G 69)), (1, .ref (llSk G 4))] [] u (fx_X12_isWord_69_s4 u ) := by
  unfold fx_X12_isWord_69_s4
  refine J_aload_n (j := 0) dX12_isWord_0 rfl rfl ?_
  refine J_getI dX12_isWord_1 fl_X12_144 sh_69 rfl ?_
  refine J_iconst (v := 1) dX12_isWord_4 (by decide) ?_
  refine J_icmp_ne (tgt := 40) dX12_isWord_5 (by decide) ?_ ?_
  · refine J_iconst (v := 0) dX12_isWord_40 (by decide) ?_
    exact J_zret dX12_isWord_41 (fun h => h)
  · refine J_aload_n (j := 0) dX12_isWord_8 rfl rfl ?_
    refine J_getI dX12_isWord_9 fl_X12_124 sh_69 rfl ?_
    refine J_aload_n (j := 0) dX12_isWord_12 rfl rfl ?_
    refine J_getI dX12_isWord_13 fl_X12_131 sh_69 rfl ?_
    refine J_isub dX12_isWord_16 ?_
    refine J_aload_n (j := 1) dX12_isWord_17 rfl rfl ?_
    refine J_callTip0 dX12_isWord_18 (t_strlen (llL G) (llFx G) (d + 1) 4 (by decide) u ) ym_J0_length_8abf5 wd_1345 4 (by decide) (Nat.le_of_ble_eq_true rfl) rfl (fun r1 => ?_)
    refine J_icmp_ne (tgt := 40) dX12_isWord_21 (by decide) ?_ ?_
    · refine J_iconst (v := 0) dX12_isWord_40 (by decide) ?_
      exact J_zret dX12_isWord_41 (fun h => h)
    · refine J_aload_n (j := 0) dX12_isWord_24 rfl rfl ?_
      refine J_getL dX12_isWord_25 fl_X12_134 sh_69 rfl ?_
      refine J_aload_n (j := 1) dX12_isWord_28 rfl rfl ?_
      refine J_callSlp1 dX12_isWord_29 (t_X12_packed_s4 (llL G) (llFx G) d u ) ym_X12_packed wd_1355 (Nat.le_of_ble_eq_true rfl) (fun r2 => ?_)
      refine J_lcmp dX12_isWord_32 ?_
      refine J_if_ne (tgt := 40) dX12_isWord_33 (by decide) ?_ ?_
      · refine J_iconst (v := 0) dX12_isWord_40 (by decide) ?_
        exact J_zret dX12_isWord_41 (fun h => h)
      · refine J_iconst (v := 1) dX12_isWord_36 (by decide) ?_
        refine J_goto (tgt := 41) dX12_isWord_37 (by decide) ?_
        exact J_zret dX12_isWord_41 (fun h => h)
theorem t_X12_isWord_69_s4 (l : Launch) (F : llFix) (d : Nat) (u : llMem)  : llCp l F yX12_isWord cX12_isWord 2 (some .boolean) (d + 7) [.ref (F.2.2.1 69), .ref (F.2.2.2.1 4)] u llI (fx_X12_isWord_69_s4 u ) := llCp.of (by decide +kernel) (by exact Nat.le_of_ble_eq_true rfl) (fun G h1 h2 => by subst h1; subst h2; exact tj_X12_isWord_69_s4 u )
def fx_X12_fails_69 (u : llMem) (a0 : Int32) : Option (llMem × Int32) := (if ¬ (u.1 69 19) = 0 then gB 0 (some (u, 0)) else lt (llSI u 69 19 a0) (fun u1 => lt (llSI u1 69 20 (u1.1 69 22)) (fun u2 => gB 0 (some (u2, 0)))))
set_option maxRecDepth 20000 in
theorem tj_X12_fails_69 {G : llG} {d : Nat} (u : llMem) (a0 : Int32) : llJ G RX12 cX12_fails 2 (some .boolean) d (fun r => llRet G (llI r.2) r.1) 0 [(0, .ref (llAd G 69)), (1, .int a0)] [] u (fx_X12_fails_69 u a0) := by
  unfold fx_X12_fails_69
  refine J_aload_n (j := 0) dX12_fails_0 rfl rfl ?_
  refine J_getI dX12_fails_1 fl_X12_155 sh_69 rfl ?_
  refine J_if_ne (tgt := 20) dX12_fails_4 (by decide) ?_ ?_
  · refine J_iconst (v := 0) dX12_fails_20 (by decide) ?_
    exact J_zret dX12_fails_21 (fun h => h)
  · refine J_aload_n (j := 0) dX12_fails_7 rfl rfl ?_
    refine J_iload_n (j := 1) dX12_fails_8 rfl rfl ?_
    refine J_putI dX12_fails_9 fl_X12_155 sh_69 rfl (fun u1 => ?_)
    refine J_aload_n (j := 0) dX12_fails_12 rfl rfl ?_
    refine J_aload_n (j := 0) dX12_fails_13 rfl rfl ?_
    refine J_getI dX12_fails_14 fl_X12_131 sh_69 rfl ?_
    refine J_putI dX12_fails_17 fl_X12_158 sh_69 rfl (fun u2 => ?_)
    refine J_iconst (v := 0) dX12_fails_20 (by decide) ?_
    exact J_zret dX12_fails_21 (fun h => h)
theorem t_X12_fails_69 (l : Launch) (F : llFix) (d : Nat) (u : llMem) (a0 : Int32) : llCt l F yX12_fails cX12_fails 2 (some .boolean) d [.ref (F.2.2.1 69), .int a0] u llI (fx_X12_fails_69 u a0) := llCt.of (by decide +kernel) (by exact Nat.le_of_ble_eq_true rfl) (fun G h1 h2 => by subst h1; subst h2; exact tj_X12_fails_69 u a0)
def fx_X12_takesSign_69_j16 (u : llMem)  : Option ((llMem × Int32)) := bd (fx_X12_fails_69 u 1) (fun u1 r2 => gB r2 (some (u1, r2)))
set_option maxRecDepth 20000 in
theorem t_X12_takesSign_69_j16 {G : llG} {d : Nat} (u : llMem)  : llJ G RX12 cX12_takesSign 2 (some .boolean) (d + 2) (fun r => llRet G (llI r.2) r.1) 16 [(0, .ref (llAd G 69))] [] u (fx_X12_takesSign_69_j16 u ) := by
  unfold fx_X12_takesSign_69_j16
  refine J_aload_n (j := 0) dX12_takesSign_16 rfl rfl ?_
  refine J_iconst (v := 1) dX12_takesSign_17 (by decide) ?_
  refine J_callVi1 dX12_takesSign_18 (t_X12_fails_69 (llL G) (llFx G) (d + 1) u 1) ym_X12_fails wd_1400 sh_69 rfl (Nat.le_of_ble_eq_true rfl) (fun u1 r2 => ?_)
  exact J_zret dX12_takesSign_21 (fun h => h)
def fx_X12_takesSign_69 (u : llMem) (a0 : Int32) : Option (llMem × Int32) := (if ¬ (u.1 69 21) = 3 then fx_X12_takesSign_69_j16 u  else (if (u.1 69 26) = a0 then bd (fx_X12_next_69 u ) (fun u3 _ => gB 1 (some (u3, 1))) else fx_X12_takesSign_69_j16 u ))
set_option maxRecDepth 20000 in
theorem tj_X12_takesSign_69 {G : llG} {d : Nat} (u : llMem) (a0 : Int32) : llJ G RX12 cX12_takesSign 2 (some .boolean) (d + 2) (fun r => llRet G (llI r.2) r.1) 0 [(0, .ref (llAd G 69)), (1, .int a0)] [] u (fx_X12_takesSign_69 u a0) := by
  unfold fx_X12_takesSign_69
  refine J_aload_n (j := 0) dX12_takesSign_0 rfl rfl ?_
  refine J_getI dX12_takesSign_1 fl_X12_144 sh_69 rfl ?_
  refine J_iconst (v := 3) dX12_takesSign_4 (by decide) ?_
  refine J_icmp_ne (tgt := 16) dX12_takesSign_5 (by decide) ?_ ?_
  · refine J_sub [0] (lv' := [(0, .ref (llAd G 69))]) rfl ?_
    exact t_X12_takesSign_69_j16 u 
  · refine J_aload_n (j := 0) dX12_takesSign_8 rfl rfl ?_
    refine J_getI dX12_takesSign_9 fl_X12_141 sh_69 rfl ?_
    refine J_iload_n (j := 1) dX12_takesSign_12 rfl rfl ?_
    refine J_icmp_eq (tgt := 22) dX12_takesSign_13 (by decide) ?_ ?_
    · refine J_aload_n (j := 0) dX12_takesSign_22 rfl rfl ?_
      refine J_callVv0 dX12_takesSign_23 (t_X12_next_69 (llL G) (llFx G) d u ) ym_X12_next wd_1324 sh_69 rfl (Nat.le_of_ble_eq_true rfl) (fun u3 => ?_)
      refine J_iconst (v := 1) dX12_takesSign_26 (by decide) ?_
      exact J_zret dX12_takesSign_27 (fun h => h)
    · refine J_sub [0] (lv' := [(0, .ref (llAd G 69))]) rfl ?_
      exact t_X12_takesSign_69_j16 u 
theorem t_X12_takesSign_69 (l : Launch) (F : llFix) (d : Nat) (u : llMem) (a0 : Int32) : llCt l F yX12_takesSign cX12_takesSign 2 (some .boolean) (d + 2) [.ref (F.2.2.1 69), .int a0] u llI (fx_X12_takesSign_69 u a0) := llCt.of (by decide +kernel) (by exact Nat.le_of_ble_eq_true rfl) (fun G h1 h2 => by subst h1; subst h2; exact tj_X12_takesSign_69 u a0)
def fx_X12_readLine_69_j37 (u : llMem) (t0 : Int32) : Option ((llMem × Int32)) := (if t0 = 0 then gB 0 (some (u, 0)) else bd (fx_X12_takesSign_69 u 59) (fun u5 r6 => (if r6 = 0 then gB 0 (some (u5, 0)) else gB 1 (some (u5, 1)))))
set_option maxRecDepth 20000 in
theorem t_X12_readLine_69_j37 {G : llG} {d : Nat} (u : llMem) (t0 : Int32) : llJ G RX12 cX12_readLine 2 (some .boolean) (d + 10) (fun r => llRet G (llI r.2) r.1) 37 [(0, .ref (llAd G 69))] [.int t0] u (fx_X12_readLine_69_j37 u t0) := by
  unfold fx_X12_readLine_69_j37
  refine J_istore_n [(1, .int t0), (0, .ref (llAd G 69))] dX12_readLine_37 rfl (by decide) rfl ?_
  refine J_iload_n (j := 0) dX12_readLine_38 rfl rfl ?_
  refine J_if_eq (tgt := 55) dX12_readLine_39 (by decide) ?_ ?_
  · refine J_iconst (v := 0) dX12_readLine_55 (by decide) ?_
    exact J_zret dX12_readLine_56 (fun h => h)
  · refine J_aload_n (j := 1) dX12_readLine_42 rfl rfl ?_
    refine J_bipush (v := 59) dX12_readLine_43 (by decide) ?_
    refine J_callVi1 dX12_readLine_45 (t_X12_takesSign_69 (llL G) (llFx G) (d + 7) u 59) ym_X12_takesSign wd_1442 sh_69 rfl (Nat.le_of_ble_eq_true rfl) (fun u5 r6 => ?_)
    refine J_if_eq (tgt := 55) dX12_readLine_48 (by decide) ?_ ?_
    · refine J_iconst (v := 0) dX12_readLine_55 (by decide) ?_
      exact J_zret dX12_readLine_56 (fun h => h)
    · refine J_iconst (v := 1) dX12_readLine_51 (by decide) ?_
      refine J_goto (tgt := 56) dX12_readLine_52 (by decide) ?_
      exact J_zret dX12_readLine_56 (fun h => h)
def fx_X12_packed_s1_l4 (u : llMem)  (s : Int64 × Int32) : Option ((Int64 × Int32) ⊕ (Int64)) := (fx_strlen 1 u ).bind (fun r1 => (if r1 ≤ s.2 then some (.inr s.1) else (fx_charAt 1 u s.2).bind (fun r2 => lt ((s.1 <<< (Int32.toInt64 5 &&& 63)) ||| (Int32.toInt64 (r2 - 96))) (fun v1_3 => lt (s.2 + 1) (fun v3_4 => some (.inl (v1_3, v3_4)))))))
set_option maxRecDepth 20000 in
theorem t_X12_packed_s1_l4 {G : llG} {d : Nat} (u : llMem)  (s : Int64 × Int32) : llJ G RX12 cX12_packed 4 (some .long) (d + 6) (Sum.elim (fun s' => llJq G 4 4 [(0, .ref (llSk G 1)), (1, .long s'.1), (3, .int s'.2)] [] u) (fun e => llJq G 4 32 [(1, .long e)] [] u)) 4 [(0, .ref (llSk G 1)), (1, .long s.1), (3, .int s.2)] [] u (fx_X12_packed_s1_l4 u s) := by
  unfold fx_X12_packed_s1_l4
  refine J_iload_n (j := 2) dX12_packed_4 rfl rfl ?_
  refine J_aload_n (j := 0) dX12_packed_5 rfl rfl ?_
  refine J_callTip0 dX12_packed_6 (t_strlen (llL G) (llFx G) d 1 (by decide) u ) ym_J0_length_8abf5 wd_1345 1 (by decide) (Nat.le_of_ble_eq_true rfl) rfl (fun r1 => ?_)
  refine J_icmp_ge (tgt := 32) dX12_packed_9 (by decide) ?_ ?_
  · exact J_cut [1] (lv' := [(1, .long s.1)]) rfl (fun h => h)
  · refine J_lload_n (j := 1) dX12_packed_12 rfl rfl ?_
    refine J_iconst (v := 5) dX12_packed_13 (by decide) ?_
    refine J_lshl dX12_packed_14 ?_
    refine J_aload_n (j := 0) dX12_packed_15 rfl rfl ?_
    refine J_iload_n (j := 2) dX12_packed_16 rfl rfl ?_
    refine J_callTip1 dX12_packed_17 (t_charAt (llL G) (llFx G) d 1 (by decide) u s.2) ym_J0_charAt_5068e wd_1358 1 (by decide) (Nat.le_of_ble_eq_true rfl) rfl (fun r2 => ?_)
    refine J_bipush (v := 96) dX12_packed_20 (by decide) ?_
    refine J_isub dX12_packed_22 ?_
    refine J_i2l dX12_packed_23 ?_
    refine J_lor dX12_packed_24 ?_
    refine J_lstore_nL (fun v1_3 => [(1, .long v1_3), (0, .ref (llSk G 1)), (3, .int s.2)]) dX12_packed_25 rfl (by decide) (fun _ => rfl) (fun v1_3 => ?_)
    refine J_iinc (j := 2) (b := 1) (fun v3_4 => [(3, .int v3_4), (1, .long v1_3), (0, .ref (llSk G 1))]) dX12_packed_26 rfl (by decide) (by decide) (fun _ => rfl) (fun v3_4 => ?_)
    refine J_goto (tgt := 4) dX12_packed_29 (by decide) ?_
    exact J_cut [2, 1, 0] (lv' := [(0, .ref (llSk G 1)), (1, .long v1_3), (3, .int v3_4)]) rfl (fun h => h)
def fx_X12_packed_s1 (u : llMem)  : Option Int64 := (loop (fx_X12_packed_s1_l4 u) llFuel (0, 0)).bind (fun e5 => some e5)
set_option maxRecDepth 20000 in
theorem tj_X12_packed_s1 {G : llG} {d : Nat} (u : llMem)  : llJ G RX12 cX12_packed 4 (some .long) (d + 6) (fun r => llRet G (llLg r) u) 0 [(0, .ref (llSk G 1))] [] u (fx_X12_packed_s1 u ) := by
  unfold fx_X12_packed_s1
  refine J_lconst (v := 0) dX12_packed_0 (by decide) ?_
  refine J_lstore_n [(1, .long 0), (0, .ref (llSk G 1))] dX12_packed_1 rfl (by decide) rfl ?_
  refine J_iconst (v := 0) dX12_packed_2 (by decide) ?_
  refine J_istore_n [(3, .int 0), (1, .long 0), (0, .ref (llSk G 1))] dX12_packed_3 rfl (by decide) rfl ?_
  refine J_loopE (fun s' => [(0, .ref (llSk G 1)), (1, .long s'.1), (3, .int s'.2)]) (fun s' => u) 32 (fun e => [(1, .long e)]) (fun e => u) (fun z => t_X12_packed_s1_l4 u z) [2, 1, 0] rfl rfl (fun e5 => ?_)
  refine J_lload_n (j := 0) dX12_packed_32 rfl rfl ?_
  exact J_lret dX12_packed_33 (fun h => h)
theorem t_X12_packed_s1 (l : Launch) (F : llFix) (d : Nat) (u : llMem)  : llCp l F yX12_packed cX12_packed 4 (some .long) (d + 6) [.ref (F.2.2.2.1 1)] u llLg (fx_X12_packed_s1 u ) := llCp.of (by decide +kernel) (by exact Nat.le_of_ble_eq_true rfl) (fun G h1 h2 => by subst h1; subst h2; exact tj_X12_packed_s1 u )
def fx_X12_isWord_69_s1 (u : llMem)  : Option Int32 := (if ¬ (u.1 69 21) = 1 then gB 0 (some 0) else (fx_strlen 1 u ).bind (fun r1 => (if ¬ ((u.1 69 23) - (u.1 69 22)) = r1 then gB 0 (some 0) else (fx_X12_packed_s1 u ).bind (fun r2 => (if ¬ (lg_cmp (u.2.1 69 24) r2) = 0 then gB 0 (some 0) else gB 1 (some 1))))))
set_option maxRecDepth 20000 in
theorem tj_X12_isWord_69_s1 {G : llG} {d : Nat} (u : llMem)  : llJ G RX12 cX12_isWord 2 (some .boolean) (d + 7) (fun r => llRet G (llI r) u) 0 [(0, .ref (llAd G 69)), (1, .ref (llSk G 1))] [] u (fx_X12_isWord_69_s1 u ) := by
  unfold fx_X12_isWord_69_s1
  refine J_aload_n (j := 0) dX12_isWord_0 rfl rfl ?_
  refine J_getI dX12_isWord_1 fl_X12_144 sh_69 rfl ?_
  refine J_iconst (v := 1) dX12_isWord_4 (by decide) ?_
  refine J_icmp_ne (tgt := 40) dX12_isWord_5 (by decide) ?_ ?_
  · refine J_iconst (v := 0) dX12_isWord_40 (by decide) ?_
    exact J_zret dX12_isWord_41 (fun h => h)
  · refine J_aload_n (j := 0) dX12_isWord_8 rfl rfl ?_
    refine J_getI dX12_isWord_9 fl_X12_124 sh_69 rfl ?_
    refine J_aload_n (j := 0) dX12_isWord_12 rfl rfl ?_
    refine J_getI dX12_isWord_13 fl_X12_131 sh_69 rfl ?_
    refine J_isub dX12_isWord_16 ?_
    refine J_aload_n (j := 1) dX12_isWord_17 rfl rfl ?_
    refine J_callTip0 dX12_isWord_18 (t_strlen (llL G) (llFx G) (d + 1) 1 (by decide) u ) ym_J0_length_8abf5 wd_1345 1 (by decide) (Nat.le_of_ble_eq_true rfl) rfl (fun r1 => ?_)
    refine J_icmp_ne (tgt := 40) dX12_isWord_21 (by decide) ?_ ?_
    · refine J_iconst (v := 0) dX12_isWord_40 (by decide) ?_
      exact J_zret dX12_isWord_41 (fun h => h)
    · refine J_aload_n (j := 0) dX12_isWord_24 rfl rfl ?_
      refine J_getL dX12_isWord_25 fl_X12_134 sh_69 rfl ?_
      refine J_aload_n (j := 1) dX12_isWord_28 rfl rfl ?_
      refine J_callSlp1 dX12_isWord_29 (t_X12_packed_s1 (llL G) (llFx G) d u ) ym_X12_packed wd_1355 (Nat.le_of_ble_eq_true rfl) (fun r2 => ?_)
      refine J_lcmp dX12_isWord_32 ?_
      refine J_if_ne (tgt := 40) dX12_isWord_33 (by decide) ?_ ?_
      · refine J_iconst (v := 0) dX12_isWord_40 (by decide) ?_
        exact J_zret dX12_isWord_41 (fun h => h)
      · refine J_iconst (v := 1) dX12_isWord_36 (by decide) ?_
        refine J_goto (tgt := 41) dX12_isWord_37 (by decide) ?_
        exact J_zret dX12_isWord_41 (fun h => h)
theorem t_X12_isWord_69_s1 (l : Launch) (F : llFix) (d : Nat) (u : llMem)  : llCp l F yX12_isWord cX12_isWord 2 (some .boolean) (d + 7) [.ref (F.2.2.1 69), .ref (F.2.2.2.1 1)] u llI (fx_X12_isWord_69_s1 u ) := llCp.of (by decide +kernel) (by exact Nat.le_of_ble_eq_true rfl) (fun G h1 h2 => by subst h1; subst h2; exact tj_X12_isWord_69_s1 u )
def fx_X12_packed_s2_l4 (u : llMem)  (s : Int64 × Int32) : Option ((Int64 × Int32) ⊕ (Int64)) := (fx_strlen 2 u ).bind (fun r1 => (if r1 ≤ s.2 then some (.inr s.1) else (fx_charAt 2 u s.2).bind (fun r2 => lt ((s.1 <<< (Int32.toInt64 5 &&& 63)) ||| (Int32.toInt64 (r2 - 96))) (fun v1_3 => lt (s.2 + 1) (fun v3_4 => some (.inl (v1_3, v3_4)))))))
set_option maxRecDepth 20000 in
theorem t_X12_packed_s2_l4 {G : llG} {d : Nat} (u : llMem)  (s : Int64 × Int32) : llJ G RX12 cX12_packed 4 (some .long) (d + 6) (Sum.elim (fun s' => llJq G 4 4 [(0, .ref (llSk G 2)), (1, .long s'.1), (3, .int s'.2)] [] u) (fun e => llJq G 4 32 [(1, .long e)] [] u)) 4 [(0, .ref (llSk G 2)), (1, .long s.1), (3, .int s.2)] [] u (fx_X12_packed_s2_l4 u s) := by
  unfold fx_X12_packed_s2_l4
  refine J_iload_n (j := 2) dX12_packed_4 rfl rfl ?_
  refine J_aload_n (j := 0) dX12_packed_5 rfl rfl ?_
  refine J_callTip0 dX12_packed_6 (t_strlen (llL G) (llFx G) d 2 (by decide) u ) ym_J0_length_8abf5 wd_1345 2 (by decide) (Nat.le_of_ble_eq_true rfl) rfl (fun r1 => ?_)
  refine J_icmp_ge (tgt := 32) dX12_packed_9 (by decide) ?_ ?_
  · exact J_cut [1] (lv' := [(1, .long s.1)]) rfl (fun h => h)
  · refine J_lload_n (j := 1) dX12_packed_12 rfl rfl ?_
    refine J_iconst (v := 5) dX12_packed_13 (by decide) ?_
    refine J_lshl dX12_packed_14 ?_
    refine J_aload_n (j := 0) dX12_packed_15 rfl rfl ?_
    refine J_iload_n (j := 2) dX12_packed_16 rfl rfl ?_
    refine J_callTip1 dX12_packed_17 (t_charAt (llL G) (llFx G) d 2 (by decide) u s.2) ym_J0_charAt_5068e wd_1358 2 (by decide) (Nat.le_of_ble_eq_true rfl) rfl (fun r2 => ?_)
    refine J_bipush (v := 96) dX12_packed_20 (by decide) ?_
    refine J_isub dX12_packed_22 ?_
    refine J_i2l dX12_packed_23 ?_
    refine J_lor dX12_packed_24 ?_
    refine J_lstore_nL (fun v1_3 => [(1, .long v1_3), (0, .ref (llSk G 2)), (3, .int s.2)]) dX12_packed_25 rfl (by decide) (fun _ => rfl) (fun v1_3 => ?_)
    refine J_iinc (j := 2) (b := 1) (fun v3_4 => [(3, .int v3_4), (1, .long v1_3), (0, .ref (llSk G 2))]) dX12_packed_26 rfl (by decide) (by decide) (fun _ => rfl) (fun v3_4 => ?_)
    refine J_goto (tgt := 4) dX12_packed_29 (by decide) ?_
    exact J_cut [2, 1, 0] (lv' := [(0, .ref (llSk G 2)), (1, .long v1_3), (3, .int v3_4)]) rfl (fun h => h)
def fx_X12_packed_s2 (u : llMem)  : Option Int64 := (loop (fx_X12_packed_s2_l4 u) llFuel (0, 0)).bind (fun e5 => some e5)
set_option maxRecDepth 20000 in
theorem tj_X12_packed_s2 {G : llG} {d : Nat} (u : llMem)  : llJ G RX12 cX12_packed 4 (some .long) (d + 6) (fun r => llRet G (llLg r) u) 0 [(0, .ref (llSk G 2))] [] u (fx_X12_packed_s2 u ) := by
  unfold fx_X12_packed_s2
  refine J_lconst (v := 0) dX12_packed_0 (by decide) ?_
  refine J_lstore_n [(1, .long 0), (0, .ref (llSk G 2))] dX12_packed_1 rfl (by decide) rfl ?_
  refine J_iconst (v := 0) dX12_packed_2 (by decide) ?_
  refine J_istore_n [(3, .int 0), (1, .long 0), (0, .ref (llSk G 2))] dX12_packed_3 rfl (by decide) rfl ?_
  refine J_loopE (fun s' => [(0, .ref (llSk G 2)), (1, .long s'.1), (3, .int s'.2)]) (fun s' => u) 32 (fun e => [(1, .long e)]) (fun e => u) (fun z => t_X12_packed_s2_l4 u z) [2, 1, 0] rfl rfl (fun e5 => ?_)
  refine J_lload_n (j := 0) dX12_packed_32 rfl rfl ?_
  exact J_lret dX12_packed_33 (fun h => h)
theorem t_X12_packed_s2 (l : Launch) (F : llFix) (d : Nat) (u : llMem)  : llCp l F yX12_packed cX12_packed 4 (some .long) (d + 6) [.ref (F.2.2.2.1 2)] u llLg (fx_X12_packed_s2 u ) := llCp.of (by decide +kernel) (by exact Nat.le_of_ble_eq_true rfl) (fun G h1 h2 => by subst h1; subst h2; exact tj_X12_packed_s2 u )
def fx_X12_isWord_69_s2 (u : llMem)  : Option Int32 := (if ¬ (u.1 69 21) = 1 then gB 0 (some 0) else (fx_strlen 2 u ).bind (fun r1 => (if ¬ ((u.1 69 23) - (u.1 69 22)) = r1 then gB 0 (some 0) else (fx_X12_packed_s2 u ).bind (fun r2 => (if ¬ (lg_cmp (u.2.1 69 24) r2) = 0 then gB 0 (some 0) else gB 1 (some 1))))))
set_option maxRecDepth 20000 in
theorem tj_X12_isWord_69_s2 {G : llG} {d : Nat} (u : llMem)  : llJ G RX12 cX12_isWord 2 (some .boolean) (d + 7) (fun r => llRet G (llI r) u) 0 [(0, .ref (llAd G 69)), (1, .ref (llSk G 2))] [] u (fx_X12_isWord_69_s2 u ) := by
  unfold fx_X12_isWord_69_s2
  refine J_aload_n (j := 0) dX12_isWord_0 rfl rfl ?_
  refine J_getI dX12_isWord_1 fl_X12_144 sh_69 rfl ?_
  refine J_iconst (v := 1) dX12_isWord_4 (by decide) ?_
  refine J_icmp_ne (tgt := 40) dX12_isWord_5 (by decide) ?_ ?_
  · refine J_iconst (v := 0) dX12_isWord_40 (by decide) ?_
    exact J_zret dX12_isWord_41 (fun h => h)
  · refine J_aload_n (j := 0) dX12_isWord_8 rfl rfl ?_
    refine J_getI dX12_isWord_9 fl_X12_124 sh_69 rfl ?_
    refine J_aload_n (j := 0) dX12_isWord_12 rfl rfl ?_
    refine J_getI dX12_isWord_13 fl_X12_131 sh_69 rfl ?_
    refine J_isub dX12_isWord_16 ?_
    refine J_aload_n (j := 1) dX12_isWord_17 rfl rfl ?_
    refine J_callTip0 dX12_isWord_18 (t_strlen (llL G) (llFx G) (d + 1) 2 (by decide) u ) ym_J0_length_8abf5 wd_1345 2 (by decide) (Nat.le_of_ble_eq_true rfl) rfl (fun r1 => ?_)
    refine J_icmp_ne (tgt := 40) dX12_isWord_21 (by decide) ?_ ?_
    · refine J_iconst (v := 0) dX12_isWord_40 (by decide) ?_
      exact J_zret dX12_isWord_41 (fun h => h)
    · refine J_aload_n (j := 0) dX12_isWord_24 rfl rfl ?_
      refine J_getL dX12_isWord_25 fl_X12_134 sh_69 rfl ?_
      refine J_aload_n (j := 1) dX12_isWord_28 rfl rfl ?_
      refine J_callSlp1 dX12_isWord_29 (t_X12_packed_s2 (llL G) (llFx G) d u ) ym_X12_packed wd_1355 (Nat.le_of_ble_eq_true rfl) (fun r2 => ?_)
      refine J_lcmp dX12_isWord_32 ?_
      refine J_if_ne (tgt := 40) dX12_isWord_33 (by decide) ?_ ?_
      · refine J_iconst (v := 0) dX12_isWord_40 (by decide) ?_
        exact J_zret dX12_isWord_41 (fun h => h)
      · refine J_iconst (v := 1) dX12_isWord_36 (by decide) ?_
        refine J_goto (tgt := 41) dX12_isWord_37 (by decide) ?_
        exact J_zret dX12_isWord_41 (fun h => h)
theorem t_X12_isWord_69_s2 (l : Launch) (F : llFix) (d : Nat) (u : llMem)  : llCp l F yX12_isWord cX12_isWord 2 (some .boolean) (d + 7) [.ref (F.2.2.1 69), .ref (F.2.2.2.1 2)] u llI (fx_X12_isWord_69_s2 u ) := llCp.of (by decide +kernel) (by exact Nat.le_of_ble_eq_true rfl) (fun G h1 h2 => by subst h1; subst h2; exact tj_X12_isWord_69_s2 u )
def fx_X12_packed_s3_l4 (u : llMem)  (s : Int64 × Int32) : Option ((Int64 × Int32) ⊕ (Int64)) := (fx_strlen 3 u ).bind (fun r1 => (if r1 ≤ s.2 then some (.inr s.1) else (fx_charAt 3 u s.2).bind (fun r2 => lt ((s.1 <<< (Int32.toInt64 5 &&& 63)) ||| (Int32.toInt64 (r2 - 96))) (fun v1_3 => lt (s.2 + 1) (fun v3_4 => some (.inl (v1_3, v3_4)))))))
set_option maxRecDepth 20000 in
theorem t_X12_packed_s3_l4 {G : llG} {d : Nat} (u : llMem)  (s : Int64 × Int32) : llJ G RX12 cX12_packed 4 (some .long) (d + 6) (Sum.elim (fun s' => llJq G 4 4 [(0, .ref (llSk G 3)), (1, .long s'.1), (3, .int s'.2)] [] u) (fun e => llJq G 4 32 [(1, .long e)] [] u)) 4 [(0, .ref (llSk G 3)), (1, .long s.1), (3, .int s.2)] [] u (fx_X12_packed_s3_l4 u s) := by
  unfold fx_X12_packed_s3_l4
  refine J_iload_n (j := 2) dX12_packed_4 rfl rfl ?_
  refine J_aload_n (j := 0) dX12_packed_5 rfl rfl ?_
  refine J_callTip0 dX12_packed_6 (t_strlen (llL G) (llFx G) d 3 (by decide) u ) ym_J0_length_8abf5 wd_1345 3 (by decide) (Nat.le_of_ble_eq_true rfl) rfl (fun r1 => ?_)
  refine J_icmp_ge (tgt := 32) dX12_packed_9 (by decide) ?_ ?_
  · exact J_cut [1] (lv' := [(1, .long s.1)]) rfl (fun h => h)
  · refine J_lload_n (j := 1) dX12_packed_12 rfl rfl ?_
    refine J_iconst (v := 5) dX12_packed_13 (by decide) ?_
    refine J_lshl dX12_packed_14 ?_
    refine J_aload_n (j := 0) dX12_packed_15 rfl rfl ?_
    refine J_iload_n (j := 2) dX12_packed_16 rfl rfl ?_
    refine J_callTip1 dX12_packed_17 (t_charAt (llL G) (llFx G) d 3 (by decide) u s.2) ym_J0_charAt_5068e wd_1358 3 (by decide) (Nat.le_of_ble_eq_true rfl) rfl (fun r2 => ?_)
    refine J_bipush (v := 96) dX12_packed_20 (by decide) ?_
    refine J_isub dX12_packed_22 ?_
    refine J_i2l dX12_packed_23 ?_
    refine J_lor dX12_packed_24 ?_
    refine J_lstore_nL (fun v1_3 => [(1, .long v1_3), (0, .ref (llSk G 3)), (3, .int s.2)]) dX12_packed_25 rfl (by decide) (fun _ => rfl) (fun v1_3 => ?_)
    refine J_iinc (j := 2) (b := 1) (fun v3_4 => [(3, .int v3_4), (1, .long v1_3), (0, .ref (llSk G 3))]) dX12_packed_26 rfl (by decide) (by decide) (fun _ => rfl) (fun v3_4 => ?_)
    refine J_goto (tgt := 4) dX12_packed_29 (by decide) ?_
    exact J_cut [2, 1, 0] (lv' := [(0, .ref (llSk G 3)), (1, .long v1_3), (3, .int v3_4)]) rfl (fun h => h)
def fx_X12_packed_s3 (u : llMem)  : Option Int64 := (loop (fx_X12_packed_s3_l4 u) llFuel (0, 0)).bind (fun e5 => some e5)
set_option maxRecDepth 20000 in
theorem tj_X12_packed_s3 {G : llG} {d : Nat} (u : llMem)  : llJ G RX12 cX12_packed 4 (some .long) (d + 6) (fun r => llRet G (llLg r) u) 0 [(0, .ref (llSk G 3))] [] u (fx_X12_packed_s3 u ) := by
  unfold fx_X12_packed_s3
  refine J_lconst (v := 0) dX12_packed_0 (by decide) ?_
  refine J_lstore_n [(1, .long 0), (0, .ref (llSk G 3))] dX12_packed_1 rfl (by decide) rfl ?_
  refine J_iconst (v := 0) dX12_packed_2 (by decide) ?_
  refine J_istore_n [(3, .int 0), (1, .long 0), (0, .ref (llSk G 3))] dX12_packed_3 rfl (by decide) rfl ?_
  refine J_loopE (fun s' => [(0, .ref (llSk G 3)), (1, .long s'.1), (3, .int s'.2)]) (fun s' => u) 32 (fun e => [(1, .long e)]) (fun e => u) (fun z => t_X12_packed_s3_l4 u z) [2, 1, 0] rfl rfl (fun e5 => ?_)
  refine J_lload_n (j := 0) dX12_packed_32 rfl rfl ?_
  exact J_lret dX12_packed_33 (fun h => h)
theorem t_X12_packed_s3 (l : Launch) (F : llFix) (d : Nat) (u : llMem)  : llCp l F yX12_packed cX12_packed 4 (some .long) (d + 6) [.ref (F.2.2.2.1 3)] u llLg (fx_X12_packed_s3 u ) := llCp.of (by decide +kernel) (by exact Nat.le_of_ble_eq_true rfl) (fun G h1 h2 => by subst h1; subst h2; exact tj_X12_packed_s3 u )
def fx_X12_isWord_69_s3 (u : llMem)  : Option Int32 := (if ¬ (u.1 69 21) = 1 then gB 0 (some 0) else (fx_strlen 3 u ).bind (fun r1 => (if ¬ ((u.1 69 23) - (u.1 69 22)) = r1 then gB 0 (some 0) else (fx_X12_packed_s3 u ).bind (fun r2 => (if ¬ (lg_cmp (u.2.1 69 24) r2) = 0 then gB 0 (some 0) else gB 1 (some 1))))))
set_option maxRecDepth 20000 in
theorem tj_X12_isWord_69_s3 {G : llG} {d : Nat} (u : llMem)  : llJ G RX12 cX12_isWord 2 (some .boolean) (d + 7) (fun r => llRet G (llI r) u) 0 [(0, .ref (llAd G 69)), (1, .ref (llSk G 3))] [] u (fx_X12_isWord_69_s3 u ) := by
  unfold fx_X12_isWord_69_s3
  refine J_aload_n (j := 0) dX12_isWord_0 rfl rfl ?_
  refine J_getI dX12_isWord_1 fl_X12_144 sh_69 rfl ?_
  refine J_iconst (v := 1) dX12_isWord_4 (by decide) ?_
  refine J_icmp_ne (tgt := 40) dX12_isWord_5 (by decide) ?_ ?_
  · refine J_iconst (v := 0) dX12_isWord_40 (by decide) ?_
    exact J_zret dX12_isWord_41 (fun h => h)
  · refine J_aload_n (j := 0) dX12_isWord_8 rfl rfl ?_
    refine J_getI dX12_isWord_9 fl_X12_124 sh_69 rfl ?_
    refine J_aload_n (j := 0) dX12_isWord_12 rfl rfl ?_
    refine J_getI dX12_isWord_13 fl_X12_131 sh_69 rfl ?_
    refine J_isub dX12_isWord_16 ?_
    refine J_aload_n (j := 1) dX12_isWord_17 rfl rfl ?_
    refine J_callTip0 dX12_isWord_18 (t_strlen (llL G) (llFx G) (d + 1) 3 (by decide) u ) ym_J0_length_8abf5 wd_1345 3 (by decide) (Nat.le_of_ble_eq_true rfl) rfl (fun r1 => ?_)
    refine J_icmp_ne (tgt := 40) dX12_isWord_21 (by decide) ?_ ?_
    · refine J_iconst (v := 0) dX12_isWord_40 (by decide) ?_
      exact J_zret dX12_isWord_41 (fun h => h)
    · refine J_aload_n (j := 0) dX12_isWord_24 rfl rfl ?_
      refine J_getL dX12_isWord_25 fl_X12_134 sh_69 rfl ?_
      refine J_aload_n (j := 1) dX12_isWord_28 rfl rfl ?_
      refine J_callSlp1 dX12_isWord_29 (t_X12_packed_s3 (llL G) (llFx G) d u ) ym_X12_packed wd_1355 (Nat.le_of_ble_eq_true rfl) (fun r2 => ?_)
      refine J_lcmp dX12_isWord_32 ?_
      refine J_if_ne (tgt := 40) dX12_isWord_33 (by decide) ?_ ?_
      · refine J_iconst (v := 0) dX12_isWord_40 (by decide) ?_
        exact J_zret dX12_isWord_41 (fun h => h)
      · refine J_iconst (v := 1) dX12_isWord_36 (by decide) ?_
        refine J_goto (tgt := 41) dX12_isWord_37 (by decide) ?_
        exact J_zret dX12_isWord_41 (fun h => h)
theorem t_X12_isWord_69_s3 (l : Launch) (F : llFix) (d : Nat) (u : llMem)  : llCp l F yX12_isWord cX12_isWord 2 (some .boolean) (d + 7) [.ref (F.2.2.1 69), .ref (F.2.2.2.1 3)] u llI (fx_X12_isWord_69_s3 u ) := llCp.of (by decide +kernel) (by exact Nat.le_of_ble_eq_true rfl) (fun G h1 h2 => by subst h1; subst h2; exact tj_X12_isWord_69_s3 u )
def fx_X12_packed_s5_l4 (u : llMem)  (s : Int64 × Int32) : Option ((Int64 × Int32) ⊕ (Int64)) := (fx_strlen 5 u ).bind (fun r1 => (if r1 ≤ s.2 then some (.inr s.1) else (fx_charAt 5 u s.2).bind (fun r2 => lt ((s.1 <<< (Int32.toInt64 5 &&& 63)) ||| (Int32.toInt64 (r2 - 96))) (fun v1_3 => lt (s.2 + 1) (fun v3_4 => some (.inl (v1_3, v3_4)))))))
set_option maxRecDepth 20000 in
theorem t_X12_packed_s5_l4 {G : llG} {d : Nat} (u : llMem)  (s : Int64 × Int32) : llJ G RX12 cX12_packed 4 (some .long) (d + 6) (Sum.elim (fun s' => llJq G 4 4 [(0, .ref (llSk G 5)), (1, .long s'.1), (3, .int s'.2)] [] u) (fun e => llJq G 4 32 [(1, .long e)] [] u)) 4 [(0, .ref (llSk G 5)), (1, .long s.1), (3, .int s.2)] [] u (fx_X12_packed_s5_l4 u s) := by
  unfold fx_X12_packed_s5_l4
  refine J_iload_n (j := 2) dX12_packed_4 rfl rfl ?_
  refine J_aload_n (j := 0) dX12_packed_5 rfl rfl ?_
  refine J_callTip0 dX12_packed_6 (t_strlen (llL G) (llFx G) d 5 (by decide) u ) ym_J0_length_8abf5 wd_1345 5 (by decide) (Nat.le_of_ble_eq_true rfl) rfl (fun r1 => ?_)
  refine J_icmp_ge (tgt := 32) dX12_packed_9 (by decide) ?_ ?_
  · exact J_cut [1] (lv' := [(1, .long s.1)]) rfl (fun h => h)
  · refine J_lload_n (j := 1) dX12_packed_12 rfl rfl ?_
    refine J_iconst (v := 5) dX12_packed_13 (by decide) ?_
    refine J_lshl dX12_packed_14 ?_
    refine J_aload_n (j := 0) dX12_packed_15 rfl rfl ?_
    refine J_iload_n (j := 2) dX12_packed_16 rfl rfl ?_
    refine J_callTip1 dX12_packed_17 (t_charAt (llL G) (llFx G) d 5 (by decide) u s.2) ym_J0_charAt_5068e wd_1358 5 (by decide) (Nat.le_of_ble_eq_true rfl) rfl (fun r2 => ?_)
    refine J_bipush (v := 96) dX12_packed_20 (by decide) ?_
    refine J_isub dX12_packed_22 ?_
    refine J_i2l dX12_packed_23 ?_
    refine J_lor dX12_packed_24 ?_
    refine J_lstore_nL (fun v1_3 => [(1, .long v1_3), (0, .ref (llSk G 5)), (3, .int s.2)]) dX12_packed_25 rfl (by decide) (fun _ => rfl) (fun v1_3 => ?_)
    refine J_iinc (j := 2) (b := 1) (fun v3_4 => [(3, .int v3_4), (1, .long v1_3), (0, .ref (llSk G 5))]) dX12_packed_26 rfl (by decide) (by decide) (fun _ => rfl) (fun v3_4 => ?_)
    refine J_goto (tgt := 4) dX12_packed_29 (by decide) ?_
    exact J_cut [2, 1, 0] (lv' := [(0, .ref (llSk G 5)), (1, .long v1_3), (3, .int v3_4)]) rfl (fun h => h)
def fx_X12_packed_s5 (u : llMem)  : Option Int64 := (loop (fx_X12_packed_s5_l4 u) llFuel (0, 0)).bind (fun e5 => some e5)
set_option maxRecDepth 20000 in
theorem tj_X12_packed_s5 {G : llG} {d : Nat} (u : llMem)  : llJ G RX12 cX12_packed 4 (some .long) (d + 6) (fun r => llRet G (llLg r) u) 0 [(0, .ref (llSk G 5))] [] u (fx_X12_packed_s5 u ) := by
  unfold fx_X12_packed_s5
  refine J_lconst (v := 0) dX12_packed_0 (by decide) ?_
  refine J_lstore_n [(1, .long 0), (0, .ref (llSk G 5))] dX12_packed_1 rfl (by decide) rfl ?_
  refine J_iconst (v := 0) dX12_packed_2 (by decide) ?_
  refine J_istore_n [(3, .int 0), (1, .long 0), (0, .ref (llSk G 5))] dX12_packed_3 rfl (by decide) rfl ?_
  refine J_loopE (fun s' => [(0, .ref (llSk G 5)), (1, .long s'.1), (3, .int s'.2)]) (fun s' => u) 32 (fun e => [(1, .long e)]) (fun e => u) (fun z => t_X12_packed_s5_l4 u z) [2, 1, 0] rfl rfl (fun e5 => ?_)
  refine J_lload_n (j := 0) dX12_packed_32 rfl rfl ?_
  exact J_lret dX12_packed_33 (fun h => h)
theorem t_X12_packed_s5 (l : Launch) (F : llFix) (d : Nat) (u : llMem)  : llCp l F yX12_packed cX12_packed 4 (some .long) (d + 6) [.ref (F.2.2.2.1 5)] u llLg (fx_X12_packed_s5 u ) := llCp.of (by decide +kernel) (by exact Nat.le_of_ble_eq_true rfl) (fun G h1 h2 => by subst h1; subst h2; exact tj_X12_packed_s5 u )
def fx_X12_isWord_69_s5 (u : llMem)  : Option Int32 := (if ¬ (u.1 69 21) = 1 then gB 0 (some 0) else (fx_strlen 5 u ).bind (fun r1 => (if ¬ ((u.1 69 23) - (u.1 69 22)) = r1 then gB 0 (some 0) else (fx_X12_packed_s5 u ).bind (fun r2 => (if ¬ (lg_cmp (u.2.1 69 24) r2) = 0 then gB 0 (some 0) else gB 1 (some 1))))))
set_option maxRecDepth 20000 in
theorem tj_X12_isWord_69_s5 {G : llG} {d : Nat} (u : llMem)  : llJ G RX12 cX12_isWord 2 (some .boolean) (d + 7) (fun r => llRet G (llI r) u) 0 [(0, .ref (llAd G 69)), (1, .ref (llSk G 5))] [] u (fx_X12_isWord_69_s5 u ) := by
  unfold fx_X12_isWord_69_s5
  refine J_aload_n (j := 0) dX12_isWord_0 rfl rfl ?_
  refine J_getI dX12_isWord_1 fl_X12_144 sh_69 rfl ?_
  refine J_iconst (v := 1) dX12_isWord_4 (by decide) ?_
  refine J_icmp_ne (tgt := 40) dX12_isWord_5 (by decide) ?_ ?_
  · refine J_iconst (v := 0) dX12_isWord_40 (by decide) ?_
    exact J_zret dX12_isWord_41 (fun h => h)
  · refine J_aload_n (j := 0) dX12_isWord_8 rfl rfl ?_
    refine J_getI dX12_isWord_9 fl_X12_124 sh_69 rfl ?_
    refine J_aload_n (j := 0) dX12_isWord_12 rfl rfl ?_
    refine J_getI dX12_isWord_13 fl_X12_131 sh_69 rfl ?_
    refine J_isub dX12_isWord_16 ?_
    refine J_aload_n (j := 1) dX12_isWord_17 rfl rfl ?_
    refine J_callTip0 dX12_isWord_18 (t_strlen (llL G) (llFx G) (d + 1) 5 (by decide) u ) ym_J0_length_8abf5 wd_1345 5 (by decide) (Nat.le_of_ble_eq_true rfl) rfl (fun r1 => ?_)
    refine J_icmp_ne (tgt := 40) dX12_isWord_21 (by decide) ?_ ?_
    · refine J_iconst (v := 0) dX12_isWord_40 (by decide) ?_
      exact J_zret dX12_isWord_41 (fun h => h)
    · refine J_aload_n (j := 0) dX12_isWord_24 rfl rfl ?_
      refine J_getL dX12_isWord_25 fl_X12_134 sh_69 rfl ?_
      refine J_aload_n (j := 1) dX12_isWord_28 rfl rfl ?_
      refine J_callSlp1 dX12_isWord_29 (t_X12_packed_s5 (llL G) (llFx G) d u ) ym_X12_packed wd_1355 (Nat.le_of_ble_eq_true rfl) (fun r2 => ?_)
      refine J_lcmp dX12_isWord_32 ?_
      refine J_if_ne (tgt := 40) dX12_isWord_33 (by decide) ?_ ?_
      · refine J_iconst (v := 0) dX12_isWord_40 (by decide) ?_
        exact J_zret dX12_isWord_41 (fun h => h)
      · refine J_iconst (v := 1) dX12_isWord_36 (by decide) ?_
        refine J_goto (tgt := 41) dX12_isWord_37 (by decide) ?_
        exact J_zret dX12_isWord_41 (fun h => h)
theorem t_X12_isWord_69_s5 (l : Launch) (F : llFix) (d : Nat) (u : llMem)  : llCp l F yX12_isWord cX12_isWord 2 (some .boolean) (d + 7) [.ref (F.2.2.1 69), .ref (F.2.2.2.1 5)] u llI (fx_X12_isWord_69_s5 u ) := llCp.of (by decide +kernel) (by exact Nat.le_of_ble_eq_true rfl) (fun G h1 h2 => by subst h1; subst h2; exact tj_X12_isWord_69_s5 u )
def fx_X12_packed_s6_l4 (u : llMem)  (s : Int64 × Int32) : Option ((Int64 × Int32) ⊕ (Int64)) := (fx_strlen 6 u ).bind (fun r1 => (if r1 ≤ s.2 then some (.inr s.1) else (fx_charAt 6 u s.2).bind (fun r2 => lt ((s.1 <<< (Int32.toInt64 5 &&& 63)) ||| (Int32.toInt64 (r2 - 96))) (fun v1_3 => lt (s.2 + 1) (fun v3_4 => some (.inl (v1_3, v3_4)))))))
set_option maxRecDepth 20000 in
theorem t_X12_packed_s6_l4 {G : llG} {d : Nat} (u : llMem)  (s : Int64 × Int32) : llJ G RX12 cX12_packed 4 (some .long) (d + 6) (Sum.elim (fun s' => llJq G 4 4 [(0, .ref (llSk G 6)), (1, .long s'.1), (3, .int s'.2)] [] u) (fun e => llJq G 4 32 [(1, .long e)] [] u)) 4 [(0, .ref (llSk G 6)), (1, .long s.1), (3, .int s.2)] [] u (fx_X12_packed_s6_l4 u s) := by
  unfold fx_X12_packed_s6_l4
  refine J_iload_n (j := 2) dX12_packed_4 rfl rfl ?_
  refine J_aload_n (j := 0) dX12_packed_5 rfl rfl ?_
  refine J_callTip0 dX12_packed_6 (t_strlen (llL G) (llFx G) d 6 (by decide) u ) ym_J0_length_8abf5 wd_1345 6 (by decide) (Nat.le_of_ble_eq_true rfl) rfl (fun r1 => ?_)
  refine J_icmp_ge (tgt := 32) dX12_packed_9 (by decide) ?_ ?_
  · exact J_cut [1] (lv' := [(1, .long s.1)]) rfl (fun h => h)
  · refine J_lload_n (j := 1) dX12_packed_12 rfl rfl ?_
    refine J_iconst (v := 5) dX12_packed_13 (by decide) ?_
    refine J_lshl dX12_packed_14 ?_
    refine J_aload_n (j := 0) dX12_packed_15 rfl rfl ?_
    refine J_iload_n (j := 2) dX12_packed_16 rfl rfl ?_
    refine J_callTip1 dX12_packed_17 (t_charAt (llL G) (llFx G) d 6 (by decide) u s.2) ym_J0_charAt_5068e wd_1358 6 (by decide) (Nat.le_of_ble_eq_true rfl) rfl (fun r2 => ?_)
    refine J_bipush (v := 96) dX12_packed_20 (by decide) ?_
    refine J_isub dX12_packed_22 ?_
    refine J_i2l dX12_packed_23 ?_
    refine J_lor dX12_packed_24 ?_
    refine J_lstore_nL (fun v1_3 => [(1, .long v1_3), (0, .ref (llSk G 6)), (3, .int s.2)]) dX12_packed_25 rfl (by decide) (fun _ => rfl) (fun v1_3 => ?_)
    refine J_iinc (j := 2) (b := 1) (fun v3_4 => [(3, .int v3_4), (1, .long v1_3), (0, .ref (llSk G 6))]) dX12_packed_26 rfl (by decide) (by decide) (fun _ => rfl) (fun v3_4 => ?_)
    refine J_goto (tgt := 4) dX12_packed_29 (by decide) ?_
    exact J_cut [2, 1, 0] (lv' := [(0, .ref (llSk G 6)), (1, .long v1_3), (3, .int v3_4)]) rfl (fun h => h)
def fx_X12_packed_s6 (u : llMem)  : Option Int64 := (loop (fx_X12_packed_s6_l4 u) llFuel (0, 0)).bind (fun e5 => some e5)
set_option maxRecDepth 20000 in
theorem tj_X12_packed_s6 {G : llG} {d : Nat} (u : llMem)  : llJ G RX12 cX12_packed 4 (some .long) (d + 6) (fun r => llRet G (llLg r) u) 0 [(0, .ref (llSk G 6))] [] u (fx_X12_packed_s6 u ) := by
  unfold fx_X12_packed_s6
  refine J_lconst (v := 0) dX12_packed_0 (by decide) ?_
  refine J_lstore_n [(1, .long 0), (0, .ref (llSk G 6))] dX12_packed_1 rfl (by decide) rfl ?_
  refine J_iconst (v := 0) dX12_packed_2 (by decide) ?_
  refine J_istore_n [(3, .int 0), (1, .long 0), (0, .ref (llSk G 6))] dX12_packed_3 rfl (by decide) rfl ?_
  refine J_loopE (fun s' => [(0, .ref (llSk G 6)), (1, .long s'.1), (3, .int s'.2)]) (fun s' => u) 32 (fun e => [(1, .long e)]) (fun e => u) (fun z => t_X12_packed_s6_l4 u z) [2, 1, 0] rfl rfl (fun e5 => ?_)
  refine J_lload_n (j := 0) dX12_packed_32 rfl rfl ?_
  exact J_lret dX12_packed_33 (fun h => h)
theorem t_X12_packed_s6 (l : Launch) (F : llFix) (d : Nat) (u : llMem)  : llCp l F yX12_packed cX12_packed 4 (some .long) (d + 6) [.ref (F.2.2.2.1 6)] u llLg (fx_X12_packed_s6 u ) := llCp.of (by decide +kernel) (by exact Nat.le_of_ble_eq_true rfl) (fun G h1 h2 => by subst h1; subst h2; exact tj_X12_packed_s6 u )
def fx_X12_isWord_69_s6 (u : llMem)  : Option Int32 := (if ¬ (u.1 69 21) = 1 then gB 0 (some 0) else (fx_strlen 6 u ).bind (fun r1 => (if ¬ ((u.1 69 23) - (u.1 69 22)) = r1 then gB 0 (some 0) else (fx_X12_packed_s6 u ).bind (fun r2 => (if ¬ (lg_cmp (u.2.1 69 24) r2) = 0 then gB 0 (some 0) else gB 1 (some 1))))))
set_option maxRecDepth 20000 in
theorem tj_X12_isWord_69_s6 {G : llG} {d : Nat} (u : llMem)  : llJ G RX12 cX12_isWord 2 (some .boolean) (d + 7) (fun r => llRet G (llI r) u) 0 [(0, .ref (llAd G 69)), (1, .ref (llSk G 6))] [] u (fx_X12_isWord_69_s6 u ) := by
  unfold fx_X12_isWord_69_s6
  refine J_aload_n (j := 0) dX12_isWord_0 rfl rfl ?_
  refine J_getI dX12_isWord_1 fl_X12_144 sh_69 rfl ?_
  refine J_iconst (v := 1) dX12_isWord_4 (by decide) ?_
  refine J_icmp_ne (tgt := 40) dX12_isWord_5 (by decide) ?_ ?_
  · refine J_iconst (v := 0) dX12_isWord_40 (by decide) ?_
    exact J_zret dX12_isWord_41 (fun h => h)
  · refine J_aload_n (j := 0) dX12_isWord_8 rfl rfl ?_
    refine J_getI dX12_isWord_9 fl_X12_124 sh_69 rfl ?_
    refine J_aload_n (j := 0) dX12_isWord_12 rfl rfl ?_
    refine J_getI dX12_isWord_13 fl_X12_131 sh_69 rfl ?_
    refine J_isub dX12_isWord_16 ?_
    refine J_aload_n (j := 1) dX12_isWord_17 rfl rfl ?_
    refine J_callTip0 dX12_isWord_18 (t_strlen (llL G) (llFx G) (d + 1) 6 (by decide) u ) ym_J0_length_8abf5 wd_1345 6 (by decide) (Nat.le_of_ble_eq_true rfl) rfl (fun r1 => ?_)
    refine J_icmp_ne (tgt := 40) dX12_isWord_21 (by decide) ?_ ?_
    · refine J_iconst (v := 0) dX12_isWord_40 (by decide) ?_
      exact J_zret dX12_isWord_41 (fun h => h)
    · refine J_aload_n (j := 0) dX12_isWord_24 rfl rfl ?_
      refine J_getL dX12_isWord_25 fl_X12_134 sh_69 rfl ?_
      refine J_aload_n (j := 1) dX12_isWord_28 rfl rfl ?_
      refine J_callSlp1 dX12_isWord_29 (t_X12_packed_s6 (llL G) (llFx G) d u ) ym_X12_packed wd_1355 (Nat.le_of_ble_eq_true rfl) (fun r2 => ?_)
      refine J_lcmp dX12_isWord_32 ?_
      refine J_if_ne (tgt := 40) dX12_isWord_33 (by decide) ?_ ?_
      · refine J_iconst (v := 0) dX12_isWord_40 (by decide) ?_
        exact J_zret dX12_isWord_41 (fun h => h)
      · refine J_iconst (v := 1) dX12_isWord_36 (by decide) ?_
        refine J_goto (tgt := 41) dX12_isWord_37 (by decide) ?_
        exact J_zret dX12_isWord_41 (fun h => h)
theorem t_X12_isWord_69_s6 (l : Launch) (F : llFix) (d : Nat) (u : llMem)  : llCp l F yX12_isWord cX12_isWord 2 (some .boolean) (d + 7) [.ref (F.2.2.1 69), .ref (F.2.2.2.1 6)] u llI (fx_X12_isWord_69_s6 u ) := llCp.of (by decide +kernel) (by exact Nat.le_of_ble_eq_true rfl) (fun G h1 h2 => by subst h1; subst h2; exact tj_X12_isWord_69_s6 u )
def fx_X12_isName_69 (u : llMem)  : Option Int32 := (if ¬ (u.1 69 21) = 1 then gB 0 (some 0) else (if 7 < ((u.1 69 23) - (u.1 69 22)) then gB 0 (some 0) else (fx_X12_isWord_69_s0 u ).bind (fun r1 => (if ¬ r1 = 0 then gB 0 (some 0) else (fx_X12_isWord_69_s1 u ).bind (fun r2 => (if ¬ r2 = 0 then gB 0 (some 0) else (fx_X12_isWord_69_s2 u ).bind (fun r3 => (if ¬ r3 = 0 then gB 0 (some 0) else (fx_X12_isWord_69_s3 u ).bind (fun r4 => (if ¬ r4 = 0 then gB 0 (some 0) else (fx_X12_isWord_69_s4 u ).bind (fun r5 => (if ¬ r5 = 0 then gB 0 (some 0) else (fx_X12_isWord_69_s5 u ).bind (fun r6 => (if ¬ r6 = 0 then gB 0 (some 0) else (fx_X12_isWord_69_s6 u ).bind (fun r7 => (if ¬ r7 = 0 then gB 0 (some 0) else gB 1 (some 1)))))))))))))))))
set_option maxRecDepth 20000 in
theorem tj_X12_isName_69 {G : llG} {d : Nat} (u : llMem)  : llJ G RX12 cX12_isName 1 (some .boolean) (d + 8) (fun r => llRet G (llI r) u) 0 [(0, .ref (llAd G 69))] [] u (fx_X12_isName_69 u ) := by
  unfold fx_X12_isName_69
  refine J_aload_n (j := 0) dX12_isName_0 rfl rfl ?_
  refine J_getI dX12_isName_1 fl_X12_144 sh_69 rfl ?_
  refine J_iconst (v := 1) dX12_isName_4 (by decide) ?_
  refine J_icmp_ne (tgt := 89) dX12_isName_5 (by decide) ?_ ?_
  · refine J_iconst (v := 0) dX12_isName_89 (by decide) ?_
    exact J_zret dX12_isName_90 (fun h => h)
  · refine J_aload_n (j := 0) dX12_isName_8 rfl rfl ?_
    refine J_getI dX12_isName_9 fl_X12_124 sh_69 rfl ?_
    refine J_aload_n (j := 0) dX12_isName_12 rfl rfl ?_
    refine J_getI dX12_isName_13 fl_X12_131 sh_69 rfl ?_
    refine J_isub dX12_isName_16 ?_
    refine J_bipush (v := 7) dX12_isName_17 (by decide) ?_
    refine J_icmp_gt (tgt := 89) dX12_isName_19 (by decide) ?_ ?_
    · refine J_iconst (v := 0) dX12_isName_89 (by decide) ?_
      exact J_zret dX12_isName_90 (fun h => h)
    · refine J_aload_n (j := 0) dX12_isName_22 rfl rfl ?_
      refine J_ldcS 0 (by decide) rfl rfl dX12_isName_23 ?_
      refine J_callVip1 dX12_isName_25 (t_X12_isWord_69_s0 (llL G) (llFx G) d u ) ym_X12_isWord wd_1341 sh_69 rfl (Nat.le_of_ble_eq_true rfl) (fun r1 => ?_)
      refine J_if_ne (tgt := 89) dX12_isName_28 (by decide) ?_ ?_
      · refine J_iconst (v := 0) dX12_isName_89 (by decide) ?_
        exact J_zret dX12_isName_90 (fun h => h)
      · refine J_aload_n (j := 0) dX12_isName_31 rfl rfl ?_
        refine J_ldcS 1 (by decide) rfl rfl dX12_isName_32 ?_
        refine J_callVip1 dX12_isName_34 (t_X12_isWord_69_s1 (llL G) (llFx G) d u ) ym_X12_isWord wd_1341 sh_69 rfl (Nat.le_of_ble_eq_true rfl) (fun r2 => ?_)
        refine J_if_ne (tgt := 89) dX12_isName_37 (by decide) ?_ ?_
        · refine J_iconst (v := 0) dX12_isName_89 (by decide) ?_
          exact J_zret dX12_isName_90 (fun h => h)
        · refine J_aload_n (j := 0) dX12_isName_40 rfl rfl ?_
          refine J_ldcS 2 (by decide) rfl rfl dX12_isName_41 ?_
          refine J_callVip1 dX12_isName_43 (t_X12_isWord_69_s2 (llL G) (llFx G) d u ) ym_X12_isWord wd_1341 sh_69 rfl (Nat.le_of_ble_eq_true rfl) (fun r3 => ?_)
          refine J_if_ne (tgt := 89) dX12_isName_46 (by decide) ?_ ?_
          · refine J_iconst (v := 0) dX12_isName_89 (by decide) ?_
            exact J_zret dX12_isName_90 (fun h => h)
          · refine J_aload_n (j := 0) dX12_isName_49 rfl rfl ?_
            refine J_ldcS 3 (by decide) rfl rfl dX12_isName_50 ?_
            refine J_callVip1 dX12_isName_52 (t_X12_isWord_69_s3 (llL G) (llFx G) d u ) ym_X12_isWord wd_1341 sh_69 rfl (Nat.le_of_ble_eq_true rfl) (fun r4 => ?_)
            refine J_if_ne (tgt := 89) dX12_isName_55 (by decide) ?_ ?_
            · refine J_iconst (v := 0) dX12_isName_89 (by decide) ?_
              exact J_zret dX12_isName_90 (fun h => h)
            · refine J_aload_n (j := 0) dX12_isName_58 rfl rfl ?_
              refine J_ldcS 4 (by decide) rfl rfl dX12_isName_59 ?_
              refine J_callVip1 dX12_isName_61 (t_X12_isWord_69_s4 (llL G) (llFx G) d u ) ym_X12_isWord wd_1341 sh_69 rfl (Nat.le_of_ble_eq_true rfl) (fun r5 => ?_)
              refine J_if_ne (tgt := 89) dX12_isName_64 (by decide) ?_ ?_
              · refine J_iconst (v := 0) dX12_isName_89 (by decide) ?_
                exact J_zret dX12_isName_90 (fun h => h)
              · refine J_aload_n (j := 0) dX12_isName_67 rfl rfl ?_
                refine J_ldcS 5 (by decide) rfl rfl dX12_isName_68 ?_
                refine J_callVip1 dX12_isName_70 (t_X12_isWord_69_s5 (llL G) (llFx G) d u ) ym_X12_isWord wd_1341 sh_69 rfl (Nat.le_of_ble_eq_true rfl) (fun r6 => ?_)
                refine J_if_ne (tgt := 89) dX12_isName_73 (by decide) ?_ ?_
                · refine J_iconst (v := 0) dX12_isName_89 (by decide) ?_
                  exact J_zret dX12_isName_90 (fun h => h)
                · refine J_aload_n (j := 0) dX12_isName_76 rfl rfl ?_
                  refine J_ldcS 6 (by decide) rfl rfl dX12_isName_77 ?_
                  refine J_callVip1 dX12_isName_79 (t_X12_isWord_69_s6 (llL G) (llFx G) d u ) ym_X12_isWord wd_1341 sh_69 rfl (Nat.le_of_ble_eq_true rfl) (fun r7 => ?_)
                  refine J_if_ne (tgt := 89) dX12_isName_82 (by decide) ?_ ?_
                  · refine J_iconst (v := 0) dX12_isName_89 (by decide) ?_
                    exact J_zret dX12_isName_90 (fun h => h)
                  · refine J_iconst (v := 1) dX12_isName_85 (by decide) ?_
                    refine J_goto (tgt := 90) dX12_isName_86 (by decide) ?_
                    exact J_zret dX12_isName_90 (fun h => h)
theorem t_X12_isName_69 (l : Launch) (F : llFix) (d : Nat) (u : llMem)  : llCp l F yX12_isName cX12_isName 1 (some .boolean) (d + 8) [.ref (F.2.2.1 69)] u llI (fx_X12_isName_69 u ) := llCp.of (by decide +kernel) (by exact Nat.le_of_ble_eq_true rfl) (fun G h1 h2 => by subst h1; subst h2; exact tj_X12_isName_69 u )
def fx_X12_placeOf_69_l3 (u : llMem) (v1 : Int64) (v3 : Int32) (v4 : Int32) (s : Int32) : Option ((Int32) ⊕ ((Unit) ⊕ (Int32))) := (if v4 ≤ s then some (.inr (.inl ())) else gI (v3 + s) 60 ((if ¬ (lg_cmp (rL u 71 (v3 + s)) v1) = 0 then lt (s + 1) (fun v5_1 => some (.inl v5_1)) else some (.inr (.inr s)))))
set_option maxRecDepth 20000 in
theorem t_X12_placeOf_69_l3 {G : llG} {d : Nat} (u : llMem) (v1 : Int64) (v3 : Int32) (v4 : Int32) (s : Int32) : llJ G RX12 cX12_placeOf 6 (some .int) d (Sum.elim (fun s' => llJq G 6 3 [(0, .ref (llAd G 69)), (1, .long v1), (3, .int v3), (4, .int v4), (5, .int s')] [] u) (Sum.elim (fun e => llJq G 6 33 [] [] u) (fun v => llRet G (llI v) u))) 3 [(0, .ref (llAd G 69)), (1, .long v1), (3, .int v3), (4, .int v4), (5, .int s)] [] u (fx_X12_placeOf_69_l3 u v1 v3 v4 s) := by
  unfold fx_X12_placeOf_69_l3
  refine J_iload (j := 4) dX12_placeOf_3 rfl ?_
  refine J_iload (j := 3) dX12_placeOf_5 rfl ?_
  refine J_icmp_ge (tgt := 33) dX12_placeOf_7 (by decide) ?_ ?_
  · exact J_cut [] (lv' := []) rfl (fun h => h)
  · refine J_aload_n (j := 0) dX12_placeOf_10 rfl rfl ?_
    refine J_getR (b := 71) dX12_placeOf_11 fl_X12_13 sh_69 rfl ?_
    refine J_iload_n (j := 2) dX12_placeOf_14 rfl rfl ?_
    refine J_iload (j := 4) dX12_placeOf_15 rfl ?_
    refine J_iadd dX12_placeOf_17 ?_
    refine J_lald dX12_placeOf_18 sh_71 ?_
    refine J_lload_n (j := 1) dX12_placeOf_19 rfl rfl ?_
    refine J_lcmp dX12_placeOf_20 ?_
    refine J_if_ne (tgt := 27) dX12_placeOf_21 (by decide) ?_ ?_
    · refine J_iinc (j := 4) (b := 1) (fun v5_1 => [(5, .int v5_1), (0, .ref (llAd G 69)), (1, .long v1), (3, .int v3), (4, .int v4)]) dX12_placeOf_27 rfl (by decide) (by decide) (fun _ => rfl) (fun v5_1 => ?_)
      refine J_goto (tgt := 3) dX12_placeOf_30 (by decide) ?_
      exact J_cut [1, 2, 3, 4, 0] (lv' := [(0, .ref (llAd G 69)), (1, .long v1), (3, .int v3), (4, .int v4), (5, .int v5_1)]) rfl (fun h => h)
    · refine J_iload (j := 4) dX12_placeOf_24 rfl ?_
      exact J_iret dX12_placeOf_26 (fun h => h)
def fx_X12_placeOf_69 (u : llMem) (a0 : Int64) (a1 : Int32) (a2 : Int32) : Option Int32 := (loop (fx_X12_placeOf_69_l3 u a0 a1 a2) llFuel 0).bind (Sum.elim (fun e2 => some ((-1))) (fun v => some ((fun v => v) v)))
set_option maxRecDepth 20000 in
theorem tj_X12_placeOf_69 {G : llG} {d : Nat} (u : llMem) (a0 : Int64) (a1 : Int32) (a2 : Int32) : llJ G RX12 cX12_placeOf 6 (some .int) d (fun r => llRet G (llI r) u) 0 [(0, .ref (llAd G 69)), (1, .long a0), (3, .int a1), (4, .int a2)] [] u (fx_X12_placeOf_69 u a0 a1 a2) := by
  unfold fx_X12_placeOf_69
  refine J_iconst (v := 0) dX12_placeOf_0 (by decide) ?_
  refine J_istore [(5, .int 0), (0, .ref (llAd G 69)), (1, .long a0), (3, .int a1), (4, .int a2)] dX12_placeOf_1 (by decide) rfl ?_
  refine J_loopR (wr := (fun v => v)) (fun s' => [(0, .ref (llAd G 69)), (1, .long a0), (3, .int a1), (4, .int a2), (5, .int s')]) (fun s' => u) 33 (fun e => []) (fun e => u) (fun v => llRet G (llI v) u) (fun z => t_X12_placeOf_69_l3 u a0 a1 a2 z) [1, 2, 3, 4, 0] rfl rfl (fun v h => h) (fun e2 => ?_)
  refine J_iconst (v := (-1)) dX12_placeOf_33 (by decide) ?_
  exact J_iret dX12_placeOf_34 (fun h => h)
theorem t_X12_placeOf_69 (l : Launch) (F : llFix) (d : Nat) (u : llMem) (a0 : Int64) (a1 : Int32) (a2 : Int32) : llCp l F yX12_placeOf cX12_placeOf 6 (some .int) d [.ref (F.2.2.1 69), .long a0, .int a1, .int a2] u llI (fx_X12_placeOf_69 u a0 a1 a2) := llCp.of (by decide +kernel) (by exact Nat.le_of_ble_eq_true rfl) (fun G h1 h2 => by subst h1; subst h2; exact tj_X12_placeOf_69 u a0 a1 a2)
def fx_X12_readNumber_69_j21 (u : llMem)  : Option ((llMem × Int32)) := bd (fx_X12_fails_69 u 1) (fun u1 r2 => gB r2 (some (u1, r2)))
set_option maxRecDepth 20000 in
theorem t_X12_readNumber_69_j21 {G : llG} {d : Nat} (u : llMem)  : llJ G RX12 cX12_readNumber 3 (some .boolean) (d + 2) (fun r => llRet G (llI r.2) r.1) 21 [(0, .ref (llAd G 69))] [] u (fx_X12_readNumber_69_j21 u ) := by
  unfold fx_X12_readNumber_69_j21
  refine J_aload_n (j := 0) dX12_readNumber_21 rfl rfl ?_
  refine J_iconst (v := 1) dX12_readNumber_22 (by decide) ?_
  refine J_callVi1 dX12_readNumber_23 (t_X12_fails_69 (llL G) (llFx G) (d + 1) u 1) ym_X12_fails wd_1400 sh_69 rfl (Nat.le_of_ble_eq_true rfl) (fun u1 r2 => ?_)
  exact J_zret dX12_readNumber_26 (fun h => h)
def fx_X12_readNumber_69 (u : llMem) (a0 : Int32) (a1 : Int32) : Option (llMem × Int32) := (if ¬ (u.1 69 21) = 2 then fx_X12_readNumber_69_j21 u  else (if ((u.1 69 23) - (u.1 69 22)) ≤ 3 then (fx_X12_isIn u (Int32.toInt64 (u.1 69 25)) (Int32.toInt64 a0) (Int32.toInt64 a1)).bind (fun r3 => (if ¬ r3 = 0 then lt (llSI u 69 27 (u.1 69 25)) (fun u4 => bd (fx_X12_next_69 u4 ) (fun u5 _ => gB 1 (some (u5, 1)))) else bd (fx_X12_fails_69 u 3) (fun u6 r7 => gB r7 (some (u6, r7))))) else fx_X12_readNumber_69_j21 u ))
set_option maxRecDepth 20000 in
theorem tj_X12_readNumber_69 {G : llG} {d : Nat} (u : llMem) (a0 : Int32) (a1 : Int32) : llJ G RX12 cX12_readNumber 3 (some .boolean) (d + 2) (fun r => llRet G (llI r.2) r.1) 0 [(0, .ref (llAd G 69)), (1, .int a0), (2, .int a1)] [] u (fx_X12_readNumber_69 u a0 a1) := by
  unfold fx_X12_readNumber_69
  refine J_aload_n (j := 0) dX12_readNumber_0 rfl rfl ?_
  refine J_getI dX12_readNumber_1 fl_X12_144 sh_69 rfl ?_
  refine J_iconst (v := 2) dX12_readNumber_4 (by decide) ?_
  refine J_icmp_ne (tgt := 21) dX12_readNumber_5 (by decide) ?_ ?_
  · refine J_sub [0] (lv' := [(0, .ref (llAd G 69))]) rfl ?_
    exact t_X12_readNumber_69_j21 u 
  · refine J_aload_n (j := 0) dX12_readNumber_8 rfl rfl ?_
    refine J_getI dX12_readNumber_9 fl_X12_124 sh_69 rfl ?_
    refine J_aload_n (j := 0) dX12_readNumber_12 rfl rfl ?_
    refine J_getI dX12_readNumber_13 fl_X12_131 sh_69 rfl ?_
    refine J_isub dX12_readNumber_16 ?_
    refine J_iconst (v := 3) dX12_readNumber_17 (by decide) ?_
    refine J_icmp_le (tgt := 27) dX12_readNumber_18 (by decide) ?_ ?_
    · refine J_aload_n (j := 0) dX12_readNumber_27 rfl rfl ?_
      refine J_getI dX12_readNumber_28 fl_X12_138 sh_69 rfl ?_
      refine J_i2l dX12_readNumber_31 ?_
      refine J_iload_n (j := 1) dX12_readNumber_32 rfl rfl ?_
      refine J_i2l dX12_readNumber_33 ?_
      refine J_iload_n (j := 2) dX12_readNumber_34 rfl rfl ?_
      refine J_i2l dX12_readNumber_35 ?_
      refine J_callSip3 dX12_readNumber_36 (t_X12_isIn (llL G) (llFx G) (d + 1) u (Int32.toInt64 (u.1 69 25)) (Int32.toInt64 a0) (Int32.toInt64 a1)) ym_X12_isIn wd_1313 (Nat.le_of_ble_eq_true rfl) (fun r3 => ?_)
      refine J_if_ne (tgt := 48) dX12_readNumber_39 (by decide) ?_ ?_
      · refine J_aload_n (j := 0) dX12_readNumber_48 rfl rfl ?_
        refine J_aload_n (j := 0) dX12_readNumber_49 rfl rfl ?_
        refine J_getI dX12_readNumber_50 fl_X12_138 sh_69 rfl ?_
        refine J_putI dX12_readNumber_53 fl_X12_198 sh_69 rfl (fun u4 => ?_)
        refine J_aload_n (j := 0) dX12_readNumber_56 rfl rfl ?_
        refine J_callVv0 dX12_readNumber_57 (t_X12_next_69 (llL G) (llFx G) d u4 ) ym_X12_next wd_1324 sh_69 rfl (Nat.le_of_ble_eq_true rfl) (fun u5 => ?_)
        refine J_iconst (v := 1) dX12_readNumber_60 (by decide) ?_
        exact J_zret dX12_readNumber_61 (fun h => h)
      · refine J_aload_n (j := 0) dX12_readNumber_42 rfl rfl ?_
        refine J_iconst (v := 3) dX12_readNumber_43 (by decide) ?_
        refine J_callVi1 dX12_readNumber_44 (t_X12_fails_69 (llL G) (llFx G) (d + 1) u 3) ym_X12_fails wd_1400 sh_69 rfl (Nat.le_of_ble_eq_true rfl) (fun u6 r7 => ?_)
        exact J_zret dX12_readNumber_47 (fun h => h)
    · refine J_sub [0] (lv' := [(0, .ref (llAd G 69))]) rfl ?_
      exact t_X12_readNumber_69_j21 u 
theorem t_X12_readNumber_69 (l : Launch) (F : llFix) (d : Nat) (u : llMem) (a0 : Int32) (a1 : Int32) : llCt l F yX12_readNumber cX12_readNumber 3 (some .boolean) (d + 2) [.ref (F.2.2.1 69), .int a0, .int a1] u llI (fx_X12_readNumber_69 u a0 a1) := llCt.of (by decide +kernel) (by exact Nat.le_of_ble_eq_true rfl) (fun G h1 h2 => by subst h1; subst h2; exact tj_X12_readNumber_69 u a0 a1)
def fx_X12_takes_69_s5 (u : llMem)  : Option (llMem × Int32) := (fx_X12_isWord_69_s5 u ).bind (fun r1 => (if ¬ r1 = 0 then bd (fx_X12_next_69 u ) (fun u2 _ => gB 1 (some (u2, 1))) else bd (fx_X12_fails_69 u 1) (fun u3 r4 => gB r4 (some (u3, r4)))))
set_option maxRecDepth 20000 in
theorem tj_X12_takes_69_s5 {G : llG} {d : Nat} (u : llMem)  : llJ G RX12 cX12_takes 2 (some .boolean) (d + 8) (fun r => llRet G (llI r.2) r.1) 0 [(0, .ref (llAd G 69)), (1, .ref (llSk G 5))] [] u (fx_X12_takes_69_s5 u ) := by
  unfold fx_X12_takes_69_s5
  refine J_aload_n (j := 0) dX12_takes_0 rfl rfl ?_
  refine J_aload_n (j := 1) dX12_takes_1 rfl rfl ?_
  refine J_callVip1 dX12_takes_2 (t_X12_isWord_69_s5 (llL G) (llFx G) d u ) ym_X12_isWord wd_1341 sh_69 rfl (Nat.le_of_ble_eq_true rfl) (fun r1 => ?_)
  refine J_if_ne (tgt := 14) dX12_takes_5 (by decide) ?_ ?_
  · refine J_aload_n (j := 0) dX12_takes_14 rfl rfl ?_
    refine J_callVv0 dX12_takes_15 (t_X12_next_69 (llL G) (llFx G) (d + 6) u ) ym_X12_next wd_1324 sh_69 rfl (Nat.le_of_ble_eq_true rfl) (fun u2 => ?_)
    refine J_iconst (v := 1) dX12_takes_18 (by decide) ?_
    exact J_zret dX12_takes_19 (fun h => h)
  · refine J_aload_n (j := 0) dX12_takes_8 rfl rfl ?_
    refine J_iconst (v := 1) dX12_takes_9 (by decide) ?_
    refine J_callVi1 dX12_takes_10 (t_X12_fails_69 (llL G) (llFx G) (d + 7) u 1) ym_X12_fails wd_1400 sh_69 rfl (Nat.le_of_ble_eq_true rfl) (fun u3 r4 => ?_)
    exact J_zret dX12_takes_13 (fun h => h)
theorem t_X12_takes_69_s5 (l : Launch) (F : llFix) (d : Nat) (u : llMem)  : llCt l F yX12_takes cX12_takes 2 (some .boolean) (d + 8) [.ref (F.2.2.1 69), .ref (F.2.2.2.1 5)] u llI (fx_X12_takes_69_s5 u ) := llCt.of (by decide +kernel) (by exact Nat.le_of_ble_eq_true rfl) (fun G h1 h2 => by subst h1; subst h2; exact tj_X12_takes_69_s5 u )
def fx_X12_readClub_69_j306 (u : llMem)  : Option ((llMem × Int32)) := lt (llSI u 69 10 ((u.1 69 10) + 1)) (fun u21 => gB 1 (some (u21, 1)))
set_option maxRecDepth 20000 in
theorem t_X12_readClub_69_j306 {G : llG} {d : Nat} (u : llMem)  : llJ G RX12 cX12_readClub 4 (some .boolean) (d + 9) (fun r => llRet G (llI r.2) r.1) 306 [(0, .ref (llAd G 69))] [] u (fx_X12_readClub_69_j306 u ) := by
  unfold fx_X12_readClub_69_j306
  refine J_aload_n (j := 0) dX12_readClub_306 rfl rfl ?_
  refine J_dup dX12_readClub_307 rfl ?_
  refine J_getI dX12_readClub_308 fl_X12_221 sh_69 rfl ?_
  refine J_iconst (v := 1) dX12_readClub_311 (by decide) ?_
  refine J_iadd dX12_readClub_312 ?_
  refine J_putI dX12_readClub_313 fl_X12_221 sh_69 rfl (fun u21 => ?_)
  refine J_iconst (v := 1) dX12_readClub_316 (by decide) ?_
  exact J_zret dX12_readClub_317 (fun h => h)
def fx_X12_readClub_69_j269 (u : llMem) (v1 : Int32) (v2 : Int32) (v3 : Int32) : Option ((llMem × Int32)) := gI (v3 + 0) 32 (bd (fx_X12_readNumber_69 u 0 ((rI u 70 (v3 + 0)) - 1)) (fun u27 r28 => (if ¬ r28 = 0 then gI v1 60 (lt (llSI u27 74 (Int32.toNatClampNeg v1) v2) (fun u29 => gI v1 60 (lt (llSI u29 75 (Int32.toNatClampNeg v1) (u29.1 69 27)) (fun u30 => fx_X12_readClub_69_j306 u30 )))) else gB 0 (some (u27, 0)))))
set_option maxRecDepth 20000 in
theorem t_X12_readClub_69_j269 {G : llG} {d : Nat} (u : llMem) (v1 : Int32) (v2 : Int32) (v3 : Int32) : llJ G RX12 cX12_readClub 4 (some .boolean) (d + 9) (fun r => llRet G (llI r.2) r.1) 269 [(0, .ref (llAd G 69)), (1, .int v1), (2, .int v2), (3, .int v3)] [] u (fx_X12_readClub_69_j269 u v1 v2 v3) := by
  unfold fx_X12_readClub_69_j269
  refine J_aload_n (j := 0) dX12_readClub_269 rfl rfl ?_
  refine J_iconst (v := 0) dX12_readClub_270 (by decide) ?_
  refine J_aload_n (j := 0) dX12_readClub_271 rfl rfl ?_
  refine J_getR (b := 70) dX12_readClub_272 fl_X12_7 sh_69 rfl ?_
  refine J_iload_n (j := 3) dX12_readClub_275 rfl rfl ?_
  refine J_iconst (v := 0) dX12_readClub_276 (by decide) ?_
  refine J_iadd dX12_readClub_277 ?_
  refine J_iald dX12_readClub_278 sh_70 ?_
  refine J_iconst (v := 1) dX12_readClub_279 (by decide) ?_
  refine J_isub dX12_readClub_280 ?_
  refine J_callVi2 dX12_readClub_281 (t_X12_readNumber_69 (llL G) (llFx G) (d + 6) u 0 ((rI u 70 (v3 + 0)) - 1)) ym_X12_readNumber wd_1408 sh_69 rfl (Nat.le_of_ble_eq_true rfl) (fun u27 r28 => ?_)
  refine J_if_ne (tgt := 289) dX12_readClub_284 (by decide) ?_ ?_
  · refine J_aload_n (j := 0) dX12_readClub_289 rfl rfl ?_
    refine J_getR (b := 74) dX12_readClub_290 fl_X12_23 sh_69 rfl ?_
    refine J_iload_n (j := 1) dX12_readClub_293 rfl rfl ?_
    refine J_iload_n (j := 2) dX12_readClub_294 rfl rfl ?_
    refine J_iast dX12_readClub_295 sh_74 (fun u29 => ?_)
    refine J_aload_n (j := 0) dX12_readClub_296 rfl rfl ?_
    refine J_getR (b := 75) dX12_readClub_297 fl_X12_26 sh_69 rfl ?_
    refine J_iload_n (j := 1) dX12_readClub_300 rfl rfl ?_
    refine J_aload_n (j := 0) dX12_readClub_301 rfl rfl ?_
    refine J_getI dX12_readClub_302 fl_X12_198 sh_69 rfl ?_
    refine J_iast dX12_readClub_305 sh_75 (fun u30 => ?_)
    refine J_sub [0] (lv' := [(0, .ref (llAd G 69))]) rfl ?_
    exact t_X12_readClub_69_j306 u30 
  · refine J_iconst (v := 0) dX12_readClub_287 (by decide) ?_
    exact J_zret dX12_readClub_288 (fun h => h)
def fx_X12_one (u : llMem) (a0 : Int32) : Option Int32 := (if a0 = 0 then some 0 else some 1)
set_option maxRecDepth 20000 in
theorem tj_X12_one {G : llG} {d : Nat} (u : llMem) (a0 : Int32) : llJ G RX12 cX12_one 1 (some .int) d (fun r => llRet G (llI r) u) 0 [(0, .int a0)] [] u (fx_X12_one u a0) := by
  unfold fx_X12_one
  refine J_iload_n (j := 0) dX12_one_0 rfl rfl ?_
  refine J_if_eq (tgt := 8) dX12_one_1 (by decide) ?_ ?_
  · refine J_iconst (v := 0) dX12_one_8 (by decide) ?_
    exact J_iret dX12_one_9 (fun h => h)
  · refine J_iconst (v := 1) dX12_one_4 (by decide) ?_
    refine J_goto (tgt := 9) dX12_one_5 (by decide) ?_
    exact J_iret dX12_one_9 (fun h => h)
theorem t_X12_one (l : Launch) (F : llFix) (d : Nat) (u : llMem) (a0 : Int32) : llCp l F yX12_one cX12_one 1 (some .int) d [.int a0] u llI (fx_X12_one u a0) := llCp.of (by decide +kernel) (by exact Nat.le_of_ble_eq_true rfl) (fun G h1 h2 => by subst h1; subst h2; exact tj_X12_one u a0)
def fx_X12_manyIn_69_j46_b6 (u : llMem) (v1 : Int32) (v2 : Int32) (v4 : Int32) (t0 : Int32) (t1 : Int32) : Option ((Int32 × Int32) ⊕ (Int32)) := (fx_X12_one u t1).bind (fun r1 => lt (t0 + r1) (fun v3_2 => lt (v4 + 1) (fun v4_3 => some (.inl (v3_2, v4_3)))))
set_option maxRecDepth 20000 in
theorem t_X12_manyIn_69_j46_b6 {G : llG} {d : Nat} (u : llMem) (v1 : Int32) (v2 : Int32) (v4 : Int32) (t0 : Int32) (t1 : Int32) : llJ G RX12 cX12_manyIn 5 (some .int) (d + 1) (Sum.elim (fun s' => llJq G 5 6 [(0, .ref (llAd G 69)), (1, .int v1), (2, .int v2), (3, .int s'.1), (4, .int s'.2)] [] u) (fun e => llJq G 5 57 [(3, .int e)] [] u)) 46 [(0, .ref (llAd G 69)), (1, .int v1), (2, .int v2), (4, .int v4)] [.int t1, .int t0] u (fx_X12_manyIn_69_j46_b6 u v1 v2 v4 t0 t1) := by
  unfold fx_X12_manyIn_69_j46_b6
  refine J_callSip1 dX12_manyIn_46 (t_X12_one (llL G) (llFx G) d u t1) ym_X12_one wd_1439 (Nat.le_of_ble_eq_true rfl) (fun r1 => ?_)
  refine J_iadd dX12_manyIn_49 ?_
  refine J_istore_nL (fun v3_2 => [(3, .int v3_2), (0, .ref (llAd G 69)), (1, .int v1), (2, .int v2), (4, .int v4)]) dX12_manyIn_50 rfl (by decide) (fun _ => rfl) (fun v3_2 => ?_)
  refine J_iinc (j := 4) (b := 1) (fun v4_3 => [(4, .int v4_3), (3, .int v3_2), (0, .ref (llAd G 69)), (1, .int v1), (2, .int v2)]) dX12_manyIn_51 rfl (by decide) (by decide) (fun _ => rfl) (fun v4_3 => ?_)
  refine J_goto (tgt := 6) dX12_manyIn_54 (by decide) ?_
  exact J_cut [2, 3, 4, 1, 0] (lv' := [(0, .ref (llAd G 69)), (1, .int v1), (2, .int v2), (3, .int v3_2), (4, .int v4_3)]) rfl (fun h => h)
def fx_X12_manyIn_69_j45_b6 (u : llMem) (v1 : Int32) (v2 : Int32) (v4 : Int32) (t0 : Int32) : Option ((Int32 × Int32) ⊕ (Int32)) := fx_X12_manyIn_69_j46_b6 u v1 v2 v4 t0 0
set_option maxRecDepth 20000 in
theorem t_X12_manyIn_69_j45_b6 {G : llG} {d : Nat} (u : llMem) (v1 : Int32) (v2 : Int32) (v4 : Int32) (t0 : Int32) : llJ G RX12 cX12_manyIn 5 (some .int) (d + 1) (Sum.elim (fun s' => llJq G 5 6 [(0, .ref (llAd G 69)), (1, .int v1), (2, .int v2), (3, .int s'.1), (4, .int s'.2)] [] u) (fun e => llJq G 5 57 [(3, .int e)] [] u)) 45 [(0, .ref (llAd G 69)), (1, .int v1), (2, .int v2), (4, .int v4)] [.int t0] u (fx_X12_manyIn_69_j45_b6 u v1 v2 v4 t0) := by
  unfold fx_X12_manyIn_69_j45_b6
  refine J_iconst (v := 0) dX12_manyIn_45 (by decide) ?_
  refine J_sub [0, 1, 2, 3] (lv' := [(0, .ref (llAd G 69)), (1, .int v1), (2, .int v2), (4, .int v4)]) rfl ?_
  exact t_X12_manyIn_69_j46_b6 u v1 v2 v4 t0 0
def fx_X12_manyIn_69_l6 (u : llMem) (v1 : Int32) (v2 : Int32) (s : Int32 × Int32) : Option ((Int32 × Int32) ⊕ (Int32)) := (if (30 + (u.1 69 10)) ≤ s.2 then some (.inr s.1) else gI s.2 60 ((if ¬ (rI u 74 s.2) = v1 then fx_X12_manyIn_69_j45_b6 u v1 v2 s.2 s.1 else gI s.2 60 ((if ¬ (rI u 75 s.2) = v2 then fx_X12_manyIn_69_j45_b6 u v1 v2 s.2 s.1 else fx_X12_manyIn_69_j46_b6 u v1 v2 s.2 s.1 1)))))
set_option maxRecDepth 20000 in
theorem t_X12_manyIn_69_l6 {G : llG} {d : Nat} (u : llMem) (v1 : Int32) (v2 : Int32) (s : Int32 × Int32) : llJ G RX12 cX12_manyIn 5 (some .int) (d + 1) (Sum.elim (fun s' => llJq G 5 6 [(0, .ref (llAd G 69)), (1, .int v1), (2, .int v2), (3, .int s'.1), (4, .int s'.2)] [] u) (fun e => llJq G 5 57 [(3, .int e)] [] u)) 6 [(0, .ref (llAd G 69)), (1, .int v1), (2, .int v2), (3, .int s.1), (4, .int s.2)] [] u (fx_X12_manyIn_69_l6 u v1 v2 s) := by
  unfold fx_X12_manyIn_69_l6
  refine J_iload (j := 4) dX12_manyIn_6 rfl ?_
  refine J_bipush (v := 30) dX12_manyIn_8 (by decide) ?_
  refine J_aload_n (j := 0) dX12_manyIn_10 rfl rfl ?_
  refine J_getI dX12_manyIn_11 fl_X12_221 sh_69 rfl ?_
  refine J_iadd dX12_manyIn_14 ?_
  refine J_icmp_ge (tgt := 57) dX12_manyIn_15 (by decide) ?_ ?_
  · exact J_cut [3] (lv' := [(3, .int s.1)]) rfl (fun h => h)
  · refine J_iload_n (j := 3) dX12_manyIn_18 rfl rfl ?_
    refine J_aload_n (j := 0) dX12_manyIn_19 rfl rfl ?_
    refine J_getR (b := 74) dX12_manyIn_20 fl_X12_23 sh_69 rfl ?_
    refine J_iload (j := 4) dX12_manyIn_23 rfl ?_
    refine J_iald dX12_manyIn_25 sh_74 ?_
    refine J_iload_n (j := 1) dX12_manyIn_26 rfl rfl ?_
    refine J_icmp_ne (tgt := 45) dX12_manyIn_27 (by decide) ?_ ?_
    · refine J_sub [0, 1, 2, 4] (lv' := [(0, .ref (llAd G 69)), (1, .int v1), (2, .int v2), (4, .int s.2)]) rfl ?_
      exact t_X12_manyIn_69_j45_b6 u v1 v2 s.2 s.1
    · refine J_aload_n (j := 0) dX12_manyIn_30 rfl rfl ?_
      refine J_getR (b := 75) dX12_manyIn_31 fl_X12_26 sh_69 rfl ?_
      refine J_iload (j := 4) dX12_manyIn_34 rfl ?_
      refine J_iald dX12_manyIn_36 sh_75 ?_
      refine J_iload_n (j := 2) dX12_manyIn_37 rfl rfl ?_
      refine J_icmp_ne (tgt := 45) dX12_manyIn_38 (by decide) ?_ ?_
      · refine J_sub [0, 1, 2, 4] (lv' := [(0, .ref (llAd G 69)), (1, .int v1), (2, .int v2), (4, .int s.2)]) rfl ?_
        exact t_X12_manyIn_69_j45_b6 u v1 v2 s.2 s.1
      · refine J_iconst (v := 1) dX12_manyIn_41 (by decide) ?_
        refine J_goto (tgt := 46) dX12_manyIn_42 (by decide) ?_
        refine J_sub [0, 1, 2, 4] (lv' := [(0, .ref (llAd G 69)), (1, .int v1), (2, .int v2), (4, .int s.2)]) rfl ?_
        exact t_X12_manyIn_69_j46_b6 u v1 v2 s.2 s.1 1
def fx_X12_manyIn_69 (u : llMem) (a0 : Int32) (a1 : Int32) : Option Int32 := (loop (fx_X12_manyIn_69_l6 u a0 a1) llFuel (0, 30)).bind (fun e4 => some e4)
set_option maxRecDepth 20000 in
theorem tj_X12_manyIn_69 {G : llG} {d : Nat} (u : llMem) (a0 : Int32) (a1 : Int32) : llJ G RX12 cX12_manyIn 5 (some .int) (d + 1) (fun r => llRet G (llI r) u) 0 [(0, .ref (llAd G 69)), (1, .int a0), (2, .int a1)] [] u (fx_X12_manyIn_69 u a0 a1) := by
  unfold fx_X12_manyIn_69
  refine J_iconst (v := 0) dX12_manyIn_0 (by decide) ?_
  refine J_istore_n [(3, .int 0), (0, .ref (llAd G 69)), (1, .int a0), (2, .int a1)] dX12_manyIn_1 rfl (by decide) rfl ?_
  refine J_bipush (v := 30) dX12_manyIn_2 (by decide) ?_
  refine J_istore [(4, .int 30), (3, .int 0), (0, .ref (llAd G 69)), (1, .int a0), (2, .int a1)] dX12_manyIn_4 (by decide) rfl ?_
  refine J_loopE (fun s' => [(0, .ref (llAd G 69)), (1, .int a0), (2, .int a1), (3, .int s'.1), (4, .int s'.2)]) (fun s' => u) 57 (fun e => [(3, .int e)]) (fun e => u) (fun z => t_X12_manyIn_69_l6 u a0 a1 z) [2, 3, 4, 1, 0] rfl rfl (fun e4 => ?_)
  refine J_iload_n (j := 0) dX12_manyIn_57 rfl rfl ?_
  exact J_iret dX12_manyIn_58 (fun h => h)
theorem t_X12_manyIn_69 (l : Launch) (F : llFix) (d : Nat) (u : llMem) (a0 : Int32) (a1 : Int32) : llCp l F yX12_manyIn cX12_manyIn 5 (some .int) (d + 1) [.ref (F.2.2.1 69), .int a0, .int a1] u llI (fx_X12_manyIn_69 u a0 a1) := llCp.of (by decide +kernel) (by exact Nat.le_of_ble_eq_true rfl) (fun G h1 h2 => by subst h1; subst h2; exact tj_X12_manyIn_69 u a0 a1)
def fx_X12_readClub_69 (u : llMem)  : Option (llMem × Int32) := (if ¬ (u.1 69 10) = 30 then bd (fx_X12_next_69 u ) (fun u1 _ => lt (30 + (u1.1 69 10)) (fun v1_2 => (fx_X12_isName_69 u1 ).bind (fun r3 => (if ¬ r3 = 0 then (fx_X12_placeOf_69 u1 (u1.2.1 69 24) 30 (u1.1 69 10)).bind (fun r4 => (if r4 = ((-1)) then gI v1_2 60 (lt (llSL u1 71 (Int32.toNatClampNeg v1_2) (u1.2.1 69 24)) (fun u5 => bd (fx_X12_next_69 u5 ) (fun u6 _ => bd (fx_X12_readNumber_69 u6 0 99) (fun u7 r8 => (if ¬ r8 = 0 then gI v1_2 60 (lt (llSI u7 72 (Int32.toNatClampNeg v1_2) (u7.1 69 27)) (fun u9 => bd (fx_X12_readNumber_69 u9 0 99) (fun u10 r11 => (if ¬ r11 = 0 then gI v1_2 60 (lt (llSI u10 73 (Int32.toNatClampNeg v1_2) (u10.1 69 27)) (fun u12 => bd (fx_X12_takes_69_s5 u12 ) (fun u13 r14 => (if r14 = 0 then gB 0 (some (u13, 0)) else bd (fx_X12_readNumber_69 u13 0 9) (fun u15 r16 => (if ¬ r16 = 0 then gI v1_2 60 (lt (llSI u15 76 (Int32.toNatClampNeg v1_2) (u15.1 69 27)) (fun u17 => gI v1_2 60 (lt (llSI u17 74 (Int32.toNatClampNeg v1_2) ((-1))) (fun u18 => gI v1_2 60 (lt (llSI u18 75 (Int32.toNatClampNeg v1_2) ((-1))) (fun u19 => (fx_X12_isWord_69_s6 u19 ).bind (fun r20 => (if r20 = 0 then fx_X12_readClub_69_j306 u19  else bd (fx_X12_next_69 u19 ) (fun u22 _ => bd (fx_X12_readNumber_69 u22 0 ((u22.1 69 2) - 1)) (fun u23 r24 => (if ¬ r24 = 0 then lt (u23.1 69 27) (fun v2_25 => lt (4 * (4 + v2_25)) (fun v3_26 => (if ¬ (u23.1 69 21) = 2 then fx_X12_readClub_69_j269 u23 v1_2 v2_25 v3_26 else (if 3 < ((u23.1 69 23) - (u23.1 69 22)) then fx_X12_readClub_69_j269 u23 v1_2 v2_25 v3_26 else gI (v3_26 + 0) 32 ((if (rI u23 70 (v3_26 + 0)) ≤ (u23.1 69 25) then fx_X12_readClub_69_j269 u23 v1_2 v2_25 v3_26 else (fx_X12_manyIn_69 u23 v2_25 (u23.1 69 25)).bind (fun r31 => gI (v3_26 + 1) 32 ((if ¬ r31 = (rI u23 70 (v3_26 + 1)) then fx_X12_readClub_69_j269 u23 v1_2 v2_25 v3_26 else bd (fx_X12_fails_69 u23 3) (fun u32 r33 => gB r33 (some (u32, r33)))))))))))) else gB 0 (some (u23, 0))))))))))))) else gB 0 (some (u15, 0)))))))) else gB 0 (some (u10, 0)))))) else gB 0 (some (u7, 0))))))) else bd (fx_X12_fails_69 u1 2) (fun u34 r35 => gB r35 (some (u34, r35))))) else bd (fx_X12_fails_69 u1 1) (fun u36 r37 => gB r37 (some (u36, r37))))))) else bd (fx_X12_fails_69 u 4) (fun u38 r39 => gB r39 (some (u38, r39))))
set_option maxRecDepth 20000 in
theorem tj_X12_readClub_69 {G : llG} {d : Nat} (u : llMem)  : llJ G RX12 cX12_readClub 4 (some .boolean) (d + 9) (fun r => llRet G (llI r.2) r.1) 0 [(0, .ref (llAd G 69))] [] u (fx_X12_readClub_69 u ) := by
  unfold fx_X12_readClub_69
  refine J_aload_n (j := 0) dX12_readClub_0 rfl rfl ?_
  refine J_getI dX12_readClub_1 fl_X12_221 sh_69 rfl ?_
  refine J_bipush (v := 30) dX12_readClub_4 (by decide) ?_
  refine J_icmp_ne (tgt := 15) dX12_readClub_6 (by decide) ?_ ?_
  · refine J_aload_n (j := 0) dX12_readClub_15 rfl rfl ?_
    refine J_callVv0 dX12_readClub_16 (t_X12_next_69 (llL G) (llFx G) (d + 7) u ) ym_X12_next wd_1324 sh_69 rfl (Nat.le_of_ble_eq_true rfl) (fun u1 => ?_)
    refine J_bipush (v := 30) dX12_readClub_19 (by decide) ?_
    refine J_aload_n (j := 0) dX12_readClub_21 rfl rfl ?_
    refine J_getI dX12_readClub_22 fl_X12_221 sh_69 rfl ?_
    refine J_iadd dX12_readClub_25 ?_
    refine J_istore_nL (fun v1_2 => [(1, .int v1_2), (0, .ref (llAd G 69))]) dX12_readClub_26 rfl (by decide) (fun _ => rfl) (fun v1_2 => ?_)
    refine J_aload_n (j := 1) dX12_readClub_27 rfl rfl ?_
    refine J_callVip0 dX12_readClub_28 (t_X12_isName_69 (llL G) (llFx G) d u1 ) ym_X12_isName wd_1425 sh_69 rfl (Nat.le_of_ble_eq_true rfl) (fun r3 => ?_)
    refine J_if_ne (tgt := 40) dX12_readClub_31 (by decide) ?_ ?_
    · refine J_aload_n (j := 1) dX12_readClub_40 rfl rfl ?_
      refine J_aload_n (j := 1) dX12_readClub_41 rfl rfl ?_
      refine J_getL dX12_readClub_42 fl_X12_134 sh_69 rfl ?_
      refine J_bipush (v := 30) dX12_readClub_45 (by decide) ?_
      refine J_aload_n (j := 1) dX12_readClub_47 rfl rfl ?_
      refine J_getI dX12_readClub_48 fl_X12_221 sh_69 rfl ?_
      refine J_callVip3 dX12_readClub_51 (t_X12_placeOf_69 (llL G) (llFx G) (d + 8) u1 (u1.2.1 69 24) 30 (u1.1 69 10)) ym_X12_placeOf wd_1431 sh_69 rfl (Nat.le_of_ble_eq_true rfl) (fun r4 => ?_)
      refine J_iconst (v := (-1)) dX12_readClub_54 (by decide) ?_
      refine J_icmp_eq (tgt := 64) dX12_readClub_55 (by decide) ?_ ?_
      · refine J_aload_n (j := 1) dX12_readClub_64 rfl rfl ?_
        refine J_getR (b := 71) dX12_readClub_65 fl_X12_13 sh_69 rfl ?_
        refine J_iload_n (j := 0) dX12_readClub_68 rfl rfl ?_
        refine J_aload_n (j := 1) dX12_readClub_69 rfl rfl ?_
        refine J_getL dX12_readClub_70 fl_X12_134 sh_69 rfl ?_
        refine J_last dX12_readClub_73 sh_71 (fun u5 => ?_)
        refine J_aload_n (j := 1) dX12_readClub_74 rfl rfl ?_
        refine J_callVv0 dX12_readClub_75 (t_X12_next_69 (llL G) (llFx G) (d + 7) u5 ) ym_X12_next wd_1324 sh_69 rfl (Nat.le_of_ble_eq_true rfl) (fun u6 => ?_)
        refine J_aload_n (j := 1) dX12_readClub_78 rfl rfl ?_
        refine J_iconst (v := 0) dX12_readClub_79 (by decide) ?_
        refine J_bipush (v := 99) dX12_readClub_80 (by decide) ?_
        refine J_callVi2 dX12_readClub_82 (t_X12_readNumber_69 (llL G) (llFx G) (d + 6) u6 0 99) ym_X12_readNumber wd_1408 sh_69 rfl (Nat.le_of_ble_eq_true rfl) (fun u7 r8 => ?_)
        refine J_if_ne (tgt := 90) dX12_readClub_85 (by decide) ?_ ?_
        · refine J_aload_n (j := 1) dX12_readClub_90 rfl rfl ?_
          refine J_getR (b := 72) dX12_readClub_91 fl_X12_17 sh_69 rfl ?_
          refine J_iload_n (j := 0) dX12_readClub_94 rfl rfl ?_
          refine J_aload_n (j := 1) dX12_readClub_95 rfl rfl ?_
          refine J_getI dX12_readClub_96 fl_X12_198 sh_69 rfl ?_
          refine J_iast dX12_readClub_99 sh_72 (fun u9 => ?_)
          refine J_aload_n (j := 1) dX12_readClub_100 rfl rfl ?_
          refine J_iconst (v := 0) dX12_readClub_101 (by decide) ?_
          refine J_bipush (v := 99) dX12_readClub_102 (by decide) ?_
          refine J_callVi2 dX12_readClub_104 (t_X12_readNumber_69 (llL G) (llFx G) (d + 6) u9 0 99) ym_X12_readNumber wd_1408 sh_69 rfl (Nat.le_of_ble_eq_true rfl) (fun u10 r11 => ?_)
          refine J_if_ne (tgt := 112) dX12_readClub_107 (by decide) ?_ ?_
          · refine J_aload_n (j := 1) dX12_readClub_112 rfl rfl ?_
            refine J_getR (b := 73) dX12_readClub_113 fl_X12_20 sh_69 rfl ?_
            refine J_iload_n (j := 0) dX12_readClub_116 rfl rfl ?_
            refine J_aload_n (j := 1) dX12_readClub_117 rfl rfl ?_
            refine J_getI dX12_readClub_118 fl_X12_198 sh_69 rfl ?_
            refine J_iast dX12_readClub_121 sh_73 (fun u12 => ?_)
            refine J_aload_n (j := 1) dX12_readClub_122 rfl rfl ?_
            refine J_ldcS 5 (by decide) rfl rfl dX12_readClub_123 ?_
            refine J_callVi1 dX12_readClub_125 (t_X12_takes_69_s5 (llL G) (llFx G) d u12 ) ym_X12_takes wd_1413 sh_69 rfl (Nat.le_of_ble_eq_true rfl) (fun u13 r14 => ?_)
            refine J_if_eq (tgt := 141) dX12_readClub_128 (by decide) ?_ ?_
            · refine J_iconst (v := 0) dX12_readClub_141 (by decide) ?_
              exact J_zret dX12_readClub_142 (fun h => h)
            · refine J_aload_n (j := 1) dX12_readClub_131 rfl rfl ?_
              refine J_iconst (v := 0) dX12_readClub_132 (by decide) ?_
              refine J_bipush (v := 9) dX12_readClub_133 (by decide) ?_
              refine J_callVi2 dX12_readClub_135 (t_X12_readNumber_69 (llL G) (llFx G) (d + 6) u13 0 9) ym_X12_readNumber wd_1408 sh_69 rfl (Nat.le_of_ble_eq_true rfl) (fun u15 r16 => ?_)
              refine J_if_ne (tgt := 143) dX12_readClub_138 (by decide) ?_ ?_
              · refine J_aload_n (j := 1) dX12_readClub_143 rfl rfl ?_
                refine J_getR (b := 76) dX12_readClub_144 fl_X12_29 sh_69 rfl ?_
                refine J_iload_n (j := 0) dX12_readClub_147 rfl rfl ?_
                refine J_aload_n (j := 1) dX12_readClub_148 rfl rfl ?_
                refine J_getI dX12_readClub_149 fl_X12_198 sh_69 rfl ?_
                refine J_iast dX12_readClub_152 sh_76 (fun u17 => ?_)
                refine J_aload_n (j := 1) dX12_readClub_153 rfl rfl ?_
                refine J_getR (b := 74) dX12_readClub_154 fl_X12_23 sh_69 rfl ?_
                refine J_iload_n (j := 0) dX12_readClub_157 rfl rfl ?_
                refine J_iconst (v := (-1)) dX12_readClub_158 (by decide) ?_
                refine J_iast dX12_readClub_159 sh_74 (fun u18 => ?_)
                refine J_aload_n (j := 1) dX12_readClub_160 rfl rfl ?_
                refine J_getR (b := 75) dX12_readClub_161 fl_X12_26 sh_69 rfl ?_
                refine J_iload_n (j := 0) dX12_readClub_164 rfl rfl ?_
                refine J_iconst (v := (-1)) dX12_readClub_165 (by decide) ?_
                refine J_iast dX12_readClub_166 sh_75 (fun u19 => ?_)
                refine J_aload_n (j := 1) dX12_readClub_167 rfl rfl ?_
                refine J_ldcS 6 (by decide) rfl rfl dX12_readClub_168 ?_
                refine J_callVip1 dX12_readClub_170 (t_X12_isWord_69_s6 (llL G) (llFx G) (d + 1) u19 ) ym_X12_isWord wd_1341 sh_69 rfl (Nat.le_of_ble_eq_true rfl) (fun r20 => ?_)
                refine J_if_eq (tgt := 306) dX12_readClub_173 (by decide) ?_ ?_
                · refine J_sub [1] (lv' := [(0, .ref (llAd G 69))]) rfl ?_
                  exact t_X12_readClub_69_j306 u19 
                · refine J_aload_n (j := 1) dX12_readClub_176 rfl rfl ?_
                  refine J_callVv0 dX12_readClub_177 (t_X12_next_69 (llL G) (llFx G) (d + 7) u19 ) ym_X12_next wd_1324 sh_69 rfl (Nat.le_of_ble_eq_true rfl) (fun u22 => ?_)
                  refine J_aload_n (j := 1) dX12_readClub_180 rfl rfl ?_
                  refine J_iconst (v := 0) dX12_readClub_181 (by decide) ?_
                  refine J_aload_n (j := 1) dX12_readClub_182 rfl rfl ?_
                  refine J_getI dX12_readClub_183 fl_X12_205 sh_69 rfl ?_
                  refine J_iconst (v := 1) dX12_readClub_186 (by decide) ?_
                  refine J_isub dX12_readClub_187 ?_
                  refine J_callVi2 dX12_readClub_188 (t_X12_readNumber_69 (llL G) (llFx G) (d + 6) u22 0 ((u22.1 69 2) - 1)) ym_X12_readNumber wd_1408 sh_69 rfl (Nat.le_of_ble_eq_true rfl) (fun u23 r24 => ?_)
                  refine J_if_ne (tgt := 196) dX12_readClub_191 (by decide) ?_ ?_
                  · refine J_aload_n (j := 1) dX12_readClub_196 rfl rfl ?_
                    refine J_getI dX12_readClub_197 fl_X12_198 sh_69 rfl ?_
                    refine J_istore_nL (fun v2_25 => [(2, .int v2_25), (1, .int v1_2), (0, .ref (llAd G 69))]) dX12_readClub_200 rfl (by decide) (fun _ => rfl) (fun v2_25 => ?_)
                    refine J_iconst (v := 4) dX12_readClub_201 (by decide) ?_
                    refine J_iconst (v := 4) dX12_readClub_202 (by decide) ?_
                    refine J_iload_n (j := 0) dX12_readClub_203 rfl rfl ?_
                    refine J_iadd dX12_readClub_204 ?_
                    refine J_imul dX12_readClub_205 ?_
                    refine J_istore_nL (fun v3_26 => [(3, .int v3_26), (2, .int v2_25), (1, .int v1_2), (0, .ref (llAd G 69))]) dX12_readClub_206 rfl (by decide) (fun _ => rfl) (fun v3_26 => ?_)
                    refine J_aload_n (j := 3) dX12_readClub_207 rfl rfl ?_
                    refine J_getI dX12_readClub_208 fl_X12_144 sh_69 rfl ?_
                    refine J_iconst (v := 2) dX12_readClub_211 (by decide) ?_
                    refine J_icmp_ne (tgt := 269) dX12_readClub_212 (by decide) ?_ ?_
                    · refine J_sub [3, 2, 1, 0] (lv' := [(0, .ref (llAd G 69)), (1, .int v1_2), (2, .int v2_25), (3, .int v3_26)]) rfl ?_
                      exact t_X12_readClub_69_j269 u23 v1_2 v2_25 v3_26
                    · refine J_aload_n (j := 3) dX12_readClub_215 rfl rfl ?_
                      refine J_getI dX12_readClub_216 fl_X12_124 sh_69 rfl ?_
                      refine J_aload_n (j := 3) dX12_readClub_219 rfl rfl ?_
                      refine J_getI dX12_readClub_220 fl_X12_131 sh_69 rfl ?_
                      refine J_isub dX12_readClub_223 ?_
                      refine J_iconst (v := 3) dX12_readClub_224 (by decide) ?_
                      refine J_icmp_gt (tgt := 269) dX12_readClub_225 (by decide) ?_ ?_
                      · refine J_sub [3, 2, 1, 0] (lv' := [(0, .ref (llAd G 69)), (1, .int v1_2), (2, .int v2_25), (3, .int v3_26)]) rfl ?_
                        exact t_X12_readClub_69_j269 u23 v1_2 v2_25 v3_26
                      · refine J_aload_n (j := 3) dX12_readClub_228 rfl rfl ?_
                        refine J_getI dX12_readClub_229 fl_X12_138 sh_69 rfl ?_
                        refine J_aload_n (j := 3) dX12_readClub_232 rfl rfl ?_
                        refine J_getR (b := 70) dX12_readClub_233 fl_X12_7 sh_69 rfl ?_
                        refine J_iload_n (j := 0) dX12_readClub_236 rfl rfl ?_
                        refine J_iconst (v := 0) dX12_readClub_237 (by decide) ?_
                        refine J_iadd dX12_readClub_238 ?_
                        refine J_iald dX12_readClub_239 sh_70 ?_
                        refine J_icmp_ge (tgt := 269) dX12_readClub_240 (by decide) ?_ ?_
                        · refine J_sub [3, 2, 1, 0] (lv' := [(0, .ref (llAd G 69)), (1, .int v1_2), (2, .int v2_25), (3, .int v3_26)]) rfl ?_
                          exact t_X12_readClub_69_j269 u23 v1_2 v2_25 v3_26
                        · refine J_aload_n (j := 3) dX12_readClub_243 rfl rfl ?_
                          refine J_iload_n (j := 1) dX12_readClub_244 rfl rfl ?_
                          refine J_aload_n (j := 3) dX12_readClub_245 rfl rfl ?_
                          refine J_getI dX12_readClub_246 fl_X12_138 sh_69 rfl ?_
                          refine J_callVip2 dX12_readClub_249 (t_X12_manyIn_69 (llL G) (llFx G) (d + 7) u23 v2_25 (u23.1 69 25)) ym_X12_manyIn wd_1435 sh_69 rfl (Nat.le_of_ble_eq_true rfl) (fun r31 => ?_)
                          refine J_aload_n (j := 3) dX12_readClub_252 rfl rfl ?_
                          refine J_getR (b := 70) dX12_readClub_253 fl_X12_7 sh_69 rfl ?_
                          refine J_iload_n (j := 0) dX12_readClub_256 rfl rfl ?_
                          refine J_iconst (v := 1) dX12_readClub_257 (by decide) ?_
                          refine J_iadd dX12_readClub_258 ?_
                          refine J_iald dX12_readClub_259 sh_70 ?_
                          refine J_icmp_ne (tgt := 269) dX12_readClub_260 (by decide) ?_ ?_
                          · refine J_sub [3, 2, 1, 0] (lv' := [(0, .ref (llAd G 69)), (1, .int v1_2), (2, .int v2_25), (3, .int v3_26)]) rfl ?_
                            exact t_X12_readClub_69_j269 u23 v1_2 v2_25 v3_26
                          · refine J_aload_n (j := 3) dX12_readClub_263 rfl rfl ?_
                            refine J_iconst (v := 3) dX12_readClub_264 (by decide) ?_
                            refine J_callVi1 dX12_readClub_265 (t_X12_fails_69 (llL G) (llFx G) (d + 8) u23 3) ym_X12_fails wd_1400 sh_69 rfl (Nat.le_of_ble_eq_true rfl) (fun u32 r33 => ?_)
                            exact J_zret dX12_readClub_268 (fun h => h)
                  · refine J_iconst (v := 0) dX12_readClub_194 (by decide) ?_
                    exact J_zret dX12_readClub_195 (fun h => h)
              · refine J_iconst (v := 0) dX12_readClub_141 (by decide) ?_
                exact J_zret dX12_readClub_142 (fun h => h)
          · refine J_iconst (v := 0) dX12_readClub_110 (by decide) ?_
            exact J_zret dX12_readClub_111 (fun h => h)
        · refine J_iconst (v := 0) dX12_readClub_88 (by decide) ?_
          exact J_zret dX12_readClub_89 (fun h => h)
      · refine J_aload_n (j := 1) dX12_readClub_58 rfl rfl ?_
        refine J_iconst (v := 2) dX12_readClub_59 (by decide) ?_
        refine J_callVi1 dX12_readClub_60 (t_X12_fails_69 (llL G) (llFx G) (d + 8) u1 2) ym_X12_fails wd_1400 sh_69 rfl (Nat.le_of_ble_eq_true rfl) (fun u34 r35 => ?_)
        exact J_zret dX12_readClub_63 (fun h => h)
    · refine J_aload_n (j := 1) dX12_readClub_34 rfl rfl ?_
      refine J_iconst (v := 1) dX12_readClub_35 (by decide) ?_
      refine J_callVi1 dX12_readClub_36 (t_X12_fails_69 (llL G) (llFx G) (d + 8) u1 1) ym_X12_fails wd_1400 sh_69 rfl (Nat.le_of_ble_eq_true rfl) (fun u36 r37 => ?_)
      exact J_zret dX12_readClub_39 (fun h => h)
  · refine J_aload_n (j := 0) dX12_readClub_9 rfl rfl ?_
    refine J_iconst (v := 4) dX12_readClub_10 (by decide) ?_
    refine J_callVi1 dX12_readClub_11 (t_X12_fails_69 (llL G) (llFx G) (d + 8) u 4) ym_X12_fails wd_1400 sh_69 rfl (Nat.le_of_ble_eq_true rfl) (fun u38 r39 => ?_)
    exact J_zret dX12_readClub_14 (fun h => h)
theorem t_X12_readClub_69 (l : Launch) (F : llFix) (d : Nat) (u : llMem)  : llCt l F yX12_readClub cX12_readClub 4 (some .boolean) (d + 9) [.ref (F.2.2.1 69)] u llI (fx_X12_readClub_69 u ) := llCt.of (by decide +kernel) (by exact Nat.le_of_ble_eq_true rfl) (fun G h1 h2 => by subst h1; subst h2; exact tj_X12_readClub_69 u )
def fx_X12_lays_69 (u : llMem) (a0 : Int32) (a1 : Int32) (a2 : Int32) : Option (llMem × Int32) := bd (fx_X12_readNumber_69 u a1 a2) (fun u1 r2 => (if ¬ r2 = 0 then gI a0 32 (lt (llSI u1 70 (Int32.toNatClampNeg a0) (u1.1 69 27)) (fun u3 => gB 1 (some (u3, 1)))) else gB 0 (some (u1, 0))))
set_option maxRecDepth 20000 in
theorem tj_X12_lays_69 {G : llG} {d : Nat} (u : llMem) (a0 : Int32) (a1 : Int32) (a2 : Int32) : llJ G RX12 cX12_lays 4 (some .boolean) (d + 3) (fun r => llRet G (llI r.2) r.1) 0 [(0, .ref (llAd G 69)), (1, .int a0), (2, .int a1), (3, .int a2)] [] u (fx_X12_lays_69 u a0 a1 a2) := by
  unfold fx_X12_lays_69
  refine J_aload_n (j := 0) dX12_lays_0 rfl rfl ?_
  refine J_iload_n (j := 2) dX12_lays_1 rfl rfl ?_
  refine J_iload_n (j := 3) dX12_lays_2 rfl rfl ?_
  refine J_callVi2 dX12_lays_3 (t_X12_readNumber_69 (llL G) (llFx G) d u a1 a2) ym_X12_readNumber wd_1408 sh_69 rfl (Nat.le_of_ble_eq_true rfl) (fun u1 r2 => ?_)
  refine J_if_ne (tgt := 11) dX12_lays_6 (by decide) ?_ ?_
  · refine J_aload_n (j := 0) dX12_lays_11 rfl rfl ?_
    refine J_getR (b := 70) dX12_lays_12 fl_X12_7 sh_69 rfl ?_
    refine J_iload_n (j := 1) dX12_lays_15 rfl rfl ?_
    refine J_aload_n (j := 0) dX12_lays_16 rfl rfl ?_
    refine J_getI dX12_lays_17 fl_X12_198 sh_69 rfl ?_
    refine J_iast dX12_lays_20 sh_70 (fun u3 => ?_)
    refine J_iconst (v := 1) dX12_lays_21 (by decide) ?_
    exact J_zret dX12_lays_22 (fun h => h)
  · refine J_iconst (v := 0) dX12_lays_9 (by decide) ?_
    exact J_zret dX12_lays_10 (fun h => h)
theorem t_X12_lays_69 (l : Launch) (F : llFix) (d : Nat) (u : llMem) (a0 : Int32) (a1 : Int32) (a2 : Int32) : llCt l F yX12_lays cX12_lays 4 (some .boolean) (d + 3) [.ref (F.2.2.1 69), .int a0, .int a1, .int a2] u llI (fx_X12_lays_69 u a0 a1 a2) := llCt.of (by decide +kernel) (by exact Nat.le_of_ble_eq_true rfl) (fun G h1 h2 => by subst h1; subst h2; exact tj_X12_lays_69 u a0 a1 a2)
def fx_X12_takes_69_s1 (u : llMem)  : Option (llMem × Int32) := (fx_X12_isWord_69_s1 u ).bind (fun r1 => (if ¬ r1 = 0 then bd (fx_X12_next_69 u ) (fun u2 _ => gB 1 (some (u2, 1))) else bd (fx_X12_fails_69 u 1) (fun u3 r4 => gB r4 (some (u3, r4)))))
set_option maxRecDepth 20000 in
theorem tj_X12_takes_69_s1 {G : llG} {d : Nat} (u : llMem)  : llJ G RX12 cX12_takes 2 (some .boolean) (d + 8) (fun r => llRet G (llI r.2) r.1) 0 [(0, .ref (llAd G 69)), (1, .ref (llSk G 1))] [] u (fx_X12_takes_69_s1 u ) := by
  unfold fx_X12_takes_69_s1
  refine J_aload_n (j := 0) dX12_takes_0 rfl rfl ?_
  refine J_aload_n (j := 1) dX12_takes_1 rfl rfl ?_
  refine J_callVip1 dX12_takes_2 (t_X12_isWord_69_s1 (llL G) (llFx G) d u ) ym_X12_isWord wd_1341 sh_69 rfl (Nat.le_of_ble_eq_true rfl) (fun r1 => ?_)
  refine J_if_ne (tgt := 14) dX12_takes_5 (by decide) ?_ ?_
  · refine J_aload_n (j := 0) dX12_takes_14 rfl rfl ?_
    refine J_callVv0 dX12_takes_15 (t_X12_next_69 (llL G) (llFx G) (d + 6) u ) ym_X12_next wd_1324 sh_69 rfl (Nat.le_of_ble_eq_true rfl) (fun u2 => ?_)
    refine J_iconst (v := 1) dX12_takes_18 (by decide) ?_
    exact J_zret dX12_takes_19 (fun h => h)
  · refine J_aload_n (j := 0) dX12_takes_8 rfl rfl ?_
    refine J_iconst (v := 1) dX12_takes_9 (by decide) ?_
    refine J_callVi1 dX12_takes_10 (t_X12_fails_69 (llL G) (llFx G) (d + 7) u 1) ym_X12_fails wd_1400 sh_69 rfl (Nat.le_of_ble_eq_true rfl) (fun u3 r4 => ?_)
    exact J_zret dX12_takes_13 (fun h => h)
theorem t_X12_takes_69_s1 (l : Launch) (F : llFix) (d : Nat) (u : llMem)  : llCt l F yX12_takes cX12_takes 2 (some .boolean) (d + 8) [.ref (F.2.2.1 69), .ref (F.2.2.2.1 1)] u llI (fx_X12_takes_69_s1 u ) := llCt.of (by decide +kernel) (by exact Nat.le_of_ble_eq_true rfl) (fun G h1 h2 => by subst h1; subst h2; exact tj_X12_takes_69_s1 u )
def fx_X12_takes_69_s2 (u : llMem)  : Option (llMem × Int32) := (fx_X12_isWord_69_s2 u ).bind (fun r1 => (if ¬ r1 = 0 then bd (fx_X12_next_69 u ) (fun u2 _ => gB 1 (some (u2, 1))) else bd (fx_X12_fails_69 u 1) (fun u3 r4 => gB r4 (some (u3, r4)))))
set_option maxRecDepth 20000 in
theorem tj_X12_takes_69_s2 {G : llG} {d : Nat} (u : llMem)  : llJ G RX12 cX12_takes 2 (some .boolean) (d + 8) (fun r => llRet G (llI r.2) r.1) 0 [(0, .ref (llAd G 69)), (1, .ref (llSk G 2))] [] u (fx_X12_takes_69_s2 u ) := by
  unfold fx_X12_takes_69_s2
  refine J_aload_n (j := 0) dX12_takes_0 rfl rfl ?_
  refine J_aload_n (j := 1) dX12_takes_1 rfl rfl ?_
  refine J_callVip1 dX12_takes_2 (t_X12_isWord_69_s2 (llL G) (llFx G) d u ) ym_X12_isWord wd_1341 sh_69 rfl (Nat.le_of_ble_eq_true rfl) (fun r1 => ?_)
  refine J_if_ne (tgt := 14) dX12_takes_5 (by decide) ?_ ?_
  · refine J_aload_n (j := 0) dX12_takes_14 rfl rfl ?_
    refine J_callVv0 dX12_takes_15 (t_X12_next_69 (llL G) (llFx G) (d + 6) u ) ym_X12_next wd_1324 sh_69 rfl (Nat.le_of_ble_eq_true rfl) (fun u2 => ?_)
    refine J_iconst (v := 1) dX12_takes_18 (by decide) ?_
    exact J_zret dX12_takes_19 (fun h => h)
  · refine J_aload_n (j := 0) dX12_takes_8 rfl rfl ?_
    refine J_iconst (v := 1) dX12_takes_9 (by decide) ?_
    refine J_callVi1 dX12_takes_10 (t_X12_fails_69 (llL G) (llFx G) (d + 7) u 1) ym_X12_fails wd_1400 sh_69 rfl (Nat.le_of_ble_eq_true rfl) (fun u3 r4 => ?_)
    exact J_zret dX12_takes_13 (fun h => h)
theorem t_X12_takes_69_s2 (l : Launch) (F : llFix) (d : Nat) (u : llMem)  : llCt l F yX12_takes cX12_takes 2 (some .boolean) (d + 8) [.ref (F.2.2.1 69), .ref (F.2.2.2.1 2)] u llI (fx_X12_takes_69_s2 u ) := llCt.of (by decide +kernel) (by exact Nat.le_of_ble_eq_true rfl) (fun G h1 h2 => by subst h1; subst h2; exact tj_X12_takes_69_s2 u )
def fx_X12_takes_69_s3 (u : llMem)  : Option (llMem × Int32) := (fx_X12_isWord_69_s3 u ).bind (fun r1 => (if ¬ r1 = 0 then bd (fx_X12_next_69 u ) (fun u2 _ => gB 1 (some (u2, 1))) else bd (fx_X12_fails_69 u 1) (fun u3 r4 => gB r4 (some (u3, r4)))))
set_option maxRecDepth 20000 in
theorem tj_X12_takes_69_s3 {G : llG} {d : Nat} (u : llMem)  : llJ G RX12 cX12_takes 2 (some .boolean) (d + 8) (fun r => llRet G (llI r.2) r.1) 0 [(0, .ref (llAd G 69)), (1, .ref (llSk G 3))] [] u (fx_X12_takes_69_s3 u ) := by
  unfold fx_X12_takes_69_s3
  refine J_aload_n (j := 0) dX12_takes_0 rfl rfl ?_
  refine J_aload_n (j := 1) dX12_takes_1 rfl rfl ?_
  refine J_callVip1 dX12_takes_2 (t_X12_isWord_69_s3 (llL G) (llFx G) d u ) ym_X12_isWord wd_1341 sh_69 rfl (Nat.le_of_ble_eq_true rfl) (fun r1 => ?_)
  refine J_if_ne (tgt := 14) dX12_takes_5 (by decide) ?_ ?_
  · refine J_aload_n (j := 0) dX12_takes_14 rfl rfl ?_
    refine J_callVv0 dX12_takes_15 (t_X12_next_69 (llL G) (llFx G) (d + 6) u ) ym_X12_next wd_1324 sh_69 rfl (Nat.le_of_ble_eq_true rfl) (fun u2 => ?_)
    refine J_iconst (v := 1) dX12_takes_18 (by decide) ?_
    exact J_zret dX12_takes_19 (fun h => h)
  · refine J_aload_n (j := 0) dX12_takes_8 rfl rfl ?_
    refine J_iconst (v := 1) dX12_takes_9 (by decide) ?_
    refine J_callVi1 dX12_takes_10 (t_X12_fails_69 (llL G) (llFx G) (d + 7) u 1) ym_X12_fails wd_1400 sh_69 rfl (Nat.le_of_ble_eq_true rfl) (fun u3 r4 => ?_)
    exact J_zret dX12_takes_13 (fun h => h)
theorem t_X12_takes_69_s3 (l : Launch) (F : llFix) (d : Nat) (u : llMem)  : llCt l F yX12_takes cX12_takes 2 (some .boolean) (d + 8) [.ref (F.2.2.1 69), .ref (F.2.2.2.1 3)] u llI (fx_X12_takes_69_s3 u ) := llCt.of (by decide +kernel) (by exact Nat.le_of_ble_eq_true rfl) (fun G h1 h2 => by subst h1; subst h2; exact tj_X12_takes_69_s3 u )
def fx_X12_readLevel_69 (u : llMem)  : Option (llMem × Int32) := (if ¬ (u.1 69 2) = 4 then bd (fx_X12_next_69 u ) (fun u1 _ => lt (4 * (4 + (u1.1 69 2))) (fun v1_2 => bd (fx_X12_lays_69 u1 (v1_2 + 0) 1 3) (fun u3 r4 => (if r4 = 0 then gB 0 (some (u3, 0)) else bd (fx_X12_takes_69_s1 u3 ) (fun u5 r6 => (if r6 = 0 then gB 0 (some (u5, 0)) else gI (v1_2 + 0) 32 (gZ (rI u5 70 (v1_2 + 0)) (bd (fx_X12_lays_69 u5 (v1_2 + 1) 2 (if (12 / (rI u5 70 (v1_2 + 0))) < 6 then (12 / (rI u5 70 (v1_2 + 0))) else 6)) (fun u7 r8 => (if ¬ r8 = 0 then bd (fx_X12_takes_69_s2 u7 ) (fun u9 r10 => (if r10 = 0 then gB 0 (some (u9, 0)) else bd (fx_X12_lays_69 u9 (v1_2 + 2) 0 6) (fun u11 r12 => (if r12 = 0 then gB 0 (some (u11, 0)) else bd (fx_X12_takes_69_s3 u11 ) (fun u13 r14 => (if r14 = 0 then gB 0 (some (u13, 0)) else bd (fx_X12_lays_69 u13 (v1_2 + 3) 0 9) (fun u15 r16 => (if ¬ r16 = 0 then lt (llSI u15 69 2 ((u15.1 69 2) + 1)) (fun u17 => gB 1 (some (u17, 1))) else gB 0 (some (u15, 0)))))))))) else gB 0 (some (u7, 0)))))))))))) else bd (fx_X12_fails_69 u 4) (fun u18 r19 => gB r19 (some (u18, r19))))
set_option maxRecDepth 20000 in
theorem tj_X12_readLevel_69 {G : llG} {d : Nat} (u : llMem)  : llJ G RX12 cX12_readLevel 2 (some .boolean) (d + 9) (fun r => llRet G (llI r.2) r.1) 0 [(0, .ref (llAd G 69))] [] u (fx_X12_readLevel_69 u ) := by
  unfold fx_X12_readLevel_69
  refine J_aload_n (j := 0) dX12_readLevel_0 rfl rfl ?_
  refine J_getI dX12_readLevel_1 fl_X12_205 sh_69 rfl ?_
  refine J_iconst (v := 4) dX12_readLevel_4 (by decide) ?_
  refine J_icmp_ne (tgt := 14) dX12_readLevel_5 (by decide) ?_ ?_
  · refine J_aload_n (j := 0) dX12_readLevel_14 rfl rfl ?_
    refine J_callVv0 dX12_readLevel_15 (t_X12_next_69 (llL G) (llFx G) (d + 7) u ) ym_X12_next wd_1324 sh_69 rfl (Nat.le_of_ble_eq_true rfl) (fun u1 => ?_)
    refine J_iconst (v := 4) dX12_readLevel_18 (by decide) ?_
    refine J_iconst (v := 4) dX12_readLevel_19 (by decide) ?_
    refine J_aload_n (j := 0) dX12_readLevel_20 rfl rfl ?_
    refine J_getI dX12_readLevel_21 fl_X12_205 sh_69 rfl ?_
    refine J_iadd dX12_readLevel_24 ?_
    refine J_imul dX12_readLevel_25 ?_
    refine J_istore_nL (fun v1_2 => [(1, .int v1_2), (0, .ref (llAd G 69))]) dX12_readLevel_26 rfl (by decide) (fun _ => rfl) (fun v1_2 => ?_)
    refine J_aload_n (j := 1) dX12_readLevel_27 rfl rfl ?_
    refine J_iload_n (j := 0) dX12_readLevel_28 rfl rfl ?_
    refine J_iconst (v := 0) dX12_readLevel_29 (by decide) ?_
    refine J_iadd dX12_readLevel_30 ?_
    refine J_iconst (v := 1) dX12_readLevel_31 (by decide) ?_
    refine J_iconst (v := 3) dX12_readLevel_32 (by decide) ?_
    refine J_callVi3 dX12_readLevel_33 (t_X12_lays_69 (llL G) (llFx G) (d + 5) u1 (v1_2 + 0) 1 3) ym_X12_lays wd_1404 sh_69 rfl (Nat.le_of_ble_eq_true rfl) (fun u3 r4 => ?_)
    refine J_if_eq (tgt := 75) dX12_readLevel_36 (by decide) ?_ ?_
    · refine J_iconst (v := 0) dX12_readLevel_75 (by decide) ?_
      exact J_zret dX12_readLevel_76 (fun h => h)
    · refine J_aload_n (j := 1) dX12_readLevel_39 rfl rfl ?_
      refine J_ldcS 1 (by decide) rfl rfl dX12_readLevel_40 ?_
      refine J_callVi1 dX12_readLevel_42 (t_X12_takes_69_s1 (llL G) (llFx G) d u3 ) ym_X12_takes wd_1413 sh_69 rfl (Nat.le_of_ble_eq_true rfl) (fun u5 r6 => ?_)
      refine J_if_eq (tgt := 75) dX12_readLevel_45 (by decide) ?_ ?_
      · refine J_iconst (v := 0) dX12_readLevel_75 (by decide) ?_
        exact J_zret dX12_readLevel_76 (fun h => h)
      · refine J_aload_n (j := 1) dX12_readLevel_48 rfl rfl ?_
        refine J_iload_n (j := 0) dX12_readLevel_49 rfl rfl ?_
        refine J_iconst (v := 1) dX12_readLevel_50 (by decide) ?_
        refine J_iadd dX12_readLevel_51 ?_
        refine J_iconst (v := 2) dX12_readLevel_52 (by decide) ?_
        refine J_bipush (v := 6) dX12_readLevel_53 (by decide) ?_
        refine J_bipush (v := 12) dX12_readLevel_55 (by decide) ?_
        refine J_aload_n (j := 1) dX12_readLevel_57 rfl rfl ?_
        refine J_getR (b := 70) dX12_readLevel_58 fl_X12_7 sh_69 rfl ?_
        refine J_iload_n (j := 0) dX12_readLevel_61 rfl rfl ?_
        refine J_iconst (v := 0) dX12_readLevel_62 (by decide) ?_
        refine J_iadd dX12_readLevel_63 ?_
        refine J_iald dX12_readLevel_64 sh_70 ?_
        refine J_idiv dX12_readLevel_65 ?_
        refine J_mmin dX12_readLevel_66 wd_1417 wd_561 wd_14 wd_562 (Nat.le_of_ble_eq_true rfl) ?_
        refine J_callVi3 dX12_readLevel_69 (t_X12_lays_69 (llL G) (llFx G) (d + 5) u5 (v1_2 + 1) 2 (if (12 / (rI u5 70 (v1_2 + 0))) < 6 then (12 / (rI u5 70 (v1_2 + 0))) else 6)) ym_X12_lays wd_1404 sh_69 rfl (Nat.le_of_ble_eq_true rfl) (fun u7 r8 => ?_)
        refine J_if_ne (tgt := 77) dX12_readLevel_72 (by decide) ?_ ?_
        · refine J_aload_n (j := 1) dX12_readLevel_77 rfl rfl ?_
          refine J_ldcS 2 (by decide) rfl rfl dX12_readLevel_78 ?_
          refine J_callVi1 dX12_readLevel_80 (t_X12_takes_69_s2 (llL G) (llFx G) d u7 ) ym_X12_takes wd_1413 sh_69 rfl (Nat.le_of_ble_eq_true rfl) (fun u9 r10 => ?_)
          refine J_if_eq (tgt := 121) dX12_readLevel_83 (by decide) ?_ ?_
          · refine J_iconst (v := 0) dX12_readLevel_121 (by decide) ?_
            exact J_zret dX12_readLevel_122 (fun h => h)
          · refine J_aload_n (j := 1) dX12_readLevel_86 rfl rfl ?_
            refine J_iload_n (j := 0) dX12_readLevel_87 rfl rfl ?_
            refine J_iconst (v := 2) dX12_readLevel_88 (by decide) ?_
            refine J_iadd dX12_readLevel_89 ?_
            refine J_iconst (v := 0) dX12_readLevel_90 (by decide) ?_
            refine J_bipush (v := 6) dX12_readLevel_91 (by decide) ?_
            refine J_callVi3 dX12_readLevel_93 (t_X12_lays_69 (llL G) (llFx G) (d + 5) u9 (v1_2 + 2) 0 6) ym_X12_lays wd_1404 sh_69 rfl (Nat.le_of_ble_eq_true rfl) (fun u11 r12 => ?_)
            refine J_if_eq (tgt := 121) dX12_readLevel_96 (by decide) ?_ ?_
            · refine J_iconst (v := 0) dX12_readLevel_121 (by decide) ?_
              exact J_zret dX12_readLevel_122 (fun h => h)
            · refine J_aload_n (j := 1) dX12_readLevel_99 rfl rfl ?_
              refine J_ldcS 3 (by decide) rfl rfl dX12_readLevel_100 ?_
              refine J_callVi1 dX12_readLevel_102 (t_X12_takes_69_s3 (llL G) (llFx G) d u11 ) ym_X12_takes wd_1413 sh_69 rfl (Nat.le_of_ble_eq_true rfl) (fun u13 r14 => ?_)
              refine J_if_eq (tgt := 121) dX12_readLevel_105 (by decide) ?_ ?_
              · refine J_iconst (v := 0) dX12_readLevel_121 (by decide) ?_
                exact J_zret dX12_readLevel_122 (fun h => h)
              · refine J_aload_n (j := 1) dX12_readLevel_108 rfl rfl ?_
                refine J_iload_n (j := 0) dX12_readLevel_109 rfl rfl ?_
                refine J_iconst (v := 3) dX12_readLevel_110 (by decide) ?_
                refine J_iadd dX12_readLevel_111 ?_
                refine J_iconst (v := 0) dX12_readLevel_112 (by decide) ?_
                refine J_bipush (v := 9) dX12_readLevel_113 (by decide) ?_
                refine J_callVi3 dX12_readLevel_115 (t_X12_lays_69 (llL G) (llFx G) (d + 5) u13 (v1_2 + 3) 0 9) ym_X12_lays wd_1404 sh_69 rfl (Nat.le_of_ble_eq_true rfl) (fun u15 r16 => ?_)
                refine J_if_ne (tgt := 123) dX12_readLevel_118 (by decide) ?_ ?_
                · refine J_aload_n (j := 1) dX12_readLevel_123 rfl rfl ?_
                  refine J_dup dX12_readLevel_124 rfl ?_
                  refine J_getI dX12_readLevel_125 fl_X12_205 sh_69 rfl ?_
                  refine J_iconst (v := 1) dX12_readLevel_128 (by decide) ?_
                  refine J_iadd dX12_readLevel_129 ?_
                  refine J_putI dX12_readLevel_130 fl_X12_205 sh_69 rfl (fun u17 => ?_)
                  refine J_iconst (v := 1) dX12_readLevel_133 (by decide) ?_
                  exact J_zret dX12_readLevel_134 (fun h => h)
                · refine J_iconst (v := 0) dX12_readLevel_121 (by decide) ?_
                  exact J_zret dX12_readLevel_122 (fun h => h)
        · refine J_iconst (v := 0) dX12_readLevel_75 (by decide) ?_
          exact J_zret dX12_readLevel_76 (fun h => h)
  · refine J_aload_n (j := 0) dX12_readLevel_8 rfl rfl ?_
    refine J_iconst (v := 4) dX12_readLevel_9 (by decide) ?_
    refine J_callVi1 dX12_readLevel_10 (t_X12_fails_69 (llL G) (llFx G) (d + 8) u 4) ym_X12_fails wd_1400 sh_69 rfl (Nat.le_of_ble_eq_true rfl) (fun u18 r19 => ?_)
    exact J_zret dX12_readLevel_13 (fun h => h)
theorem t_X12_readLevel_69 (l : Launch) (F : llFix) (d : Nat) (u : llMem)  : llCt l F yX12_readLevel cX12_readLevel 2 (some .boolean) (d + 9) [.ref (F.2.2.1 69)] u llI (fx_X12_readLevel_69 u ) := llCt.of (by decide +kernel) (by exact Nat.le_of_ble_eq_true rfl) (fun G h1 h2 => by subst h1; subst h2; exact tj_X12_readLevel_69 u )
def fx_X12_readLine_69 (u : llMem)  : Option (llMem × Int32) := (fx_X12_isWord_69_s0 u ).bind (fun r1 => (if r1 = 0 then (fx_X12_isWord_69_s4 u ).bind (fun r2 => (if r2 = 0 then bd (fx_X12_fails_69 u 1) (fun u3 r4 => fx_X12_readLine_69_j37 u3 r4) else bd (fx_X12_readClub_69 u ) (fun u7 r8 => fx_X12_readLine_69_j37 u7 r8))) else bd (fx_X12_readLevel_69 u ) (fun u9 r10 => fx_X12_readLine_69_j37 u9 r10)))
set_option maxRecDepth 20000 in
theorem tj_X12_readLine_69 {G : llG} {d : Nat} (u : llMem)  : llJ G RX12 cX12_readLine 2 (some .boolean) (d + 10) (fun r => llRet G (llI r.2) r.1) 0 [(0, .ref (llAd G 69))] [] u (fx_X12_readLine_69 u ) := by
  unfold fx_X12_readLine_69
  refine J_aload_n (j := 0) dX12_readLine_0 rfl rfl ?_
  refine J_ldcS 0 (by decide) rfl rfl dX12_readLine_1 ?_
  refine J_callVip1 dX12_readLine_3 (t_X12_isWord_69_s0 (llL G) (llFx G) (d + 2) u ) ym_X12_isWord wd_1341 sh_69 rfl (Nat.le_of_ble_eq_true rfl) (fun r1 => ?_)
  refine J_if_eq (tgt := 16) dX12_readLine_6 (by decide) ?_ ?_
  · refine J_aload_n (j := 0) dX12_readLine_16 rfl rfl ?_
    refine J_ldcS 4 (by decide) rfl rfl dX12_readLine_17 ?_
    refine J_callVip1 dX12_readLine_19 (t_X12_isWord_69_s4 (llL G) (llFx G) (d + 2) u ) ym_X12_isWord wd_1341 sh_69 rfl (Nat.le_of_ble_eq_true rfl) (fun r2 => ?_)
    refine J_if_eq (tgt := 32) dX12_readLine_22 (by decide) ?_ ?_
    · refine J_aload_n (j := 0) dX12_readLine_32 rfl rfl ?_
      refine J_iconst (v := 1) dX12_readLine_33 (by decide) ?_
      refine J_callVi1 dX12_readLine_34 (t_X12_fails_69 (llL G) (llFx G) (d + 9) u 1) ym_X12_fails wd_1400 sh_69 rfl (Nat.le_of_ble_eq_true rfl) (fun u3 r4 => ?_)
      refine J_sub [0] (lv' := [(0, .ref (llAd G 69))]) rfl ?_
      exact t_X12_readLine_69_j37 u3 r4
    · refine J_aload_n (j := 0) dX12_readLine_25 rfl rfl ?_
      refine J_callVi0 dX12_readLine_26 (t_X12_readClub_69 (llL G) (llFx G) d u ) ym_X12_readClub wd_1421 sh_69 rfl (Nat.le_of_ble_eq_true rfl) (fun u7 r8 => ?_)
      refine J_goto (tgt := 37) dX12_readLine_29 (by decide) ?_
      refine J_sub [0] (lv' := [(0, .ref (llAd G 69))]) rfl ?_
      exact t_X12_readLine_69_j37 u7 r8
  · refine J_aload_n (j := 0) dX12_readLine_9 rfl rfl ?_
    refine J_callVi0 dX12_readLine_10 (t_X12_readLevel_69 (llL G) (llFx G) d u ) ym_X12_readLevel wd_1396 sh_69 rfl (Nat.le_of_ble_eq_true rfl) (fun u9 r10 => ?_)
    refine J_goto (tgt := 37) dX12_readLine_13 (by decide) ?_
    refine J_sub [0] (lv' := [(0, .ref (llAd G 69))]) rfl ?_
    exact t_X12_readLine_69_j37 u9 r10
theorem t_X12_readLine_69 (l : Launch) (F : llFix) (d : Nat) (u : llMem)  : llCt l F yX12_readLine cX12_readLine 2 (some .boolean) (d + 10) [.ref (F.2.2.1 69)] u llI (fx_X12_readLine_69 u ) := llCt.of (by decide +kernel) (by exact Nat.le_of_ble_eq_true rfl) (fun G h1 h2 => by subst h1; subst h2; exact tj_X12_readLine_69 u )
