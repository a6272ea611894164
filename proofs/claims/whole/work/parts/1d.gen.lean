def fx_X12_deduct_69 (u : llMem) (a0 : Int32) (a1 : Int32) : Option (llMem × Int32) := (fx_X12_plays_69 u a0).bind (fun r1 => (if r1 = 0 then gB 0 (some (u, 0)) else (fx_X12_isIn u (Int32.toInt64 a1) 1 99).bind (fun r2 => (if r2 = 0 then gB 0 (some (u, 0)) else gI (90 + a0) 1020 ((if ((rI u 77 (90 + a0)) + a1) ≤ 999 then bd (fx_X12_keeps_69 u ) (fun u3 _ => gI (90 + a0) 1020 (gI (90 + a0) 1020 (lt (llSI u3 77 (Int32.toNatClampNeg (90 + a0)) ((rI u3 77 (90 + a0)) + a1)) (fun u4 => gB 1 (some (u4, 1)))))) else gB 0 (some (u, 0))))))))
set_option maxRecDepth 20000 in
theorem tj_X12_deduct_69 {G : llG} {d : Nat} (u : llMem) (a0 : Int32) (a1 : Int32) : llJ G RX12 cX12_deduct 3 (some .boolean) (d + 3) (fun r => llRet G (llI r.2) r.1) 0 [(0, .ref (llAd G 69)), (1, .int a0), (2, .int a1)] [] u (fx_X12_deduct_69 u a0 a1) := by
  unfold fx_X12_deduct_69
  refine J_aload_n (j := 0) dX12_deduct_0 rfl rfl ?_
  refine J_iload_n (j := 1) dX12_deduct_1 rfl rfl ?_
  refine J_callVip1 dX12_deduct_2 (t_X12_plays_69 (llL G) (llFx G) d u a0) ym_X12_plays wd_1467 sh_69 rfl (Nat.le_of_ble_eq_true rfl) (fun r1 => ?_)
  refine J_if_eq (tgt := 37) dX12_deduct_5 (by decide) ?_ ?_
  · refine J_iconst (v := 0) dX12_deduct_37 (by decide) ?_
    exact J_zret dX12_deduct_38 (fun h => h)
  · refine J_iload_n (j := 2) dX12_deduct_8 rfl rfl ?_
    refine J_i2l dX12_deduct_9 ?_
    refine J_lconst (v := 1) dX12_deduct_10 (by decide) ?_
    refine J_ldc2 (v := 99) dX12_deduct_11 wd_1499 ?_
    refine J_callSip3 dX12_deduct_14 (t_X12_isIn (llL G) (llFx G) (d + 2) u (Int32.toInt64 a1) 1 99) ym_X12_isIn wd_1313 (Nat.le_of_ble_eq_true rfl) (fun r2 => ?_)
    refine J_if_eq (tgt := 37) dX12_deduct_17 (by decide) ?_ ?_
    · refine J_iconst (v := 0) dX12_deduct_37 (by decide) ?_
      exact J_zret dX12_deduct_38 (fun h => h)
    · refine J_aload_n (j := 0) dX12_deduct_20 rfl rfl ?_
      refine J_getR (b := 77) dX12_deduct_21 fl_X12_32 sh_69 rfl ?_
      refine J_bipush (v := 90) dX12_deduct_24 (by decide) ?_
      refine J_iload_n (j := 1) dX12_deduct_26 rfl rfl ?_
      refine J_iadd dX12_deduct_27 ?_
      refine J_iald dX12_deduct_28 sh_77 ?_
      refine J_iload_n (j := 2) dX12_deduct_29 rfl rfl ?_
      refine J_iadd dX12_deduct_30 ?_
      refine J_sipush (v := 999) dX12_deduct_31 (by decide) ?_
      refine J_icmp_le (tgt := 39) dX12_deduct_34 (by decide) ?_ ?_
      · refine J_aload_n (j := 0) dX12_deduct_39 rfl rfl ?_
        refine J_callVv0 dX12_deduct_40 (t_X12_keeps_69 (llL G) (llFx G) (d + 2) u ) ym_X12_keeps wd_1475 sh_69 rfl (Nat.le_of_ble_eq_true rfl) (fun u3 => ?_)
        refine J_aload_n (j := 0) dX12_deduct_43 rfl rfl ?_
        refine J_getR (b := 77) dX12_deduct_44 fl_X12_32 sh_69 rfl ?_
        refine J_bipush (v := 90) dX12_deduct_47 (by decide) ?_
        refine J_iload_n (j := 1) dX12_deduct_49 rfl rfl ?_
        refine J_iadd dX12_deduct_50 ?_
        refine J_dup2 dX12_deduct_51 rfl rfl ?_
        refine J_iald dX12_deduct_52 sh_77 ?_
        refine J_iload_n (j := 2) dX12_deduct_53 rfl rfl ?_
        refine J_iadd dX12_deduct_54 ?_
        refine J_iast dX12_deduct_55 sh_77 (fun u4 => ?_)
        refine J_iconst (v := 1) dX12_deduct_56 (by decide) ?_
        exact J_zret dX12_deduct_57 (fun h => h)
      · refine J_iconst (v := 0) dX12_deduct_37 (by decide) ?_
        exact J_zret dX12_deduct_38 (fun h => h)
theorem t_X12_deduct_69 (l : Launch) (F : llFix) (d : Nat) (u : llMem) (a0 : Int32) (a1 : Int32) : llCt l F yX12_deduct cX12_deduct 3 (some .boolean) (d + 3) [.ref (F.2.2.1 69), .int a0, .int a1] u llI (fx_X12_deduct_69 u a0 a1) := llCt.of (by decide +kernel) (by exact Nat.le_of_ble_eq_true rfl) (fun G h1 h2 => by subst h1; subst h2; exact tj_X12_deduct_69 u a0 a1)
def fx_X11_grade_0 (u : llMem) (a0 : Int32) (a1 : Int32) : Option (llMem × Int32) := (fx_X5_isClub_3 u a0).bind (fun r1 => (if r1 = 0 then gB 0 (some (u, 0)) else gI a0 30 ((if ¬ (rI u 12 a0) = ((-2)) then gI a0 30 (lt (rI u 11 a0) (fun v3_2 => (if a1 < 0 then gB 0 (some (u, 0)) else (if 9 < a1 then gB 0 (some (u, 0)) else (if ¬ a1 = v3_2 then gI a0 30 (lt (llSI u 11 (Int32.toNatClampNeg a0) a1) (fun u3 => bd (fx_X2_keep_26 u3 4 a0 v3_2) (fun u4 _ => gB 1 (some (u4, 1))))) else gB 0 (some (u, 0))))))) else gB 0 (some (u, 0))))))
set_option maxRecDepth 20000 in
theorem tj_X11_grade_0 {G : llG} {d : Nat} (u : llMem) (a0 : Int32) (a1 : Int32) : llJ G RX11 cX11_grade 4 (some .boolean) (d + 1) (fun r => llRet G (llI r.2) r.1) 0 [(0, .ref (llAd G 0)), (1, .int a0), (2, .int a1)] [] u (fx_X11_grade_0 u a0 a1) := by
  unfold fx_X11_grade_0
  refine J_aload_n (j := 0) dX11_grade_0 rfl rfl ?_
  refine J_getR (b := 3) dX11_grade_1 fl_X11_19 sh_0 rfl ?_
  refine J_iload_n (j := 1) dX11_grade_4 rfl rfl ?_
  refine J_callVip1 dX11_grade_5 (t_X5_isClub_3 (llL G) (llFx G) d u a0) ym_X5_isClub wd_738 sh_3 rfl (Nat.le_of_ble_eq_true rfl) (fun r1 => ?_)
  refine J_if_eq (tgt := 25) dX11_grade_8 (by decide) ?_ ?_
  · refine J_iconst (v := 0) dX11_grade_25 (by decide) ?_
    exact J_zret dX11_grade_26 (fun h => h)
  · refine J_aload_n (j := 0) dX11_grade_11 rfl rfl ?_
    refine J_getR (b := 3) dX11_grade_12 fl_X11_19 sh_0 rfl ?_
    refine J_getR (b := 12) dX11_grade_15 fl_X11_176 sh_3 rfl ?_
    refine J_iload_n (j := 1) dX11_grade_18 rfl rfl ?_
    refine J_iald dX11_grade_19 sh_12 ?_
    refine J_bipush (v := (-2)) dX11_grade_20 (by decide) ?_
    refine J_icmp_ne (tgt := 27) dX11_grade_22 (by decide) ?_ ?_
    · refine J_aload_n (j := 0) dX11_grade_27 rfl rfl ?_
      refine J_getR (b := 3) dX11_grade_28 fl_X11_19 sh_0 rfl ?_
      refine J_getR (b := 11) dX11_grade_31 fl_X11_179 sh_3 rfl ?_
      refine J_iload_n (j := 1) dX11_grade_34 rfl rfl ?_
      refine J_iald dX11_grade_35 sh_11 ?_
      refine J_istore_nL (fun v3_2 => [(3, .int v3_2), (0, .ref (llAd G 0)), (1, .int a0), (2, .int a1)]) dX11_grade_36 rfl (by decide) (fun _ => rfl) (fun v3_2 => ?_)
      refine J_iload_n (j := 3) dX11_grade_37 rfl rfl ?_
      refine J_if_lt (tgt := 52) dX11_grade_38 (by decide) ?_ ?_
      · refine J_iconst (v := 0) dX11_grade_52 (by decide) ?_
        exact J_zret dX11_grade_53 (fun h => h)
      · refine J_iload_n (j := 3) dX11_grade_41 rfl rfl ?_
        refine J_bipush (v := 9) dX11_grade_42 (by decide) ?_
        refine J_icmp_gt (tgt := 52) dX11_grade_44 (by decide) ?_ ?_
        · refine J_iconst (v := 0) dX11_grade_52 (by decide) ?_
          exact J_zret dX11_grade_53 (fun h => h)
        · refine J_iload_n (j := 3) dX11_grade_47 rfl rfl ?_
          refine J_iload_n (j := 0) dX11_grade_48 rfl rfl ?_
          refine J_icmp_ne (tgt := 54) dX11_grade_49 (by decide) ?_ ?_
          · refine J_aload_n (j := 1) dX11_grade_54 rfl rfl ?_
            refine J_getR (b := 3) dX11_grade_55 fl_X11_19 sh_0 rfl ?_
            refine J_getR (b := 11) dX11_grade_58 fl_X11_179 sh_3 rfl ?_
            refine J_iload_n (j := 2) dX11_grade_61 rfl rfl ?_
            refine J_iload_n (j := 3) dX11_grade_62 rfl rfl ?_
            refine J_iast dX11_grade_63 sh_11 (fun u3 => ?_)
            refine J_aload_n (j := 1) dX11_grade_64 rfl rfl ?_
            refine J_getR (b := 26) dX11_grade_65 fl_X11_35 sh_0 rfl ?_
            refine J_iconst (v := 4) dX11_grade_68 (by decide) ?_
            refine J_iload_n (j := 2) dX11_grade_69 rfl rfl ?_
            refine J_iload_n (j := 0) dX11_grade_70 rfl rfl ?_
            refine J_callVv3 dX11_grade_71 (t_X2_keep_26 (llL G) (llFx G) d u3 4 a0 v3_2) ym_X2_keep wd_702 sh_26 rfl (Nat.le_of_ble_eq_true rfl) (fun u4 => ?_)
            refine J_iconst (v := 1) dX11_grade_74 (by decide) ?_
            exact J_zret dX11_grade_75 (fun h => h)
          · refine J_iconst (v := 0) dX11_grade_52 (by decide) ?_
            exact J_zret dX11_grade_53 (fun h => h)
    · refine J_iconst (v := 0) dX11_grade_25 (by decide) ?_
      exact J_zret dX11_grade_26 (fun h => h)
theorem t_X11_grade_0 (l : Launch) (F : llFix) (d : Nat) (u : llMem) (a0 : Int32) (a1 : Int32) : llCt l F yX11_grade cX11_grade 4 (some .boolean) (d + 1) [.ref (F.2.2.1 0), .int a0, .int a1] u llI (fx_X11_grade_0 u a0 a1) := llCt.of (by decide +kernel) (by exact Nat.le_of_ble_eq_true rfl) (fun G h1 h2 => by subst h1; subst h2; exact tj_X11_grade_0 u a0 a1)
def fx_X12_grade_69 (u : llMem) (a0 : Int32) (a1 : Int32) : Option (llMem × Int32) := (fx_X12_isClub_69 u a0).bind (fun r1 => (if r1 = 0 then gB 0 (some (u, 0)) else gI a0 60 ((if (rI u 74 a0) = ((-2)) then gB 0 (some (u, 0)) else (fx_X12_isIn u (Int32.toInt64 a1) 0 9).bind (fun r2 => (if r2 = 0 then gB 0 (some (u, 0)) else gI (0 + a0) 1020 ((if ¬ (rI u 77 (0 + a0)) = a1 then bd (fx_X12_keeps_69 u ) (fun u3 _ => gI (0 + a0) 1020 (lt (llSI u3 77 (Int32.toNatClampNeg (0 + a0)) a1) (fun u4 => gB 1 (some (u4, 1))))) else gB 0 (some (u, 0))))))))))
set_option maxRecDepth 20000 in
theorem tj_X12_grade_69 {G : llG} {d : Nat} (u : llMem) (a0 : Int32) (a1 : Int32) : llJ G RX12 cX12_grade 3 (some .boolean) (d + 2) (fun r => llRet G (llI r.2) r.1) 0 [(0, .ref (llAd G 69)), (1, .int a0), (2, .int a1)] [] u (fx_X12_grade_69 u a0 a1) := by
  unfold fx_X12_grade_69
  refine J_aload_n (j := 0) dX12_grade_0 rfl rfl ?_
  refine J_iload_n (j := 1) dX12_grade_1 rfl rfl ?_
  refine J_callVip1 dX12_grade_2 (t_X12_isClub_69 (llL G) (llFx G) d u a0) ym_X12_isClub wd_1471 sh_69 rfl (Nat.le_of_ble_eq_true rfl) (fun r1 => ?_)
  refine J_if_eq (tgt := 43) dX12_grade_5 (by decide) ?_ ?_
  · refine J_iconst (v := 0) dX12_grade_43 (by decide) ?_
    exact J_zret dX12_grade_44 (fun h => h)
  · refine J_aload_n (j := 0) dX12_grade_8 rfl rfl ?_
    refine J_getR (b := 74) dX12_grade_9 fl_X12_23 sh_69 rfl ?_
    refine J_iload_n (j := 1) dX12_grade_12 rfl rfl ?_
    refine J_iald dX12_grade_13 sh_74 ?_
    refine J_bipush (v := (-2)) dX12_grade_14 (by decide) ?_
    refine J_icmp_eq (tgt := 43) dX12_grade_16 (by decide) ?_ ?_
    · refine J_iconst (v := 0) dX12_grade_43 (by decide) ?_
      exact J_zret dX12_grade_44 (fun h => h)
    · refine J_iload_n (j := 2) dX12_grade_19 rfl rfl ?_
      refine J_i2l dX12_grade_20 ?_
      refine J_lconst (v := 0) dX12_grade_21 (by decide) ?_
      refine J_ldc2 (v := 9) dX12_grade_22 wd_1504 ?_
      refine J_callSip3 dX12_grade_25 (t_X12_isIn (llL G) (llFx G) (d + 1) u (Int32.toInt64 a1) 0 9) ym_X12_isIn wd_1313 (Nat.le_of_ble_eq_true rfl) (fun r2 => ?_)
      refine J_if_eq (tgt := 43) dX12_grade_28 (by decide) ?_ ?_
      · refine J_iconst (v := 0) dX12_grade_43 (by decide) ?_
        exact J_zret dX12_grade_44 (fun h => h)
      · refine J_aload_n (j := 0) dX12_grade_31 rfl rfl ?_
        refine J_getR (b := 77) dX12_grade_32 fl_X12_32 sh_69 rfl ?_
        refine J_iconst (v := 0) dX12_grade_35 (by decide) ?_
        refine J_iload_n (j := 1) dX12_grade_36 rfl rfl ?_
        refine J_iadd dX12_grade_37 ?_
        refine J_iald dX12_grade_38 sh_77 ?_
        refine J_iload_n (j := 2) dX12_grade_39 rfl rfl ?_
        refine J_icmp_ne (tgt := 45) dX12_grade_40 (by decide) ?_ ?_
        · refine J_aload_n (j := 0) dX12_grade_45 rfl rfl ?_
          refine J_callVv0 dX12_grade_46 (t_X12_keeps_69 (llL G) (llFx G) (d + 1) u ) ym_X12_keeps wd_1475 sh_69 rfl (Nat.le_of_ble_eq_true rfl) (fun u3 => ?_)
          refine J_aload_n (j := 0) dX12_grade_49 rfl rfl ?_
          refine J_getR (b := 77) dX12_grade_50 fl_X12_32 sh_69 rfl ?_
          refine J_iconst (v := 0) dX12_grade_53 (by decide) ?_
          refine J_iload_n (j := 1) dX12_grade_54 rfl rfl ?_
          refine J_iadd dX12_grade_55 ?_
          refine J_iload_n (j := 2) dX12_grade_56 rfl rfl ?_
          refine J_iast dX12_grade_57 sh_77 (fun u4 => ?_)
          refine J_iconst (v := 1) dX12_grade_58 (by decide) ?_
          exact J_zret dX12_grade_59 (fun h => h)
        · refine J_iconst (v := 0) dX12_grade_43 (by decide) ?_
          exact J_zret dX12_grade_44 (fun h => h)
theorem t_X12_grade_69 (l : Launch) (F : llFix) (d : Nat) (u : llMem) (a0 : Int32) (a1 : Int32) : llCt l F yX12_grade cX12_grade 3 (some .boolean) (d + 2) [.ref (F.2.2.1 69), .int a0, .int a1] u llI (fx_X12_grade_69 u a0 a1) := llCt.of (by decide +kernel) (by exact Nat.le_of_ble_eq_true rfl) (fun G h1 h2 => by subst h1; subst h2; exact tj_X12_grade_69 u a0 a1)
def fx_J7_fill_53178_66_l5 (v1 : Int32) (v3 : Int32) (s : llMem × Int32) : Option ((llMem × Int32) ⊕ (llMem)) := (if v3 ≤ s.2 then some (.inr s.1) else gI s.2 16 (lt (llSI s.1 66 (Int32.toNatClampNeg s.2) v1) (fun u1 => lt (s.2 + 1) (fun v2_2 => some (.inl (u1, v2_2))))))
set_option maxRecDepth 20000 in
theorem t_J7_fill_53178_66_l5 {G : llG} {d : Nat} (v1 : Int32) (v3 : Int32) (s : llMem × Int32) : llJ G RJ7 cJ7_fill_53178 4 none d (Sum.elim (fun s' => llJq G 4 5 [(0, .ref (llAd G 66)), (1, .int v1), (2, .int s'.2), (3, .int v3)] [] s'.1) (fun e => llJq G 4 20 [] [] e)) 5 [(0, .ref (llAd G 66)), (1, .int v1), (2, .int s.2), (3, .int v3)] [] s.1 (fx_J7_fill_53178_66_l5 v1 v3 s) := by
  unfold fx_J7_fill_53178_66_l5
  refine J_iload_n (j := 2) dJ7_fill_53178_5 rfl rfl ?_
  refine J_iload_n (j := 3) dJ7_fill_53178_6 rfl rfl ?_
  refine J_icmp_ge (tgt := 20) dJ7_fill_53178_7 (by decide) ?_ ?_
  · exact J_cut [] (lv' := []) rfl (fun h => h)
  · refine J_aload_n (j := 0) dJ7_fill_53178_10 rfl rfl ?_
    refine J_iload_n (j := 2) dJ7_fill_53178_11 rfl rfl ?_
    refine J_iload_n (j := 1) dJ7_fill_53178_12 rfl rfl ?_
    refine J_iast dJ7_fill_53178_13 sh_66 (fun u1 => ?_)
    refine J_iinc (j := 2) (b := 1) (fun v2_2 => [(2, .int v2_2), (0, .ref (llAd G 66)), (1, .int v1), (3, .int v3)]) dJ7_fill_53178_14 rfl (by decide) (by decide) (fun _ => rfl) (fun v2_2 => ?_)
    refine J_goto (tgt := 5) dJ7_fill_53178_17 (by decide) ?_
    exact J_cut [1, 2, 0, 3] (lv' := [(0, .ref (llAd G 66)), (1, .int v1), (2, .int v2_2), (3, .int v3)]) rfl (fun h => h)
def fx_J7_fill_53178_66 (u : llMem) (a1 : Int32) : Option (llMem × Unit) := (loop (fx_J7_fill_53178_66_l5 a1 16) llFuel (u, 0)).bind (fun e3 => some (e3, ()))
set_option maxRecDepth 20000 in
theorem tj_J7_fill_53178_66 {G : llG} {d : Nat} (u : llMem) (a1 : Int32) : llJ G RJ7 cJ7_fill_53178 4 none d (fun r => llRet G (llVd r.2) r.1) 0 [(0, .ref (llAd G 66)), (1, .int a1)] [] u (fx_J7_fill_53178_66 u a1) := by
  unfold fx_J7_fill_53178_66
  refine J_iconst (v := 0) dJ7_fill_53178_0 (by decide) ?_
  refine J_istore_n [(2, .int 0), (0, .ref (llAd G 66)), (1, .int a1)] dJ7_fill_53178_1 rfl (by decide) rfl ?_
  refine J_aload_n (j := 1) dJ7_fill_53178_2 rfl rfl ?_
  refine J_alen (v := 16) dJ7_fill_53178_3 sh_66 (by decide) (by decide) ?_
  refine J_istore_n [(3, .int 16), (2, .int 0), (0, .ref (llAd G 66)), (1, .int a1)] dJ7_fill_53178_4 rfl (by decide) rfl ?_
  refine J_loopE (fun s' => [(0, .ref (llAd G 66)), (1, .int a1), (2, .int s'.2), (3, .int 16)]) (fun s' => s'.1) 20 (fun e => []) (fun e => e) (fun z => t_J7_fill_53178_66_l5 a1 16 z) [2, 3, 1, 0] rfl rfl (fun e3 => ?_)
  exact J_vret dJ7_fill_53178_20 (fun h => h)
theorem t_J7_fill_53178_66 (l : Launch) (F : llFix) (d : Nat) (u : llMem) (a1 : Int32) : llCt l F yJ7_fill_53178 cJ7_fill_53178 4 none d [.ref (F.2.2.1 66), .int a1] u llVd (fx_J7_fill_53178_66 u a1) := llCt.of (by decide +kernel) (by exact Nat.le_of_ble_eq_true rfl) (fun G h1 h2 => by subst h1; subst h2; exact tj_J7_fill_53178_66 u a1)
def fx_X3_weigh_63_j52_b10 (u : llMem) (v1 : Int32) (t1 : Int32) (t2 : Int32) : Option ((llMem × Int32) ⊕ (llMem)) := gI t1 30 (lt (llSI u 68 (Int32.toNatClampNeg t1) t2) (fun u2 => lt (v1 + 1) (fun v1_3 => some (.inl (u2, v1_3)))))
set_option maxRecDepth 20000 in
theorem t_X3_weigh_63_j52_b10 {G : llG} {d : Nat} (u : llMem) (v1 : Int32) (t1 : Int32) (t2 : Int32) : llJ G RX3 cX3_weigh 2 (some .boolean) (d + 4) (Sum.elim (fun s' => llJq G 2 10 [(0, .ref (llAd G 63)), (1, .int s'.2)] [] s'.1) (fun e => llJq G 2 59 [(0, .ref (llAd G 63))] [] e)) 52 [(0, .ref (llAd G 63)), (1, .int v1)] [.int t2, .int t1, .ref (llAd G 68)] u (fx_X3_weigh_63_j52_b10 u v1 t1 t2) := by
  unfold fx_X3_weigh_63_j52_b10
  refine J_iast dX3_weigh_52 sh_68 (fun u2 => ?_)
  refine J_iinc (j := 1) (b := 1) (fun v1_3 => [(1, .int v1_3), (0, .ref (llAd G 63))]) dX3_weigh_53 rfl (by decide) (by decide) (fun _ => rfl) (fun v1_3 => ?_)
  refine J_goto (tgt := 10) dX3_weigh_56 (by decide) ?_
  exact J_cut [1, 0] (lv' := [(0, .ref (llAd G 63)), (1, .int v1_3)]) rfl (fun h => h)
def fx_X3_weigh_63_l10  (s : llMem × Int32) : Option ((llMem × Int32) ⊕ (llMem)) := (if (s.1.1 3 5) ≤ s.2 then some (.inr s.1) else gI s.2 30 ((if (rI s.1 18 s.2) = 0 then gI s.2 30 (fx_X3_weigh_63_j52_b10 s.1 s.2 s.2 (rI s.1 12 s.2)) else fx_X3_weigh_63_j52_b10 s.1 s.2 s.2 ((-2)))))
set_option maxRecDepth 20000 in
theorem t_X3_weigh_63_l10 {G : llG} {d : Nat}  (s : llMem × Int32) : llJ G RX3 cX3_weigh 2 (some .boolean) (d + 4) (Sum.elim (fun s' => llJq G 2 10 [(0, .ref (llAd G 63)), (1, .int s'.2)] [] s'.1) (fun e => llJq G 2 59 [(0, .ref (llAd G 63))] [] e)) 10 [(0, .ref (llAd G 63)), (1, .int s.2)] [] s.1 (fx_X3_weigh_63_l10 s) := by
  unfold fx_X3_weigh_63_l10
  refine J_iload_n (j := 1) dX3_weigh_10 rfl rfl ?_
  refine J_aload_n (j := 0) dX3_weigh_11 rfl rfl ?_
  refine J_getR (b := 3) dX3_weigh_12 fl_X3_9 sh_63 rfl ?_
  refine J_getI dX3_weigh_15 fl_X3_39 sh_3 rfl ?_
  refine J_icmp_ge (tgt := 59) dX3_weigh_18 (by decide) ?_ ?_
  · exact J_cut [0] (lv' := [(0, .ref (llAd G 63))]) rfl (fun h => h)
  · refine J_aload_n (j := 0) dX3_weigh_21 rfl rfl ?_
    refine J_getR (b := 68) dX3_weigh_22 fl_X3_36 sh_63 rfl ?_
    refine J_iload_n (j := 1) dX3_weigh_25 rfl rfl ?_
    refine J_aload_n (j := 0) dX3_weigh_26 rfl rfl ?_
    refine J_getR (b := 14) dX3_weigh_27 fl_X3_15 sh_63 rfl ?_
    refine J_getR (b := 18) dX3_weigh_30 fl_X3_45 sh_14 rfl ?_
    refine J_iload_n (j := 1) dX3_weigh_33 rfl rfl ?_
    refine J_iald dX3_weigh_34 sh_18 ?_
    refine J_if_eq (tgt := 43) dX3_weigh_35 (by decide) ?_ ?_
    · refine J_aload_n (j := 0) dX3_weigh_43 rfl rfl ?_
      refine J_getR (b := 3) dX3_weigh_44 fl_X3_9 sh_63 rfl ?_
      refine J_getR (b := 12) dX3_weigh_47 fl_X3_54 sh_3 rfl ?_
      refine J_iload_n (j := 1) dX3_weigh_50 rfl rfl ?_
      refine J_iald dX3_weigh_51 sh_12 ?_
      refine J_sub [0, 1] (lv' := [(0, .ref (llAd G 63)), (1, .int s.2)]) rfl ?_
      exact t_X3_weigh_63_j52_b10 s.1 s.2 s.2 (rI s.1 12 s.2)
    · refine J_bipush (v := (-2)) dX3_weigh_38 (by decide) ?_
      refine J_goto (tgt := 52) dX3_weigh_40 (by decide) ?_
      refine J_sub [0, 1] (lv' := [(0, .ref (llAd G 63)), (1, .int s.2)]) rfl ?_
      exact t_X3_weigh_63_j52_b10 s.1 s.2 s.2 ((-2))
def fx_X3_wantingOf_63_j54_b4 (u : llMem) (v1 : Int32) (v2 : Int32) (v3 : Int32) : Option ((Int32 × Int32) ⊕ (Int32)) := lt (v3 + 1) (fun v3_1 => some (.inl (v2, v3_1)))
set_option maxRecDepth 20000 in
theorem t_X3_wantingOf_63_j54_b4 {G : llG} {d : Nat} (u : llMem) (v1 : Int32) (v2 : Int32) (v3 : Int32) : llJ G RX3 cX3_wantingOf 4 (some .int) (d + 2) (Sum.elim (fun s' => llJq G 4 4 [(0, .ref (llAd G 63)), (1, .int v1), (2, .int s'.1), (3, .int s'.2)] [] u) (fun e => llJq G 4 60 [(2, .int e)] [] u)) 54 [(0, .ref (llAd G 63)), (1, .int v1), (2, .int v2), (3, .int v3)] [] u (fx_X3_wantingOf_63_j54_b4 u v1 v2 v3) := by
  unfold fx_X3_wantingOf_63_j54_b4
  refine J_iinc (j := 3) (b := 1) (fun v3_1 => [(3, .int v3_1), (0, .ref (llAd G 63)), (1, .int v1), (2, .int v2)]) dX3_wantingOf_54 rfl (by decide) (by decide) (fun _ => rfl) (fun v3_1 => ?_)
  refine J_goto (tgt := 4) dX3_wantingOf_57 (by decide) ?_
  exact J_cut [1, 2, 3, 0] (lv' := [(0, .ref (llAd G 63)), (1, .int v1), (2, .int v2), (3, .int v3_1)]) rfl (fun h => h)
def fx_X3_wantingOf_63_l4 (u : llMem) (v1 : Int32) (s : Int32 × Int32) : Option ((Int32 × Int32) ⊕ (Int32)) := (if (u.1 3 5) ≤ s.2 then some (.inr s.1) else gI s.2 30 ((if (rI u 18 s.2) = 0 then fx_X3_wantingOf_63_j54_b4 u v1 s.1 s.2 else (fx_X5_plays_3 u s.2).bind (fun r2 => (if r2 = 0 then fx_X3_wantingOf_63_j54_b4 u v1 s.1 s.2 else gI s.2 30 ((if v1 < (rI u 12 s.2) then fx_X3_wantingOf_63_j54_b4 u v1 s.1 s.2 else lt (s.1 + 1) (fun v2_3 => fx_X3_wantingOf_63_j54_b4 u v1 v2_3 s.2))))))))
set_option maxRecDepth 20000 in
theorem t_X3_wantingOf_63_l4 {G : llG} {d : Nat} (u : llMem) (v1 : Int32) (s : Int32 × Int32) : llJ G RX3 cX3_wantingOf 4 (some .int) (d + 2) (Sum.elim (fun s' => llJq G 4 4 [(0, .ref (llAd G 63)), (1, .int v1), (2, .int s'.1), (3, .int s'.2)] [] u) (fun e => llJq G 4 60 [(2, .int e)] [] u)) 4 [(0, .ref (llAd G 63)), (1, .int v1), (2, .int s.1), (3, .int s.2)] [] u (fx_X3_wantingOf_63_l4 u v1 s) := by
  unfold fx_X3_wantingOf_63_l4
  refine J_iload_n (j := 3) dX3_wantingOf_4 rfl rfl ?_
  refine J_aload_n (j := 0) dX3_wantingOf_5 rfl rfl ?_
  refine J_getR (b := 3) dX3_wantingOf_6 fl_X3_9 sh_63 rfl ?_
  refine J_getI dX3_wantingOf_9 fl_X3_39 sh_3 rfl ?_
  refine J_icmp_ge (tgt := 60) dX3_wantingOf_12 (by decide) ?_ ?_
  · exact J_cut [2] (lv' := [(2, .int s.1)]) rfl (fun h => h)
  · refine J_aload_n (j := 0) dX3_wantingOf_15 rfl rfl ?_
    refine J_getR (b := 14) dX3_wantingOf_16 fl_X3_15 sh_63 rfl ?_
    refine J_getR (b := 18) dX3_wantingOf_19 fl_X3_45 sh_14 rfl ?_
    refine J_iload_n (j := 3) dX3_wantingOf_22 rfl rfl ?_
    refine J_iald dX3_wantingOf_23 sh_18 ?_
    refine J_if_eq (tgt := 54) dX3_wantingOf_24 (by decide) ?_ ?_
    · refine J_sub [0, 1, 2, 3] (lv' := [(0, .ref (llAd G 63)), (1, .int v1), (2, .int s.1), (3, .int s.2)]) rfl ?_
      exact t_X3_wantingOf_63_j54_b4 u v1 s.1 s.2
    · refine J_aload_n (j := 0) dX3_wantingOf_27 rfl rfl ?_
      refine J_getR (b := 3) dX3_wantingOf_28 fl_X3_9 sh_63 rfl ?_
      refine J_iload_n (j := 3) dX3_wantingOf_31 rfl rfl ?_
      refine J_callVip1 dX3_wantingOf_32 (t_X5_plays_3 (llL G) (llFx G) d u s.2) ym_X5_plays wd_756 sh_3 rfl (Nat.le_of_ble_eq_true rfl) (fun r2 => ?_)
      refine J_if_eq (tgt := 54) dX3_wantingOf_35 (by decide) ?_ ?_
      · refine J_sub [0, 1, 2, 3] (lv' := [(0, .ref (llAd G 63)), (1, .int v1), (2, .int s.1), (3, .int s.2)]) rfl ?_
        exact t_X3_wantingOf_63_j54_b4 u v1 s.1 s.2
      · refine J_aload_n (j := 0) dX3_wantingOf_38 rfl rfl ?_
        refine J_getR (b := 3) dX3_wantingOf_39 fl_X3_9 sh_63 rfl ?_
        refine J_getR (b := 12) dX3_wantingOf_42 fl_X3_54 sh_3 rfl ?_
        refine J_iload_n (j := 3) dX3_wantingOf_45 rfl rfl ?_
        refine J_iald dX3_wantingOf_46 sh_12 ?_
        refine J_iload_n (j := 1) dX3_wantingOf_47 rfl rfl ?_
        refine J_icmp_gt (tgt := 54) dX3_wantingOf_48 (by decide) ?_ ?_
        · refine J_sub [0, 1, 2, 3] (lv' := [(0, .ref (llAd G 63)), (1, .int v1), (2, .int s.1), (3, .int s.2)]) rfl ?_
          exact t_X3_wantingOf_63_j54_b4 u v1 s.1 s.2
        · refine J_iinc (j := 2) (b := 1) (fun v2_3 => [(2, .int v2_3), (0, .ref (llAd G 63)), (1, .int v1), (3, .int s.2)]) dX3_wantingOf_51 rfl (by decide) (by decide) (fun _ => rfl) (fun v2_3 => ?_)
          refine J_sub [1, 2, 0, 3] (lv' := [(0, .ref (llAd G 63)), (1, .int v1), (2, .int v2_3), (3, .int s.2)]) rfl ?_
          exact t_X3_wantingOf_63_j54_b4 u v1 v2_3 s.2
def fx_X3_wantingOf_63 (u : llMem) (a0 : Int32) : Option Int32 := (loop (fx_X3_wantingOf_63_l4 u a0) llFuel (0, 0)).bind (fun e4 => some e4)
set_option maxRecDepth 20000 in
theorem tj_X3_wantingOf_63 {G : llG} {d : Nat} (u : llMem) (a0 : Int32) : llJ G RX3 cX3_wantingOf 4 (some .int) (d + 2) (fun r => llRet G (llI r) u) 0 [(0, .ref (llAd G 63)), (1, .int a0)] [] u (fx_X3_wantingOf_63 u a0) := by
  unfold fx_X3_wantingOf_63
  refine J_iconst (v := 0) dX3_wantingOf_0 (by decide) ?_
  refine J_istore_n [(2, .int 0), (0, .ref (llAd G 63)), (1, .int a0)] dX3_wantingOf_1 rfl (by decide) rfl ?_
  refine J_iconst (v := 0) dX3_wantingOf_2 (by decide) ?_
  refine J_istore_n [(3, .int 0), (2, .int 0), (0, .ref (llAd G 63)), (1, .int a0)] dX3_wantingOf_3 rfl (by decide) rfl ?_
  refine J_loopE (fun s' => [(0, .ref (llAd G 63)), (1, .int a0), (2, .int s'.1), (3, .int s'.2)]) (fun s' => u) 60 (fun e => [(2, .int e)]) (fun e => u) (fun z => t_X3_wantingOf_63_l4 u a0 z) [2, 3, 1, 0] rfl rfl (fun e4 => ?_)
  refine J_iload_n (j := 0) dX3_wantingOf_60 rfl rfl ?_
  exact J_iret dX3_wantingOf_61 (fun h => h)
theorem t_X3_wantingOf_63 (l : Launch) (F : llFix) (d : Nat) (u : llMem) (a0 : Int32) : llCp l F yX3_wantingOf cX3_wantingOf 4 (some .int) (d + 2) [.ref (F.2.2.1 63), .int a0] u llI (fx_X3_wantingOf_63 u a0) := llCp.of (by decide +kernel) (by exact Nat.le_of_ble_eq_true rfl) (fun G h1 h2 => by subst h1; subst h2; exact tj_X3_wantingOf_63 u a0)
def fx_X3_mayRiseFrom_63_j39_b4 (u : llMem) (v1 : Int32) (v2 : Int32) (v3 : Int32) : Option ((Int32 × Int32) ⊕ (Int32)) := lt (v3 + 1) (fun v3_1 => some (.inl (v2, v3_1)))
set_option maxRecDepth 20000 in
theorem t_X3_mayRiseFrom_63_j39_b4 {G : llG} {d : Nat} (u : llMem) (v1 : Int32) (v2 : Int32) (v3 : Int32) : llJ G RX3 cX3_mayRiseFrom 4 (some .int) (d + 1) (Sum.elim (fun s' => llJq G 4 4 [(0, .ref (llAd G 63)), (1, .int v1), (2, .int s'.1), (3, .int s'.2)] [] u) (fun e => llJq G 4 45 [(2, .int e)] [] u)) 39 [(0, .ref (llAd G 63)), (1, .int v1), (2, .int v2), (3, .int v3)] [] u (fx_X3_mayRiseFrom_63_j39_b4 u v1 v2 v3) := by
  unfold fx_X3_mayRiseFrom_63_j39_b4
  refine J_iinc (j := 3) (b := 1) (fun v3_1 => [(3, .int v3_1), (0, .ref (llAd G 63)), (1, .int v1), (2, .int v2)]) dX3_mayRiseFrom_39 rfl (by decide) (by decide) (fun _ => rfl) (fun v3_1 => ?_)
  refine J_goto (tgt := 4) dX3_mayRiseFrom_42 (by decide) ?_
  exact J_cut [1, 2, 3, 0] (lv' := [(0, .ref (llAd G 63)), (1, .int v1), (2, .int v2), (3, .int v3_1)]) rfl (fun h => h)
def fx_X3_mayRise_63 (u : llMem) (a0 : Int32) : Option Int32 := gI a0 30 (lt (rI u 12 a0) (fun v2_1 => (if v2_1 ≤ 0 then gB 0 (some 0) else gI a0 30 ((if ¬ (rI u 18 a0) = 0 then gB 0 (some 0) else gI a0 30 ((if ¬ (rI u 19 a0) = 0 then gB 0 (some 0) else gI a0 30 (gI (v2_1 - 1) 4 ((if (rI u 11 a0) < (rI u 7 (v2_1 - 1)) then gB 0 (some 0) else gB 1 (some 1)))))))))))
set_option maxRecDepth 20000 in
theorem tj_X3_mayRise_63 {G : llG} {d : Nat} (u : llMem) (a0 : Int32) : llJ G RX3 cX3_mayRise 3 (some .boolean) d (fun r => llRet G (llI r) u) 0 [(0, .ref (llAd G 63)), (1, .int a0)] [] u (fx_X3_mayRise_63 u a0) := by
  unfold fx_X3_mayRise_63
  refine J_aload_n (j := 0) dX3_mayRise_0 rfl rfl ?_
  refine J_getR (b := 3) dX3_mayRise_1 fl_X3_9 sh_63 rfl ?_
  refine J_getR (b := 12) dX3_mayRise_4 fl_X3_54 sh_3 rfl ?_
  refine J_iload_n (j := 1) dX3_mayRise_7 rfl rfl ?_
  refine J_iald dX3_mayRise_8 sh_12 ?_
  refine J_istore_nL (fun v2_1 => [(2, .int v2_1), (0, .ref (llAd G 63)), (1, .int a0)]) dX3_mayRise_9 rfl (by decide) (fun _ => rfl) (fun v2_1 => ?_)
  refine J_iload_n (j := 0) dX3_mayRise_10 rfl rfl ?_
  refine J_if_le (tgt := 65) dX3_mayRise_11 (by decide) ?_ ?_
  · refine J_iconst (v := 0) dX3_mayRise_65 (by decide) ?_
    exact J_zret dX3_mayRise_66 (fun h => h)
  · refine J_aload_n (j := 1) dX3_mayRise_14 rfl rfl ?_
    refine J_getR (b := 14) dX3_mayRise_15 fl_X3_15 sh_63 rfl ?_
    refine J_getR (b := 18) dX3_mayRise_18 fl_X3_45 sh_14 rfl ?_
    refine J_iload_n (j := 2) dX3_mayRise_21 rfl rfl ?_
    refine J_iald dX3_mayRise_22 sh_18 ?_
    refine J_if_ne (tgt := 65) dX3_mayRise_23 (by decide) ?_ ?_
    · refine J_iconst (v := 0) dX3_mayRise_65 (by decide) ?_
      exact J_zret dX3_mayRise_66 (fun h => h)
    · refine J_aload_n (j := 1) dX3_mayRise_26 rfl rfl ?_
      refine J_getR (b := 14) dX3_mayRise_27 fl_X3_15 sh_63 rfl ?_
      refine J_getR (b := 19) dX3_mayRise_30 fl_X3_57 sh_14 rfl ?_
      refine J_iload_n (j := 2) dX3_mayRise_33 rfl rfl ?_
      refine J_iald dX3_mayRise_34 sh_19 ?_
      refine J_if_ne (tgt := 65) dX3_mayRise_35 (by decide) ?_ ?_
      · refine J_iconst (v := 0) dX3_mayRise_65 (by decide) ?_
        exact J_zret dX3_mayRise_66 (fun h => h)
      · refine J_aload_n (j := 1) dX3_mayRise_38 rfl rfl ?_
        refine J_getR (b := 3) dX3_mayRise_39 fl_X3_9 sh_63 rfl ?_
        refine J_getR (b := 11) dX3_mayRise_42 fl_X3_60 sh_3 rfl ?_
        refine J_iload_n (j := 2) dX3_mayRise_45 rfl rfl ?_
        refine J_iald dX3_mayRise_46 sh_11 ?_
        refine J_aload_n (j := 1) dX3_mayRise_47 rfl rfl ?_
        refine J_getR (b := 3) dX3_mayRise_48 fl_X3_9 sh_63 rfl ?_
        refine J_getR (b := 7) dX3_mayRise_51 fl_X3_63 sh_3 rfl ?_
        refine J_iload_n (j := 0) dX3_mayRise_54 rfl rfl ?_
        refine J_iconst (v := 1) dX3_mayRise_55 (by decide) ?_
        refine J_isub dX3_mayRise_56 ?_
        refine J_iald dX3_mayRise_57 sh_7 ?_
        refine J_icmp_lt (tgt := 65) dX3_mayRise_58 (by decide) ?_ ?_
        · refine J_iconst (v := 0) dX3_mayRise_65 (by decide) ?_
          exact J_zret dX3_mayRise_66 (fun h => h)
        · refine J_iconst (v := 1) dX3_mayRise_61 (by decide) ?_
          refine J_goto (tgt := 66) dX3_mayRise_62 (by decide) ?_
          exact J_zret dX3_mayRise_66 (fun h => h)
theorem t_X3_mayRise_63 (l : Launch) (F : llFix) (d : Nat) (u : llMem) (a0 : Int32) : llCp l F yX3_mayRise cX3_mayRise 3 (some .boolean) d [.ref (F.2.2.1 63), .int a0] u llI (fx_X3_mayRise_63 u a0) := llCp.of (by decide +kernel) (by exact Nat.le_of_ble_eq_true rfl) (fun G h1 h2 => by subst h1; subst h2; exact tj_X3_mayRise_63 u a0)
def fx_X3_mayRiseFrom_63_l4 (u : llMem) (v1 : Int32) (s : Int32 × Int32) : Option ((Int32 × Int32) ⊕ (Int32)) := (if (u.1 3 5) ≤ s.2 then some (.inr s.1) else gI s.2 30 ((if ¬ (rI u 12 s.2) = v1 then fx_X3_mayRiseFrom_63_j39_b4 u v1 s.1 s.2 else (fx_X3_mayRise_63 u s.2).bind (fun r2 => (if r2 = 0 then fx_X3_mayRiseFrom_63_j39_b4 u v1 s.1 s.2 else lt (s.1 + 1) (fun v2_3 => fx_X3_mayRiseFrom_63_j39_b4 u v1 v2_3 s.2))))))
set_option maxRecDepth 20000 in
theorem t_X3_mayRiseFrom_63_l4 {G : llG} {d : Nat} (u : llMem) (v1 : Int32) (s : Int32 × Int32) : llJ G RX3 cX3_mayRiseFrom 4 (some .int) (d + 1) (Sum.elim (fun s' => llJq G 4 4 [(0, .ref (llAd G 63)), (1, .int v1), (2, .int s'.1), (3, .int s'.2)] [] u) (fun e => llJq G 4 45 [(2, .int e)] [] u)) 4 [(0, .ref (llAd G 63)), (1, .int v1), (2, .int s.1), (3, .int s.2)] [] u (fx_X3_mayRiseFrom_63_l4 u v1 s) := by
  unfold fx_X3_mayRiseFrom_63_l4
  refine J_iload_n (j := 3) dX3_mayRiseFrom_4 rfl rfl ?_
  refine J_aload_n (j := 0) dX3_mayRiseFrom_5 rfl rfl ?_
  refine J_getR (b := 3) dX3_mayRiseFrom_6 fl_X3_9 sh_63 rfl ?_
  refine J_getI dX3_mayRiseFrom_9 fl_X3_39 sh_3 rfl ?_
  refine J_icmp_ge (tgt := 45) dX3_mayRiseFrom_12 (by decide) ?_ ?_
  · exact J_cut [2] (lv' := [(2, .int s.1)]) rfl (fun h => h)
  · refine J_aload_n (j := 0) dX3_mayRiseFrom_15 rfl rfl ?_
    refine J_getR (b := 3) dX3_mayRiseFrom_16 fl_X3_9 sh_63 rfl ?_
    refine J_getR (b := 12) dX3_mayRiseFrom_19 fl_X3_54 sh_3 rfl ?_
    refine J_iload_n (j := 3) dX3_mayRiseFrom_22 rfl rfl ?_
    refine J_iald dX3_mayRiseFrom_23 sh_12 ?_
    refine J_iload_n (j := 1) dX3_mayRiseFrom_24 rfl rfl ?_
    refine J_icmp_ne (tgt := 39) dX3_mayRiseFrom_25 (by decide) ?_ ?_
    · refine J_sub [0, 1, 2, 3] (lv' := [(0, .ref (llAd G 63)), (1, .int v1), (2, .int s.1), (3, .int s.2)]) rfl ?_
      exact t_X3_mayRiseFrom_63_j39_b4 u v1 s.1 s.2
    · refine J_aload_n (j := 0) dX3_mayRiseFrom_28 rfl rfl ?_
      refine J_iload_n (j := 3) dX3_mayRiseFrom_29 rfl rfl ?_
      refine J_callVip1 dX3_mayRiseFrom_30 (t_X3_mayRise_63 (llL G) (llFx G) d u s.2) ym_X3_mayRise wd_764 sh_63 rfl (Nat.le_of_ble_eq_true rfl) (fun r2 => ?_)
      refine J_if_eq (tgt := 39) dX3_mayRiseFrom_33 (by decide) ?_ ?_
      · refine J_sub [0, 1, 2, 3] (lv' := [(0, .ref (llAd G 63)), (1, .int v1), (2, .int s.1), (3, .int s.2)]) rfl ?_
        exact t_X3_mayRiseFrom_63_j39_b4 u v1 s.1 s.2
      · refine J_iinc (j := 2) (b := 1) (fun v2_3 => [(2, .int v2_3), (0, .ref (llAd G 63)), (1, .int v1), (3, .int s.2)]) dX3_mayRiseFrom_36 rfl (by decide) (by decide) (fun _ => rfl) (fun v2_3 => ?_)
        refine J_sub [1, 2, 0, 3] (lv' := [(0, .ref (llAd G 63)), (1, .int v1), (2, .int v2_3), (3, .int s.2)]) rfl ?_
        exact t_X3_mayRiseFrom_63_j39_b4 u v1 v2_3 s.2
def fx_X3_mayRiseFrom_63 (u : llMem) (a0 : Int32) : Option Int32 := (loop (fx_X3_mayRiseFrom_63_l4 u a0) llFuel (0, 0)).bind (fun e4 => some e4)
set_option maxRecDepth 20000 in
theorem tj_X3_mayRiseFrom_63 {G : llG} {d : Nat} (u : llMem) (a0 : Int32) : llJ G RX3 cX3_mayRiseFrom 4 (some .int) (d + 1) (fun r => llRet G (llI r) u) 0 [(0, .ref (llAd G 63)), (1, .int a0)] [] u (fx_X3_mayRiseFrom_63 u a0) := by
  unfold fx_X3_mayRiseFrom_63
  refine J_iconst (v := 0) dX3_mayRiseFrom_0 (by decide) ?_
  refine J_istore_n [(2, .int 0), (0, .ref (llAd G 63)), (1, .int a0)] dX3_mayRiseFrom_1 rfl (by decide) rfl ?_
  refine J_iconst (v := 0) dX3_mayRiseFrom_2 (by decide) ?_
  refine J_istore_n [(3, .int 0), (2, .int 0), (0, .ref (llAd G 63)), (1, .int a0)] dX3_mayRiseFrom_3 rfl (by decide) rfl ?_
  refine J_loopE (fun s' => [(0, .ref (llAd G 63)), (1, .int a0), (2, .int s'.1), (3, .int s'.2)]) (fun s' => u) 45 (fun e => [(2, .int e)]) (fun e => u) (fun z => t_X3_mayRiseFrom_63_l4 u a0 z) [2, 3, 1, 0] rfl rfl (fun e4 => ?_)
  refine J_iload_n (j := 0) dX3_mayRiseFrom_45 rfl rfl ?_
  exact J_iret dX3_mayRiseFrom_46 (fun h => h)
theorem t_X3_mayRiseFrom_63 (l : Launch) (F : llFix) (d : Nat) (u : llMem) (a0 : Int32) : llCp l F yX3_mayRiseFrom cX3_mayRiseFrom 4 (some .int) (d + 1) [.ref (F.2.2.1 63), .int a0] u llI (fx_X3_mayRiseFrom_63 u a0) := llCp.of (by decide +kernel) (by exact Nat.le_of_ble_eq_true rfl) (fun G h1 h2 => by subst h1; subst h2; exact tj_X3_mayRiseFrom_63 u a0)
def fx_X3_setNumbers_63 (u : llMem) (a0 : Int32) : Option (llMem × Unit) := (fx_X3_wantingOf_63 u a0).bind (fun r1 => gI a0 4 (lt (if (rI u 6 a0) < r1 then r1 else (rI u 6 a0)) (fun v3_2 => (fx_X3_mayRiseFrom_63 u (a0 + 1)).bind (fun r3 => gI a0 4 (lt (llSI u 64 (Int32.toNatClampNeg a0) (if (if r3 < v3_2 then r3 else v3_2) < r1 then r1 else (if r3 < v3_2 then r3 else v3_2))) (fun u4 => gI a0 4 (gI a0 4 (lt (llSI u4 65 (Int32.toNatClampNeg a0) ((rI u4 64 a0) - r1)) (fun u5 => some (u5, ()))))))))))
set_option maxRecDepth 20000 in
theorem tj_X3_setNumbers_63 {G : llG} {d : Nat} (u : llMem) (a0 : Int32) : llJ G RX3 cX3_setNumbers 4 none (d + 3) (fun r => llRet G (llVd r.2) r.1) 0 [(0, .ref (llAd G 63)), (1, .int a0)] [] u (fx_X3_setNumbers_63 u a0) := by
  unfold fx_X3_setNumbers_63
  refine J_aload_n (j := 0) dX3_setNumbers_0 rfl rfl ?_
  refine J_iload_n (j := 1) dX3_setNumbers_1 rfl rfl ?_
  refine J_callVip1 dX3_setNumbers_2 (t_X3_wantingOf_63 (llL G) (llFx G) d u a0) ym_X3_wantingOf wd_752 sh_63 rfl (Nat.le_of_ble_eq_true rfl) (fun r1 => ?_)
  refine J_istore_n [(2, .int r1), (0, .ref (llAd G 63)), (1, .int a0)] dX3_setNumbers_5 rfl (by decide) rfl ?_
  refine J_aload_n (j := 1) dX3_setNumbers_6 rfl rfl ?_
  refine J_getR (b := 3) dX3_setNumbers_7 fl_X3_9 sh_63 rfl ?_
  refine J_getR (b := 6) dX3_setNumbers_10 fl_X3_104 sh_3 rfl ?_
  refine J_iload_n (j := 2) dX3_setNumbers_13 rfl rfl ?_
  refine J_iald dX3_setNumbers_14 sh_6 ?_
  refine J_iload_n (j := 0) dX3_setNumbers_15 rfl rfl ?_
  refine J_mmax dX3_setNumbers_16 wd_757 wd_758 wd_14 wd_759 (Nat.le_of_ble_eq_true rfl) ?_
  refine J_istore_nL (fun v3_2 => [(3, .int v3_2), (2, .int r1), (0, .ref (llAd G 63)), (1, .int a0)]) dX3_setNumbers_19 rfl (by decide) (fun _ => rfl) (fun v3_2 => ?_)
  refine J_aload_n (j := 2) dX3_setNumbers_20 rfl rfl ?_
  refine J_getR (b := 64) dX3_setNumbers_21 fl_X3_23 sh_63 rfl ?_
  refine J_iload_n (j := 3) dX3_setNumbers_24 rfl rfl ?_
  refine J_iload_n (j := 0) dX3_setNumbers_25 rfl rfl ?_
  refine J_aload_n (j := 2) dX3_setNumbers_26 rfl rfl ?_
  refine J_iload_n (j := 3) dX3_setNumbers_27 rfl rfl ?_
  refine J_iconst (v := 1) dX3_setNumbers_28 (by decide) ?_
  refine J_iadd dX3_setNumbers_29 ?_
  refine J_callVip1 dX3_setNumbers_30 (t_X3_mayRiseFrom_63 (llL G) (llFx G) (d + 1) u (a0 + 1)) ym_X3_mayRiseFrom wd_760 sh_63 rfl (Nat.le_of_ble_eq_true rfl) (fun r3 => ?_)
  refine J_mmin dX3_setNumbers_33 wd_768 wd_561 wd_14 wd_562 (Nat.le_of_ble_eq_true rfl) ?_
  refine J_iload_n (j := 1) dX3_setNumbers_36 rfl rfl ?_
  refine J_mmax dX3_setNumbers_37 wd_757 wd_758 wd_14 wd_759 (Nat.le_of_ble_eq_true rfl) ?_
  refine J_iast dX3_setNumbers_40 sh_64 (fun u4 => ?_)
  refine J_aload_n (j := 2) dX3_setNumbers_41 rfl rfl ?_
  refine J_getR (b := 65) dX3_setNumbers_42 fl_X3_27 sh_63 rfl ?_
  refine J_iload_n (j := 3) dX3_setNumbers_45 rfl rfl ?_
  refine J_aload_n (j := 2) dX3_setNumbers_46 rfl rfl ?_
  refine J_getR (b := 64) dX3_setNumbers_47 fl_X3_23 sh_63 rfl ?_
  refine J_iload_n (j := 3) dX3_setNumbers_50 rfl rfl ?_
  refine J_iald dX3_setNumbers_51 sh_64 ?_
  refine J_iload_n (j := 1) dX3_setNumbers_52 rfl rfl ?_
  refine J_isub dX3_setNumbers_53 ?_
  refine J_iast dX3_setNumbers_54 sh_65 (fun u5 => ?_)
  exact J_vret dX3_setNumbers_55 (fun h => h)
theorem t_X3_setNumbers_63 (l : Launch) (F : llFix) (d : Nat) (u : llMem) (a0 : Int32) : llCt l F yX3_setNumbers cX3_setNumbers 4 none (d + 3) [.ref (F.2.2.1 63), .int a0] u llVd (fx_X3_setNumbers_63 u a0) := llCt.of (by decide +kernel) (by exact Nat.le_of_ble_eq_true rfl) (fun G h1 h2 => by subst h1; subst h2; exact tj_X3_setNumbers_63 u a0)
def fx_X3_weigh_63_l61  (s : llMem × Int32) : Option ((llMem × Int32) ⊕ (llMem)) := (if ((s.1.1 3 0) - 1) ≤ s.2 then some (.inr s.1) else bd (fx_X3_setNumbers_63 s.1 s.2) (fun u5 _ => lt (s.2 + 1) (fun v1_6 => some (.inl (u5, v1_6)))))
set_option maxRecDepth 20000 in
theorem t_X3_weigh_63_l61 {G : llG} {d : Nat}  (s : llMem × Int32) : llJ G RX3 cX3_weigh 2 (some .boolean) (d + 4) (Sum.elim (fun s' => llJq G 2 61 [(0, .ref (llAd G 63)), (1, .int s'.2)] [] s'.1) (fun e => llJq G 2 85 [(0, .ref (llAd G 63))] [] e)) 61 [(0, .ref (llAd G 63)), (1, .int s.2)] [] s.1 (fx_X3_weigh_63_l61 s) := by
  unfold fx_X3_weigh_63_l61
  refine J_iload_n (j := 1) dX3_weigh_61 rfl rfl ?_
  refine J_aload_n (j := 0) dX3_weigh_62 rfl rfl ?_
  refine J_getR (b := 3) dX3_weigh_63 fl_X3_9 sh_63 rfl ?_
  refine J_getI dX3_weigh_66 fl_X3_69 sh_3 rfl ?_
  refine J_iconst (v := 1) dX3_weigh_69 (by decide) ?_
  refine J_isub dX3_weigh_70 ?_
  refine J_icmp_ge (tgt := 85) dX3_weigh_71 (by decide) ?_ ?_
  · exact J_cut [0] (lv' := [(0, .ref (llAd G 63))]) rfl (fun h => h)
  · refine J_aload_n (j := 0) dX3_weigh_74 rfl rfl ?_
    refine J_iload_n (j := 1) dX3_weigh_75 rfl rfl ?_
    refine J_callVv1 dX3_weigh_76 (t_X3_setNumbers_63 (llL G) (llFx G) d s.1 s.2) ym_X3_setNumbers wd_748 sh_63 rfl (Nat.le_of_ble_eq_true rfl) (fun u5 => ?_)
    refine J_iinc (j := 1) (b := 1) (fun v1_6 => [(1, .int v1_6), (0, .ref (llAd G 63))]) dX3_weigh_79 rfl (by decide) (by decide) (fun _ => rfl) (fun v1_6 => ?_)
    refine J_goto (tgt := 61) dX3_weigh_82 (by decide) ?_
    exact J_cut [1, 0] (lv' := [(0, .ref (llAd G 63)), (1, .int v1_6)]) rfl (fun h => h)
def fx_X5_gather_3_44_j39_b5 (u : llMem) (v1 : Int32) (v3 : Int32) (v4 : Int32) : Option ((llMem × Int32 × Int32) ⊕ (llMem × Int32)) := lt (v4 + 1) (fun v4_1 => some (.inl (u, v3, v4_1)))
set_option maxRecDepth 20000 in
theorem t_X5_gather_3_44_j39_b5 {G : llG} {d : Nat} (u : llMem) (v1 : Int32) (v3 : Int32) (v4 : Int32) : llJ G RX5 cX5_gather 5 (some .int) d (Sum.elim (fun s' => llJq G 5 5 [(0, .ref (llAd G 3)), (1, .int v1), (2, .ref (llAd G 44)), (3, .int s'.2.1), (4, .int s'.2.2)] [] s'.1) (fun e => llJq G 5 45 [(3, .int e.2)] [] e.1)) 39 [(0, .ref (llAd G 3)), (1, .int v1), (2, .ref (llAd G 44)), (3, .int v3), (4, .int v4)] [] u (fx_X5_gather_3_44_j39_b5 u v1 v3 v4) := by
  unfold fx_X5_gather_3_44_j39_b5
  refine J_iinc (j := 4) (b := 1) (fun v4_1 => [(4, .int v4_1), (0, .ref (llAd G 3)), (1, .int v1), (2, .ref (llAd G 44)), (3, .int v3)]) dX5_gather_39 rfl (by decide) (by decide) (fun _ => rfl) (fun v4_1 => ?_)
  refine J_goto (tgt := 5) dX5_gather_42 (by decide) ?_
  exact J_cut [1, 2, 3, 4, 0] (lv' := [(0, .ref (llAd G 3)), (1, .int v1), (2, .ref (llAd G 44)), (3, .int v3), (4, .int v4_1)]) rfl (fun h => h)
def fx_X5_gather_3_44_l5 (v1 : Int32) (s : llMem × Int32 × Int32) : Option ((llMem × Int32 × Int32) ⊕ (llMem × Int32)) := (if (s.1.1 3 5) ≤ s.2.2 then some (.inr (s.1, s.2.1)) else gI s.2.2 30 ((if ¬ (rI s.1 12 s.2.2) = v1 then fx_X5_gather_3_44_j39_b5 s.1 v1 s.2.1 s.2.2 else (if 12 ≤ s.2.1 then fx_X5_gather_3_44_j39_b5 s.1 v1 s.2.1 s.2.2 else gI s.2.1 12 (lt (llSI s.1 44 (Int32.toNatClampNeg s.2.1) s.2.2) (fun u2 => lt (s.2.1 + 1) (fun v3_3 => fx_X5_gather_3_44_j39_b5 u2 v1 v3_3 s.2.2)))))))
set_option maxRecDepth 20000 in
theorem t_X5_gather_3_44_l5 {G : llG} {d : Nat} (v1 : Int32) (s : llMem × Int32 × Int32) : llJ G RX5 cX5_gather 5 (some .int) d (Sum.elim (fun s' => llJq G 5 5 [(0, .ref (llAd G 3)), (1, .int v1), (2, .ref (llAd G 44)), (3, .int s'.2.1), (4, .int s'.2.2)] [] s'.1) (fun e => llJq G 5 45 [(3, .int e.2)] [] e.1)) 5 [(0, .ref (llAd G 3)), (1, .int v1), (2, .ref (llAd G 44)), (3, .int s.2.1), (4, .int s.2.2)] [] s.1 (fx_X5_gather_3_44_l5 v1 s) := by
  unfold fx_X5_gather_3_44_l5
  refine J_iload (j := 4) dX5_gather_5 rfl ?_
  refine J_aload_n (j := 0) dX5_gather_7 rfl rfl ?_
  refine J_getI dX5_gather_8 fl_X5_53 sh_3 rfl ?_
  refine J_icmp_ge (tgt := 45) dX5_gather_11 (by decide) ?_ ?_
  · exact J_cut [3] (lv' := [(3, .int s.2.1)]) rfl (fun h => h)
  · refine J_aload_n (j := 0) dX5_gather_14 rfl rfl ?_
    refine J_getR (b := 12) dX5_gather_15 fl_X5_37 sh_3 rfl ?_
    refine J_iload (j := 4) dX5_gather_18 rfl ?_
    refine J_iald dX5_gather_20 sh_12 ?_
    refine J_iload_n (j := 1) dX5_gather_21 rfl rfl ?_
    refine J_icmp_ne (tgt := 39) dX5_gather_22 (by decide) ?_ ?_
    · refine J_sub [0, 1, 2, 3, 4] (lv' := [(0, .ref (llAd G 3)), (1, .int v1), (2, .ref (llAd G 44)), (3, .int s.2.1), (4, .int s.2.2)]) rfl ?_
      exact t_X5_gather_3_44_j39_b5 s.1 v1 s.2.1 s.2.2
    · refine J_iload_n (j := 3) dX5_gather_25 rfl rfl ?_
      refine J_aload_n (j := 2) dX5_gather_26 rfl rfl ?_
      refine J_alen (v := 12) dX5_gather_27 sh_44 (by decide) (by decide) ?_
      refine J_icmp_ge (tgt := 39) dX5_gather_28 (by decide) ?_ ?_
      · refine J_sub [0, 1, 2, 3, 4] (lv' := [(0, .ref (llAd G 3)), (1, .int v1), (2, .ref (llAd G 44)), (3, .int s.2.1), (4, .int s.2.2)]) rfl ?_
        exact t_X5_gather_3_44_j39_b5 s.1 v1 s.2.1 s.2.2
      · refine J_aload_n (j := 2) dX5_gather_31 rfl rfl ?_
        refine J_iload_n (j := 3) dX5_gather_32 rfl rfl ?_
        refine J_iload (j := 4) dX5_gather_33 rfl ?_
        refine J_iast dX5_gather_35 sh_44 (fun u2 => ?_)
        refine J_iinc (j := 3) (b := 1) (fun v3_3 => [(3, .int v3_3), (0, .ref (llAd G 3)), (1, .int v1), (2, .ref (llAd G 44)), (4, .int s.2.2)]) dX5_gather_36 rfl (by decide) (by decide) (fun _ => rfl) (fun v3_3 => ?_)
        refine J_sub [1, 2, 3, 0, 4] (lv' := [(0, .ref (llAd G 3)), (1, .int v1), (2, .ref (llAd G 44)), (3, .int v3_3), (4, .int s.2.2)]) rfl ?_
        exact t_X5_gather_3_44_j39_b5 u2 v1 v3_3 s.2.2
def fx_X5_gather_3_44 (u : llMem) (a0 : Int32) : Option (llMem × Int32) := (loop (fx_X5_gather_3_44_l5 a0) llFuel (u, 0, 0)).bind (fun e4 => some (e4.1, e4.2))
set_option maxRecDepth 20000 in
theorem tj_X5_gather_3_44 {G : llG} {d : Nat} (u : llMem) (a0 : Int32) : llJ G RX5 cX5_gather 5 (some .int) d (fun r => llRet G (llI r.2) r.1) 0 [(0, .ref (llAd G 3)), (1, .int a0), (2, .ref (llAd G 44))] [] u (fx_X5_gather_3_44 u a0) := by
  unfold fx_X5_gather_3_44
  refine J_iconst (v := 0) dX5_gather_0 (by decide) ?_
  refine J_istore_n [(3, .int 0), (0, .ref (llAd G 3)), (1, .int a0), (2, .ref (llAd G 44))] dX5_gather_1 rfl (by decide) rfl ?_
  refine J_iconst (v := 0) dX5_gather_2 (by decide) ?_
  refine J_istore [(4, .int 0), (3, .int 0), (0, .ref (llAd G 3)), (1, .int a0), (2, .ref (llAd G 44))] dX5_gather_3 (by decide) rfl ?_
  refine J_loopE (fun s' => [(0, .ref (llAd G 3)), (1, .int a0), (2, .ref (llAd G 44)), (3, .int s'.2.1), (4, .int s'.2.2)]) (fun s' => s'.1) 45 (fun e => [(3, .int e.2)]) (fun e => e.1) (fun z => t_X5_gather_3_44_l5 a0 z) [2, 3, 4, 1, 0] rfl rfl (fun e4 => ?_)
  refine J_iload_n (j := 0) dX5_gather_45 rfl rfl ?_
  exact J_iret dX5_gather_46 (fun h => h)
theorem t_X5_gather_3_44 (l : Launch) (F : llFix) (d : Nat) (u : llMem) (a0 : Int32) : llCt l F yX5_gather cX5_gather 5 (some .int) d [.ref (F.2.2.1 3), .int a0, .ref (F.2.2.1 44)] u llI (fx_X5_gather_3_44 u a0) := llCt.of (by decide +kernel) (by exact Nat.le_of_ble_eq_true rfl) (fun G h1 h2 => by subst h1; subst h2; exact tj_X5_gather_3_44 u a0)
def fx_X7_pointsOf_14 (u : llMem) (a0 : Int32) : Option Int32 := gI a0 30 (gI a0 30 (gI a0 30 (some (((3 * (rI u 22 a0)) + (rI u 23 a0)) - (rI u 20 a0)))))
set_option maxRecDepth 20000 in
theorem tj_X7_pointsOf_14 {G : llG} {d : Nat} (u : llMem) (a0 : Int32) : llJ G RX7 cX7_pointsOf 2 (some .int) d (fun r => llRet G (llI r) u) 0 [(0, .ref (llAd G 14)), (1, .int a0)] [] u (fx_X7_pointsOf_14 u a0) := by
  unfold fx_X7_pointsOf_14
  refine J_iconst (v := 3) dX7_pointsOf_0 (by decide) ?_
  refine J_aload_n (j := 0) dX7_pointsOf_1 rfl rfl ?_
  refine J_getR (b := 22) dX7_pointsOf_2 fl_X7_39 sh_14 rfl ?_
  refine J_iload_n (j := 1) dX7_pointsOf_5 rfl rfl ?_
  refine J_iald dX7_pointsOf_6 sh_22 ?_
  refine J_imul dX7_pointsOf_7 ?_
  refine J_aload_n (j := 0) dX7_pointsOf_8 rfl rfl ?_
  refine J_getR (b := 23) dX7_pointsOf_9 fl_X7_42 sh_14 rfl ?_
  refine J_iload_n (j := 1) dX7_pointsOf_12 rfl rfl ?_
  refine J_iald dX7_pointsOf_13 sh_23 ?_
  refine J_iadd dX7_pointsOf_14 ?_
  refine J_aload_n (j := 0) dX7_pointsOf_15 rfl rfl ?_
  refine J_getR (b := 20) dX7_pointsOf_16 fl_X7_33 sh_14 rfl ?_
  refine J_iload_n (j := 1) dX7_pointsOf_19 rfl rfl ?_
  refine J_iald dX7_pointsOf_20 sh_20 ?_
  refine J_isub dX7_pointsOf_21 ?_
  exact J_iret dX7_pointsOf_22 (fun h => h)
theorem t_X7_pointsOf_14 (l : Launch) (F : llFix) (d : Nat) (u : llMem) (a0 : Int32) : llCp l F yX7_pointsOf cX7_pointsOf 2 (some .int) d [.ref (F.2.2.1 14), .int a0] u llI (fx_X7_pointsOf_14 u a0) := llCp.of (by decide +kernel) (by exact Nat.le_of_ble_eq_true rfl) (fun G h1 h2 => by subst h1; subst h2; exact tj_X7_pointsOf_14 u a0)
def fx_X8_arrange_43_l18  (s : llMem × Int32) : Option ((llMem × Int32) ⊕ (llMem)) := (if (s.1.1 43 2) ≤ s.2 then some (.inr s.1) else gI s.2 12 (gI s.2 12 ((fx_X7_pointsOf_14 s.1 (rI s.1 44 s.2)).bind (fun r4 => gI (rI s.1 44 s.2) 30 (lt (llSI s.1 46 (Int32.toNatClampNeg (rI s.1 44 s.2)) r4) (fun u5 => lt (s.2 + 1) (fun v2_6 => some (.inl (u5, v2_6)))))))))
set_option maxRecDepth 20000 in
theorem t_X8_arrange_43_l18 {G : llG} {d : Nat}  (s : llMem × Int32) : llJ G RX8 cX8_arrange 3 none (d + 3) (Sum.elim (fun s' => llJq G 3 18 [(0, .ref (llAd G 43)), (2, .int s'.2)] [] s'.1) (fun e => llJq G 3 56 [(0, .ref (llAd G 43))] [] e)) 18 [(0, .ref (llAd G 43)), (2, .int s.2)] [] s.1 (fx_X8_arrange_43_l18 s) := by
  unfold fx_X8_arrange_43_l18
  refine J_iload_n (j := 1) dX8_arrange_18 rfl rfl ?_
  refine J_aload_n (j := 0) dX8_arrange_19 rfl rfl ?_
  refine J_getI dX8_arrange_20 fl_X8_38 sh_43 rfl ?_
  refine J_icmp_ge (tgt := 56) dX8_arrange_23 (by decide) ?_ ?_
  · exact J_cut [0] (lv' := [(0, .ref (llAd G 43))]) rfl (fun h => h)
  · refine J_aload_n (j := 0) dX8_arrange_26 rfl rfl ?_
    refine J_getR (b := 46) dX8_arrange_27 fl_X8_26 sh_43 rfl ?_
    refine J_aload_n (j := 0) dX8_arrange_30 rfl rfl ?_
    refine J_getR (b := 44) dX8_arrange_31 fl_X8_19 sh_43 rfl ?_
    refine J_iload_n (j := 1) dX8_arrange_34 rfl rfl ?_
    refine J_iald dX8_arrange_35 sh_44 ?_
    refine J_aload_n (j := 0) dX8_arrange_36 rfl rfl ?_
    refine J_getR (b := 14) dX8_arrange_37 fl_X8_15 sh_43 rfl ?_
    refine J_aload_n (j := 0) dX8_arrange_40 rfl rfl ?_
    refine J_getR (b := 44) dX8_arrange_41 fl_X8_19 sh_43 rfl ?_
    refine J_iload_n (j := 1) dX8_arrange_44 rfl rfl ?_
    refine J_iald dX8_arrange_45 sh_44 ?_
    refine J_callVip1 dX8_arrange_46 (t_X7_pointsOf_14 (llL G) (llFx G) (d + 2) s.1 (rI s.1 44 s.2)) ym_X7_pointsOf wd_777 sh_14 rfl (Nat.le_of_ble_eq_true rfl) (fun r4 => ?_)
    refine J_iast dX8_arrange_49 sh_46 (fun u5 => ?_)
    refine J_iinc (j := 1) (b := 1) (fun v2_6 => [(2, .int v2_6), (0, .ref (llAd G 43))]) dX8_arrange_50 rfl (by decide) (by decide) (fun _ => rfl) (fun v2_6 => ?_)
    refine J_goto (tgt := 18) dX8_arrange_53 (by decide) ?_
    exact J_cut [1, 0] (lv' := [(0, .ref (llAd G 43)), (2, .int v2_6)]) rfl (fun h => h)
def fx_X8_rankNow_43_j55_b4 (u : llMem) (v1 : Int32) (v2 : Int32) (v3 : Int32) : Option ((Int32 × Int32) ⊕ (Int32)) := lt (v3 + 1) (fun v3_1 => some (.inl (v2, v3_1)))
set_option maxRecDepth 20000 in
theorem t_X8_rankNow_43_j55_b4 {G : llG} {d : Nat} (u : llMem) (v1 : Int32) (v2 : Int32) (v3 : Int32) : llJ G RX8 cX8_rankNow 4 (some .int) (d + 2) (Sum.elim (fun s' => llJq G 4 4 [(0, .ref (llAd G 43)), (1, .int v1), (2, .int s'.1), (3, .int s'.2)] [] u) (fun e => llJq G 4 61 [(2, .int e)] [] u)) 55 [(0, .ref (llAd G 43)), (1, .int v1), (2, .int v2), (3, .int v3)] [] u (fx_X8_rankNow_43_j55_b4 u v1 v2 v3) := by
  unfold fx_X8_rankNow_43_j55_b4
  refine J_iinc (j := 3) (b := 1) (fun v3_1 => [(3, .int v3_1), (0, .ref (llAd G 43)), (1, .int v1), (2, .int v2)]) dX8_rankNow_55 rfl (by decide) (by decide) (fun _ => rfl) (fun v3_1 => ?_)
  refine J_goto (tgt := 4) dX8_rankNow_58 (by decide) ?_
  exact J_cut [1, 2, 3, 0] (lv' := [(0, .ref (llAd G 43)), (1, .int v1), (2, .int v2), (3, .int v3_1)]) rfl (fun h => h)
def fx_X8_outranks_43_j60 (u : llMem) (v1 : Int32) (v2 : Int32) (v3 : Int32) : Option Int32 := (if v3 = 0 then (if v2 ≤ v1 then gB 0 (some 0) else gB 1 (some 1)) else (if v3 ≤ 0 then gB 0 (some 0) else gB 1 (some 1)))
set_option maxRecDepth 20000 in
theorem t_X8_outranks_43_j60 {G : llG} {d : Nat} (u : llMem) (v1 : Int32) (v2 : Int32) (v3 : Int32) : llJ G RX8 cX8_outranks 4 (some .boolean) (d + 1) (fun r => llRet G (llI r) u) 60 [(1, .int v1), (2, .int v2), (3, .int v3)] [] u (fx_X8_outranks_43_j60 u v1 v2 v3) := by
  unfold fx_X8_outranks_43_j60
  refine J_iload_n (j := 2) dX8_outranks_60 rfl rfl ?_
  refine J_if_eq (tgt := 76) dX8_outranks_61 (by decide) ?_ ?_
  · refine J_iload_n (j := 0) dX8_outranks_76 rfl rfl ?_
    refine J_iload_n (j := 1) dX8_outranks_77 rfl rfl ?_
    refine J_icmp_ge (tgt := 85) dX8_outranks_78 (by decide) ?_ ?_
    · refine J_iconst (v := 0) dX8_outranks_85 (by decide) ?_
      exact J_zret dX8_outranks_86 (fun h => h)
    · refine J_iconst (v := 1) dX8_outranks_81 (by decide) ?_
      refine J_goto (tgt := 86) dX8_outranks_82 (by decide) ?_
      exact J_zret dX8_outranks_86 (fun h => h)
  · refine J_iload_n (j := 2) dX8_outranks_64 rfl rfl ?_
    refine J_if_le (tgt := 72) dX8_outranks_65 (by decide) ?_ ?_
    · refine J_iconst (v := 0) dX8_outranks_72 (by decide) ?_
      refine J_goto (tgt := 86) dX8_outranks_73 (by decide) ?_
      exact J_zret dX8_outranks_86 (fun h => h)
    · refine J_iconst (v := 1) dX8_outranks_68 (by decide) ?_
      refine J_goto (tgt := 86) dX8_outranks_69 (by decide) ?_
      exact J_zret dX8_outranks_86 (fun h => h)
def fx_X8_outranks_43_j36 (u : llMem) (v1 : Int32) (v2 : Int32) (v3 : Int32) : Option Int32 := (if ¬ v3 = 0 then fx_X8_outranks_43_j60 u v1 v2 v3 else gI v1 30 (gI v2 30 (lt ((rI u 24 v1) - (rI u 24 v2)) (fun v3_2 => fx_X8_outranks_43_j60 u v1 v2 v3_2))))
set_option maxRecDepth 20000 in
theorem t_X8_outranks_43_j36 {G : llG} {d : Nat} (u : llMem) (v1 : Int32) (v2 : Int32) (v3 : Int32) : llJ G RX8 cX8_outranks 4 (some .boolean) (d + 1) (fun r => llRet G (llI r) u) 36 [(0, .ref (llAd G 43)), (1, .int v1), (2, .int v2), (3, .int v3)] [] u (fx_X8_outranks_43_j36 u v1 v2 v3) := by
  unfold fx_X8_outranks_43_j36
  refine J_iload_n (j := 3) dX8_outranks_36 rfl rfl ?_
  refine J_if_ne (tgt := 60) dX8_outranks_37 (by decide) ?_ ?_
  · refine J_sub [1, 2, 3] (lv' := [(1, .int v1), (2, .int v2), (3, .int v3)]) rfl ?_
    exact t_X8_outranks_43_j60 u v1 v2 v3
  · refine J_aload_n (j := 0) dX8_outranks_40 rfl rfl ?_
    refine J_getR (b := 14) dX8_outranks_41 fl_X8_15 sh_43 rfl ?_
    refine J_getR (b := 24) dX8_outranks_44 fl_X8_65 sh_14 rfl ?_
    refine J_iload_n (j := 1) dX8_outranks_47 rfl rfl ?_
    refine J_iald dX8_outranks_48 sh_24 ?_
    refine J_aload_n (j := 0) dX8_outranks_49 rfl rfl ?_
    refine J_getR (b := 14) dX8_outranks_50 fl_X8_15 sh_43 rfl ?_
    refine J_getR (b := 24) dX8_outranks_53 fl_X8_65 sh_14 rfl ?_
    refine J_iload_n (j := 2) dX8_outranks_56 rfl rfl ?_
    refine J_iald dX8_outranks_57 sh_24 ?_
    refine J_isub dX8_outranks_58 ?_
    refine J_istore_nL (fun v3_2 => [(3, .int v3_2), (0, .ref (llAd G 43)), (1, .int v1), (2, .int v2)]) dX8_outranks_59 rfl (by decide) (fun _ => rfl) (fun v3_2 => ?_)
    refine J_sub [2, 3, 0] (lv' := [(1, .int v1), (2, .int v2), (3, .int v3_2)]) rfl ?_
    exact t_X8_outranks_43_j60 u v1 v2 v3_2
def fx_X7_goalsLessAgainst_14 (u : llMem) (a0 : Int32) : Option Int32 := gI a0 30 (gI a0 30 (some ((rI u 24 a0) - (rI u 25 a0))))
set_option maxRecDepth 20000 in
theorem tj_X7_goalsLessAgainst_14 {G : llG} {d : Nat} (u : llMem) (a0 : Int32) : llJ G RX7 cX7_goalsLessAgainst 2 (some .int) d (fun r => llRet G (llI r) u) 0 [(0, .ref (llAd G 14)), (1, .int a0)] [] u (fx_X7_goalsLessAgainst_14 u a0) := by
  unfold fx_X7_goalsLessAgainst_14
  refine J_aload_n (j := 0) dX7_goalsLessAgainst_0 rfl rfl ?_
  refine J_getR (b := 24) dX7_goalsLessAgainst_1 fl_X7_45 sh_14 rfl ?_
  refine J_iload_n (j := 1) dX7_goalsLessAgainst_4 rfl rfl ?_
  refine J_iald dX7_goalsLessAgainst_5 sh_24 ?_
  refine J_aload_n (j := 0) dX7_goalsLessAgainst_6 rfl rfl ?_
  refine J_getR (b := 25) dX7_goalsLessAgainst_7 fl_X7_48 sh_14 rfl ?_
  refine J_iload_n (j := 1) dX7_goalsLessAgainst_10 rfl rfl ?_
  refine J_iald dX7_goalsLessAgainst_11 sh_25 ?_
  refine J_isub dX7_goalsLessAgainst_12 ?_
  exact J_iret dX7_goalsLessAgainst_13 (fun h => h)
theorem t_X7_goalsLessAgainst_14 (l : Launch) (F : llFix) (d : Nat) (u : llMem) (a0 : Int32) : llCp l F yX7_goalsLessAgainst cX7_goalsLessAgainst 2 (some .int) d [.ref (F.2.2.1 14), .int a0] u llI (fx_X7_goalsLessAgainst_14 u a0) := llCp.of (by decide +kernel) (by exact Nat.le_of_ble_eq_true rfl) (fun G h1 h2 => by subst h1; subst h2; exact tj_X7_goalsLessAgainst_14 u a0)
def fx_X8_outranks_43 (u : llMem) (a0 : Int32) (a1 : Int32) : Option Int32 := gI a0 30 (gI a1 30 (lt ((rI u 46 a0) - (rI u 46 a1)) (fun v3_1 => (if ¬ v3_1 = 0 then fx_X8_outranks_43_j36 u a0 a1 v3_1 else (fx_X7_goalsLessAgainst_14 u a0).bind (fun r3 => (fx_X7_goalsLessAgainst_14 u a1).bind (fun r4 => lt (r3 - r4) (fun v3_5 => fx_X8_outranks_43_j36 u a0 a1 v3_5)))))))
set_option maxRecDepth 20000 in
theorem tj_X8_outranks_43 {G : llG} {d : Nat} (u : llMem) (a0 : Int32) (a1 : Int32) : llJ G RX8 cX8_outranks 4 (some .boolean) (d + 1) (fun r => llRet G (llI r) u) 0 [(0, .ref (llAd G 43)), (1, .int a0), (2, .int a1)] [] u (fx_X8_outranks_43 u a0 a1) := by
  unfold fx_X8_outranks_43
  refine J_aload_n (j := 0) dX8_outranks_0 rfl rfl ?_
  refine J_getR (b := 46) dX8_outranks_1 fl_X8_26 sh_43 rfl ?_
  refine J_iload_n (j := 1) dX8_outranks_4 rfl rfl ?_
  refine J_iald dX8_outranks_5 sh_46 ?_
  refine J_aload_n (j := 0) dX8_outranks_6 rfl rfl ?_
  refine J_getR (b := 46) dX8_outranks_7 fl_X8_26 sh_43 rfl ?_
  refine J_iload_n (j := 2) dX8_outranks_10 rfl rfl ?_
  refine J_iald dX8_outranks_11 sh_46 ?_
  refine J_isub dX8_outranks_12 ?_
  refine J_istore_nL (fun v3_1 => [(3, .int v3_1), (0, .ref (llAd G 43)), (1, .int a0), (2, .int a1)]) dX8_outranks_13 rfl (by decide) (fun _ => rfl) (fun v3_1 => ?_)
  refine J_iload_n (j := 0) dX8_outranks_14 rfl rfl ?_
  refine J_if_ne (tgt := 36) dX8_outranks_15 (by decide) ?_ ?_
  · refine J_sub [1, 2, 3, 0] (lv' := [(0, .ref (llAd G 43)), (1, .int a0), (2, .int a1), (3, .int v3_1)]) rfl ?_
    exact t_X8_outranks_43_j36 u a0 a1 v3_1
  · refine J_aload_n (j := 1) dX8_outranks_18 rfl rfl ?_
    refine J_getR (b := 14) dX8_outranks_19 fl_X8_15 sh_43 rfl ?_
    refine J_iload_n (j := 2) dX8_outranks_22 rfl rfl ?_
    refine J_callVip1 dX8_outranks_23 (t_X7_goalsLessAgainst_14 (llL G) (llFx G) d u a0) ym_X7_goalsLessAgainst wd_789 sh_14 rfl (Nat.le_of_ble_eq_true rfl) (fun r3 => ?_)
    refine J_aload_n (j := 1) dX8_outranks_26 rfl rfl ?_
    refine J_getR (b := 14) dX8_outranks_27 fl_X8_15 sh_43 rfl ?_
    refine J_iload_n (j := 3) dX8_outranks_30 rfl rfl ?_
    refine J_callVip1 dX8_outranks_31 (t_X7_goalsLessAgainst_14 (llL G) (llFx G) d u a1) ym_X7_goalsLessAgainst wd_789 sh_14 rfl (Nat.le_of_ble_eq_true rfl) (fun r4 => ?_)
    refine J_isub dX8_outranks_34 ?_
    refine J_istore_nL (fun v3_5 => [(3, .int v3_5), (0, .ref (llAd G 43)), (1, .int a0), (2, .int a1)]) dX8_outranks_35 rfl (by decide) (fun _ => rfl) (fun v3_5 => ?_)
    refine J_sub [1, 2, 3, 0] (lv' := [(0, .ref (llAd G 43)), (1, .int a0), (2, .int a1), (3, .int v3_5)]) rfl ?_
    exact t_X8_outranks_43_j36 u a0 a1 v3_5
theorem t_X8_outranks_43 (l : Launch) (F : llFix) (d : Nat) (u : llMem) (a0 : Int32) (a1 : Int32) : llCp l F yX8_outranks cX8_outranks 4 (some .boolean) (d + 1) [.ref (F.2.2.1 43), .int a0, .int a1] u llI (fx_X8_outranks_43 u a0 a1) := llCp.of (by decide +kernel) (by exact Nat.le_of_ble_eq_true rfl) (fun G h1 h2 => by subst h1; subst h2; exact tj_X8_outranks_43 u a0 a1)
def fx_X8_rankNow_43_l4 (u : llMem) (v1 : Int32) (s : Int32 × Int32) : Option ((Int32 × Int32) ⊕ (Int32)) := (if (u.1 43 2) ≤ s.2 then some (.inr s.1) else gI s.2 12 (gI (rI u 44 s.2) 30 (gI v1 30 ((if ¬ (rI u 13 (rI u 44 s.2)) = (rI u 13 v1) then fx_X8_rankNow_43_j55_b4 u v1 s.1 s.2 else gI s.2 12 ((fx_X8_outranks_43 u (rI u 44 s.2) v1).bind (fun r2 => (if r2 = 0 then fx_X8_rankNow_43_j55_b4 u v1 s.1 s.2 else lt (s.1 + 1) (fun v2_3 => fx_X8_rankNow_43_j55_b4 u v1 v2_3 s.2)))))))))
set_option maxRecDepth 20000 in
theorem t_X8_rankNow_43_l4 {G : llG} {d : Nat} (u : llMem) (v1 : Int32) (s : Int32 × Int32) : llJ G RX8 cX8_rankNow 4 (some .int) (d + 2) (Sum.elim (fun s' => llJq G 4 4 [(0, .ref (llAd G 43)), (1, .int v1), (2, .int s'.1), (3, .int s'.2)] [] u) (fun e => llJq G 4 61 [(2, .int e)] [] u)) 4 [(0, .ref (llAd G 43)), (1, .int v1), (2, .int s.1), (3, .int s.2)] [] u (fx_X8_rankNow_43_l4 u v1 s) := by
  unfold fx_X8_rankNow_43_l4
  refine J_iload_n (j := 3) dX8_rankNow_4 rfl rfl ?_
  refine J_aload_n (j := 0) dX8_rankNow_5 rfl rfl ?_
  refine J_getI dX8_rankNow_6 fl_X8_38 sh_43 rfl ?_
  refine J_icmp_ge (tgt := 61) dX8_rankNow_9 (by decide) ?_ ?_
  · exact J_cut [2] (lv' := [(2, .int s.1)]) rfl (fun h => h)
  · refine J_aload_n (j := 0) dX8_rankNow_12 rfl rfl ?_
    refine J_getR (b := 3) dX8_rankNow_13 fl_X8_9 sh_43 rfl ?_
    refine J_getR (b := 13) dX8_rankNow_16 fl_X8_55 sh_3 rfl ?_
    refine J_aload_n (j := 0) dX8_rankNow_19 rfl rfl ?_
    refine J_getR (b := 44) dX8_rankNow_20 fl_X8_19 sh_43 rfl ?_
    refine J_iload_n (j := 3) dX8_rankNow_23 rfl rfl ?_
    refine J_iald dX8_rankNow_24 sh_44 ?_
    refine J_iald dX8_rankNow_25 sh_13 ?_
    refine J_aload_n (j := 0) dX8_rankNow_26 rfl rfl ?_
    refine J_getR (b := 3) dX8_rankNow_27 fl_X8_9 sh_43 rfl ?_
    refine J_getR (b := 13) dX8_rankNow_30 fl_X8_55 sh_3 rfl ?_
    refine J_iload_n (j := 1) dX8_rankNow_33 rfl rfl ?_
    refine J_iald dX8_rankNow_34 sh_13 ?_
    refine J_icmp_ne (tgt := 55) dX8_rankNow_35 (by decide) ?_ ?_
    · refine J_sub [0, 1, 2, 3] (lv' := [(0, .ref (llAd G 43)), (1, .int v1), (2, .int s.1), (3, .int s.2)]) rfl ?_
      exact t_X8_rankNow_43_j55_b4 u v1 s.1 s.2
    · refine J_aload_n (j := 0) dX8_rankNow_38 rfl rfl ?_
      refine J_aload_n (j := 0) dX8_rankNow_39 rfl rfl ?_
      refine J_getR (b := 44) dX8_rankNow_40 fl_X8_19 sh_43 rfl ?_
      refine J_iload_n (j := 3) dX8_rankNow_43 rfl rfl ?_
      refine J_iald dX8_rankNow_44 sh_44 ?_
      refine J_iload_n (j := 1) dX8_rankNow_45 rfl rfl ?_
      refine J_callVip2 dX8_rankNow_46 (t_X8_outranks_43 (llL G) (llFx G) d u (rI u 44 s.2) v1) ym_X8_outranks wd_785 sh_43 rfl (Nat.le_of_ble_eq_true rfl) (fun r2 => ?_)
      refine J_if_eq (tgt := 55) dX8_rankNow_49 (by decide) ?_ ?_
      · refine J_sub [0, 1, 2, 3] (lv' := [(0, .ref (llAd G 43)), (1, .int v1), (2, .int s.1), (3, .int s.2)]) rfl ?_
        exact t_X8_rankNow_43_j55_b4 u v1 s.1 s.2
      · refine J_iinc (j := 2) (b := 1) (fun v2_3 => [(2, .int v2_3), (0, .ref (llAd G 43)), (1, .int v1), (3, .int s.2)]) dX8_rankNow_52 rfl (by decide) (by decide) (fun _ => rfl) (fun v2_3 => ?_)
        refine J_sub [1, 2, 0, 3] (lv' := [(0, .ref (llAd G 43)), (1, .int v1), (2, .int v2_3), (3, .int s.2)]) rfl ?_
        exact t_X8_rankNow_43_j55_b4 u v1 v2_3 s.2
def fx_X8_rankNow_43 (u : llMem) (a0 : Int32) : Option Int32 := (loop (fx_X8_rankNow_43_l4 u a0) llFuel (0, 0)).bind (fun e4 => some (e4 + 1))
set_option maxRecDepth 20000 in
theorem tj_X8_rankNow_43 {G : llG} {d : Nat} (u : llMem) (a0 : Int32) : llJ G RX8 cX8_rankNow 4 (some .int) (d + 2) (fun r => llRet G (llI r) u) 0 [(0, .ref (llAd G 43)), (1, .int a0)] [] u (fx_X8_rankNow_43 u a0) := by
  unfold fx_X8_rankNow_43
  refine J_iconst (v := 0) dX8_rankNow_0 (by decide) ?_
  refine J_istore_n [(2, .int 0), (0, .ref (llAd G 43)), (1, .int a0)] dX8_rankNow_1 rfl (by decide) rfl ?_
  refine J_iconst (v := 0) dX8_rankNow_2 (by decide) ?_
  refine J_istore_n [(3, .int 0), (2, .int 0), (0, .ref (llAd G 43)), (1, .int a0)] dX8_rankNow_3 rfl (by decide) rfl ?_
  refine J_loopE (fun s' => [(0, .ref (llAd G 43)), (1, .int a0), (2, .int s'.1), (3, .int s'.2)]) (fun s' => u) 61 (fun e => [(2, .int e)]) (fun e => u) (fun z => t_X8_rankNow_43_l4 u a0 z) [2, 3, 1, 0] rfl rfl (fun e4 => ?_)
  refine J_iload_n (j := 0) dX8_rankNow_61 rfl rfl ?_
  refine J_iconst (v := 1) dX8_rankNow_62 (by decide) ?_
  refine J_iadd dX8_rankNow_63 ?_
  exact J_iret dX8_rankNow_64 (fun h => h)
theorem t_X8_rankNow_43 (l : Launch) (F : llFix) (d : Nat) (u : llMem) (a0 : Int32) : llCp l F yX8_rankNow cX8_rankNow 4 (some .int) (d + 2) [.ref (F.2.2.1 43), .int a0] u llI (fx_X8_rankNow_43 u a0) := llCp.of (by decide +kernel) (by exact Nat.le_of_ble_eq_true rfl) (fun G h1 h2 => by subst h1; subst h2; exact tj_X8_rankNow_43 u a0)
def fx_X8_arrange_43_l58  (s : llMem × Int32) : Option ((llMem × Int32) ⊕ (llMem)) := (if (s.1.1 43 2) ≤ s.2 then some (.inr s.1) else gI s.2 12 (gI s.2 12 ((fx_X8_rankNow_43 s.1 (rI s.1 44 s.2)).bind (fun r8 => gI (rI s.1 44 s.2) 30 (lt (llSI s.1 45 (Int32.toNatClampNeg (rI s.1 44 s.2)) r8) (fun u9 => lt (s.2 + 1) (fun v2_10 => some (.inl (u9, v2_10)))))))))
set_option maxRecDepth 20000 in
theorem t_X8_arrange_43_l58 {G : llG} {d : Nat}  (s : llMem × Int32) : llJ G RX8 cX8_arrange 3 none (d + 3) (Sum.elim (fun s' => llJq G 3 58 [(0, .ref (llAd G 43)), (2, .int s'.2)] [] s'.1) (fun e => llJq G 3 93 [(0, .ref (llAd G 43))] [] e)) 58 [(0, .ref (llAd G 43)), (2, .int s.2)] [] s.1 (fx_X8_arrange_43_l58 s) := by
  unfold fx_X8_arrange_43_l58
  refine J_iload_n (j := 1) dX8_arrange_58 rfl rfl ?_
  refine J_aload_n (j := 0) dX8_arrange_59 rfl rfl ?_
  refine J_getI dX8_arrange_60 fl_X8_38 sh_43 rfl ?_
  refine J_icmp_ge (tgt := 93) dX8_arrange_63 (by decide) ?_ ?_
  · exact J_cut [0] (lv' := [(0, .ref (llAd G 43))]) rfl (fun h => h)
  · refine J_aload_n (j := 0) dX8_arrange_66 rfl rfl ?_
    refine J_getR (b := 45) dX8_arrange_67 fl_X8_23 sh_43 rfl ?_
    refine J_aload_n (j := 0) dX8_arrange_70 rfl rfl ?_
    refine J_getR (b := 44) dX8_arrange_71 fl_X8_19 sh_43 rfl ?_
    refine J_iload_n (j := 1) dX8_arrange_74 rfl rfl ?_
    refine J_iald dX8_arrange_75 sh_44 ?_
    refine J_aload_n (j := 0) dX8_arrange_76 rfl rfl ?_
    refine J_aload_n (j := 0) dX8_arrange_77 rfl rfl ?_
    refine J_getR (b := 44) dX8_arrange_78 fl_X8_19 sh_43 rfl ?_
    refine J_iload_n (j := 1) dX8_arrange_81 rfl rfl ?_
    refine J_iald dX8_arrange_82 sh_44 ?_
    refine J_callVip1 dX8_arrange_83 (t_X8_rankNow_43 (llL G) (llFx G) d s.1 (rI s.1 44 s.2)) ym_X8_rankNow wd_781 sh_43 rfl (Nat.le_of_ble_eq_true rfl) (fun r8 => ?_)
    refine J_iast dX8_arrange_86 sh_45 (fun u9 => ?_)
    refine J_iinc (j := 1) (b := 1) (fun v2_10 => [(2, .int v2_10), (0, .ref (llAd G 43))]) dX8_arrange_87 rfl (by decide) (by decide) (fun _ => rfl) (fun v2_10 => ?_)
    refine J_goto (tgt := 58) dX8_arrange_90 (by decide) ?_
    exact J_cut [1, 0] (lv' := [(0, .ref (llAd G 43)), (2, .int v2_10)]) rfl (fun h => h)
def fx_X8_averagePoints_43 (u : llMem) (a0 : Int32) : Option Int32 := gI a0 30 ((if (rI u 21 a0) ≤ 0 then some 0 else gI a0 30 (some (rI u 46 a0))))
set_option maxRecDepth 20000 in
theorem tj_X8_averagePoints_43 {G : llG} {d : Nat} (u : llMem) (a0 : Int32) : llJ G RX8 cX8_averagePoints 2 (some .int) d (fun r => llRet G (llI r) u) 0 [(0, .ref (llAd G 43)), (1, .int a0)] [] u (fx_X8_averagePoints_43 u a0) := by
  unfold fx_X8_averagePoints_43
  refine J_aload_n (j := 0) dX8_averagePoints_0 rfl rfl ?_
  refine J_getR (b := 14) dX8_averagePoints_1 fl_X8_15 sh_43 rfl ?_
  refine J_getR (b := 21) dX8_averagePoints_4 fl_X8_74 sh_14 rfl ?_
  refine J_iload_n (j := 1) dX8_averagePoints_7 rfl rfl ?_
  refine J_iald dX8_averagePoints_8 sh_21 ?_
  refine J_if_le (tgt := 21) dX8_averagePoints_9 (by decide) ?_ ?_
  · refine J_iconst (v := 0) dX8_averagePoints_21 (by decide) ?_
    exact J_iret dX8_averagePoints_22 (fun h => h)
  · refine J_aload_n (j := 0) dX8_averagePoints_12 rfl rfl ?_
    refine J_getR (b := 46) dX8_averagePoints_13 fl_X8_26 sh_43 rfl ?_
    refine J_iload_n (j := 1) dX8_averagePoints_16 rfl rfl ?_
    refine J_iald dX8_averagePoints_17 sh_46 ?_
    refine J_goto (tgt := 22) dX8_averagePoints_18 (by decide) ?_
    exact J_iret dX8_averagePoints_22 (fun h => h)
theorem t_X8_averagePoints_43 (l : Launch) (F : llFix) (d : Nat) (u : llMem) (a0 : Int32) : llCp l F yX8_averagePoints cX8_averagePoints 2 (some .int) d [.ref (F.2.2.1 43), .int a0] u llI (fx_X8_averagePoints_43 u a0) := llCp.of (by decide +kernel) (by exact Nat.le_of_ble_eq_true rfl) (fun G h1 h2 => by subst h1; subst h2; exact tj_X8_averagePoints_43 u a0)
def fx_X8_isAhead_43 (u : llMem) (a0 : Int32) (a1 : Int32) : Option Int32 := gI a0 30 (gI a1 30 ((if (rI u 45 a0) = (rI u 45 a1) then (fx_X8_averagePoints_43 u a0).bind (fun r1 => gI a1 30 ((fx_X8_averagePoints_43 u a1).bind (fun r2 => gI a0 30 (lt ((r1 * (if (rI u 21 a1) < 1 then 1 else (rI u 21 a1))) - (r2 * (if (rI u 21 a0) < 1 then 1 else (rI u 21 a0)))) (fun v3_3 => (if v3_3 = 0 then (if a1 ≤ a0 then gB 0 (some 0) else gB 1 (some 1)) else (if v3_3 ≤ 0 then gB 0 (some 0) else gB 1 (some 1)))))))) else gI a0 30 (gI a1 30 ((if (rI u 45 a1) ≤ (rI u 45 a0) then gB 0 (some 0) else gB 1 (some 1)))))))
set_option maxRecDepth 20000 in
theorem tj_X8_isAhead_43 {G : llG} {d : Nat} (u : llMem) (a0 : Int32) (a1 : Int32) : llJ G RX8 cX8_isAhead 4 (some .boolean) (d + 1) (fun r => llRet G (llI r) u) 0 [(0, .ref (llAd G 43)), (1, .int a0), (2, .int a1)] [] u (fx_X8_isAhead_43 u a0 a1) := by
  unfold fx_X8_isAhead_43
  refine J_aload_n (j := 0) dX8_isAhead_0 rfl rfl ?_
  refine J_getR (b := 45) dX8_isAhead_1 fl_X8_23 sh_43 rfl ?_
  refine J_iload_n (j := 1) dX8_isAhead_4 rfl rfl ?_
  refine J_iald dX8_isAhead_5 sh_45 ?_
  refine J_aload_n (j := 0) dX8_isAhead_6 rfl rfl ?_
  refine J_getR (b := 45) dX8_isAhead_7 fl_X8_23 sh_43 rfl ?_
  refine J_iload_n (j := 2) dX8_isAhead_10 rfl rfl ?_
  refine J_iald dX8_isAhead_11 sh_45 ?_
  refine J_icmp_eq (tgt := 36) dX8_isAhead_12 (by decide) ?_ ?_
  · refine J_aload_n (j := 0) dX8_isAhead_36 rfl rfl ?_
    refine J_iload_n (j := 1) dX8_isAhead_37 rfl rfl ?_
    refine J_callVip1 dX8_isAhead_38 (t_X8_averagePoints_43 (llL G) (llFx G) d u a0) ym_X8_averagePoints wd_801 sh_43 rfl (Nat.le_of_ble_eq_true rfl) (fun r1 => ?_)
    refine J_aload_n (j := 0) dX8_isAhead_41 rfl rfl ?_
    refine J_getR (b := 14) dX8_isAhead_42 fl_X8_15 sh_43 rfl ?_
    refine J_getR (b := 21) dX8_isAhead_45 fl_X8_74 sh_14 rfl ?_
    refine J_iload_n (j := 2) dX8_isAhead_48 rfl rfl ?_
    refine J_iald dX8_isAhead_49 sh_21 ?_
    refine J_iconst (v := 1) dX8_isAhead_50 (by decide) ?_
    refine J_mmax dX8_isAhead_51 wd_805 wd_758 wd_14 wd_759 (Nat.le_of_ble_eq_true rfl) ?_
    refine J_imul dX8_isAhead_54 ?_
    refine J_aload_n (j := 0) dX8_isAhead_55 rfl rfl ?_
    refine J_iload_n (j := 2) dX8_isAhead_56 rfl rfl ?_
    refine J_callVip1 dX8_isAhead_57 (t_X8_averagePoints_43 (llL G) (llFx G) d u a1) ym_X8_averagePoints wd_801 sh_43 rfl (Nat.le_of_ble_eq_true rfl) (fun r2 => ?_)
    refine J_aload_n (j := 0) dX8_isAhead_60 rfl rfl ?_
    refine J_getR (b := 14) dX8_isAhead_61 fl_X8_15 sh_43 rfl ?_
    refine J_getR (b := 21) dX8_isAhead_64 fl_X8_74 sh_14 rfl ?_
    refine J_iload_n (j := 1) dX8_isAhead_67 rfl rfl ?_
    refine J_iald dX8_isAhead_68 sh_21 ?_
    refine J_iconst (v := 1) dX8_isAhead_69 (by decide) ?_
    refine J_mmax dX8_isAhead_70 wd_805 wd_758 wd_14 wd_759 (Nat.le_of_ble_eq_true rfl) ?_
    refine J_imul dX8_isAhead_73 ?_
    refine J_isub dX8_isAhead_74 ?_
    refine J_istore_nL (fun v3_3 => [(3, .int v3_3), (0, .ref (llAd G 43)), (1, .int a0), (2, .int a1)]) dX8_isAhead_75 rfl (by decide) (fun _ => rfl) (fun v3_3 => ?_)
    refine J_iload_n (j := 0) dX8_isAhead_76 rfl rfl ?_
    refine J_if_eq (tgt := 92) dX8_isAhead_77 (by decide) ?_ ?_
    · refine J_iload_n (j := 2) dX8_isAhead_92 rfl rfl ?_
      refine J_iload_n (j := 3) dX8_isAhead_93 rfl rfl ?_
      refine J_icmp_ge (tgt := 101) dX8_isAhead_94 (by decide) ?_ ?_
      · refine J_iconst (v := 0) dX8_isAhead_101 (by decide) ?_
        exact J_zret dX8_isAhead_102 (fun h => h)
      · refine J_iconst (v := 1) dX8_isAhead_97 (by decide) ?_
        refine J_goto (tgt := 102) dX8_isAhead_98 (by decide) ?_
        exact J_zret dX8_isAhead_102 (fun h => h)
    · refine J_iload_n (j := 0) dX8_isAhead_80 rfl rfl ?_
      refine J_if_le (tgt := 88) dX8_isAhead_81 (by decide) ?_ ?_
      · refine J_iconst (v := 0) dX8_isAhead_88 (by decide) ?_
        refine J_goto (tgt := 102) dX8_isAhead_89 (by decide) ?_
        exact J_zret dX8_isAhead_102 (fun h => h)
      · refine J_iconst (v := 1) dX8_isAhead_84 (by decide) ?_
        refine J_goto (tgt := 102) dX8_isAhead_85 (by decide) ?_
        exact J_zret dX8_isAhead_102 (fun h => h)
  · refine J_aload_n (j := 0) dX8_isAhead_15 rfl rfl ?_
    refine J_getR (b := 45) dX8_isAhead_16 fl_X8_23 sh_43 rfl ?_
    refine J_iload_n (j := 1) dX8_isAhead_19 rfl rfl ?_
    refine J_iald dX8_isAhead_20 sh_45 ?_
    refine J_aload_n (j := 0) dX8_isAhead_21 rfl rfl ?_
    refine J_getR (b := 45) dX8_isAhead_22 fl_X8_23 sh_43 rfl ?_
    refine J_iload_n (j := 2) dX8_isAhead_25 rfl rfl ?_
    refine J_iald dX8_isAhead_26 sh_45 ?_
    refine J_icmp_ge (tgt := 34) dX8_isAhead_27 (by decide) ?_ ?_
    · refine J_iconst (v := 0) dX8_isAhead_34 (by decide) ?_
      exact J_zret dX8_isAhead_35 (fun h => h)
    · refine J_iconst (v := 1) dX8_isAhead_30 (by decide) ?_
      refine J_goto (tgt := 35) dX8_isAhead_31 (by decide) ?_
      exact J_zret dX8_isAhead_35 (fun h => h)
theorem t_X8_isAhead_43 (l : Launch) (F : llFix) (d : Nat) (u : llMem) (a0 : Int32) (a1 : Int32) : llCp l F yX8_isAhead cX8_isAhead 4 (some .boolean) (d + 1) [.ref (F.2.2.1 43), .int a0, .int a1] u llI (fx_X8_isAhead_43 u a0 a1) := llCp.of (by decide +kernel) (by exact Nat.le_of_ble_eq_true rfl) (fun G h1 h2 => by subst h1; subst h2; exact tj_X8_isAhead_43 u a0 a1)
def fx_X8_sink_43_l9 (v2 : Int32) (s : llMem × Int32) : Option ((llMem × Int32) ⊕ (llMem × Int32)) := (if s.2 ≤ 0 then some (.inr (s.1, s.2)) else gI (s.2 - 1) 12 ((fx_X8_isAhead_43 s.1 v2 (rI s.1 44 (s.2 - 1))).bind (fun r2 => (if r2 = 0 then some (.inr (s.1, s.2)) else gI (s.2 - 1) 12 (gI s.2 12 (lt (llSI s.1 44 (Int32.toNatClampNeg s.2) (rI s.1 44 (s.2 - 1))) (fun u3 => lt (s.2 + (-1)) (fun v3_4 => some (.inl (u3, v3_4))))))))))
set_option maxRecDepth 20000 in
theorem t_X8_sink_43_l9 {G : llG} {d : Nat} (v2 : Int32) (s : llMem × Int32) : llJ G RX8 cX8_sink 4 none (d + 2) (Sum.elim (fun s' => llJq G 4 9 [(0, .ref (llAd G 43)), (2, .int v2), (3, .int s'.2)] [] s'.1) (fun e => llJq G 4 49 [(0, .ref (llAd G 43)), (2, .int v2), (3, .int e.2)] [] e.1)) 9 [(0, .ref (llAd G 43)), (2, .int v2), (3, .int s.2)] [] s.1 (fx_X8_sink_43_l9 v2 s) := by
  unfold fx_X8_sink_43_l9
  refine J_iload_n (j := 2) dX8_sink_9 rfl rfl ?_
  refine J_if_le (tgt := 49) dX8_sink_10 (by decide) ?_ ?_
  · exact J_cut [0, 1, 2] (lv' := [(0, .ref (llAd G 43)), (2, .int v2), (3, .int s.2)]) rfl (fun h => h)
  · refine J_aload_n (j := 0) dX8_sink_13 rfl rfl ?_
    refine J_iload_n (j := 1) dX8_sink_14 rfl rfl ?_
    refine J_aload_n (j := 0) dX8_sink_15 rfl rfl ?_
    refine J_getR (b := 44) dX8_sink_16 fl_X8_19 sh_43 rfl ?_
    refine J_iload_n (j := 2) dX8_sink_19 rfl rfl ?_
    refine J_iconst (v := 1) dX8_sink_20 (by decide) ?_
    refine J_isub dX8_sink_21 ?_
    refine J_iald dX8_sink_22 sh_44 ?_
    refine J_callVip2 dX8_sink_23 (t_X8_isAhead_43 (llL G) (llFx G) d s.1 v2 (rI s.1 44 (s.2 - 1))) ym_X8_isAhead wd_797 sh_43 rfl (Nat.le_of_ble_eq_true rfl) (fun r2 => ?_)
    refine J_if_eq (tgt := 49) dX8_sink_26 (by decide) ?_ ?_
    · exact J_cut [0, 1, 2] (lv' := [(0, .ref (llAd G 43)), (2, .int v2), (3, .int s.2)]) rfl (fun h => h)
    · refine J_aload_n (j := 0) dX8_sink_29 rfl rfl ?_
      refine J_getR (b := 44) dX8_sink_30 fl_X8_19 sh_43 rfl ?_
      refine J_iload_n (j := 2) dX8_sink_33 rfl rfl ?_
      refine J_aload_n (j := 0) dX8_sink_34 rfl rfl ?_
      refine J_getR (b := 44) dX8_sink_35 fl_X8_19 sh_43 rfl ?_
      refine J_iload_n (j := 2) dX8_sink_38 rfl rfl ?_
      refine J_iconst (v := 1) dX8_sink_39 (by decide) ?_
      refine J_isub dX8_sink_40 ?_
      refine J_iald dX8_sink_41 sh_44 ?_
      refine J_iast dX8_sink_42 sh_44 (fun u3 => ?_)
      refine J_iinc (j := 2) (b := (-1)) (fun v3_4 => [(3, .int v3_4), (0, .ref (llAd G 43)), (2, .int v2)]) dX8_sink_43 rfl (by decide) (by decide) (fun _ => rfl) (fun v3_4 => ?_)
      refine J_goto (tgt := 9) dX8_sink_46 (by decide) ?_
      exact J_cut [1, 2, 0] (lv' := [(0, .ref (llAd G 43)), (2, .int v2), (3, .int v3_4)]) rfl (fun h => h)
def fx_X8_sink_43 (u : llMem) (a0 : Int32) : Option (llMem × Unit) := gI a0 12 (lt (rI u 44 a0) (fun v2_1 => (loop (fx_X8_sink_43_l9 v2_1) llFuel (u, a0)).bind (fun e5 => gI e5.2 12 (lt (llSI e5.1 44 (Int32.toNatClampNeg e5.2) v2_1) (fun u6 => some (u6, ()))))))
set_option maxRecDepth 20000 in
theorem tj_X8_sink_43 {G : llG} {d : Nat} (u : llMem) (a0 : Int32) : llJ G RX8 cX8_sink 4 none (d + 2) (fun r => llRet G (llVd r.2) r.1) 0 [(0, .ref (llAd G 43)), (1, .int a0)] [] u (fx_X8_sink_43 u a0) := by
  unfold fx_X8_sink_43
  refine J_aload_n (j := 0) dX8_sink_0 rfl rfl ?_
  refine J_getR (b := 44) dX8_sink_1 fl_X8_19 sh_43 rfl ?_
  refine J_iload_n (j := 1) dX8_sink_4 rfl rfl ?_
  refine J_iald dX8_sink_5 sh_44 ?_
  refine J_istore_nL (fun v2_1 => [(2, .int v2_1), (0, .ref (llAd G 43)), (1, .int a0)]) dX8_sink_6 rfl (by decide) (fun _ => rfl) (fun v2_1 => ?_)
  refine J_iload_n (j := 2) dX8_sink_7 rfl rfl ?_
  refine J_istore_n [(3, .int a0), (2, .int v2_1), (0, .ref (llAd G 43)), (1, .int a0)] dX8_sink_8 rfl (by decide) rfl ?_
  refine J_loopE (fun s' => [(0, .ref (llAd G 43)), (2, .int v2_1), (3, .int s'.2)]) (fun s' => s'.1) 49 (fun e => [(0, .ref (llAd G 43)), (2, .int v2_1), (3, .int e.2)]) (fun e => e.1) (fun z => t_X8_sink_43_l9 v2_1 z) [2, 1, 0] rfl rfl (fun e5 => ?_)
  refine J_aload_n (j := 0) dX8_sink_49 rfl rfl ?_
  refine J_getR (b := 44) dX8_sink_50 fl_X8_19 sh_43 rfl ?_
  refine J_iload_n (j := 2) dX8_sink_53 rfl rfl ?_
  refine J_iload_n (j := 1) dX8_sink_54 rfl rfl ?_
  refine J_iast dX8_sink_55 sh_44 (fun u6 => ?_)
  exact J_vret dX8_sink_56 (fun h => h)
theorem t_X8_sink_43 (l : Launch) (F : llFix) (d : Nat) (u : llMem) (a0 : Int32) : llCt l F yX8_sink cX8_sink 4 none (d + 2) [.ref (F.2.2.1 43), .int a0] u llVd (fx_X8_sink_43 u a0) := llCt.of (by decide +kernel) (by exact Nat.le_of_ble_eq_true rfl) (fun G h1 h2 => by subst h1; subst h2; exact tj_X8_sink_43 u a0)
def fx_X8_arrange_43_l95  (s : llMem × Int32) : Option ((llMem × Int32) ⊕ (llMem)) := (if (s.1.1 43 2) ≤ s.2 then some (.inr s.1) else bd (fx_X8_sink_43 s.1 s.2) (fun u12 _ => lt (s.2 + 1) (fun v2_13 => some (.inl (u12, v2_13)))))
set_option maxRecDepth 20000 in
theorem t_X8_arrange_43_l95 {G : llG} {d : Nat}  (s : llMem × Int32) : llJ G RX8 cX8_arrange 3 none (d + 3) (Sum.elim (fun s' => llJq G 3 95 [(0, .ref (llAd G 43)), (2, .int s'.2)] [] s'.1) (fun e => llJq G 3 114 [] [] e)) 95 [(0, .ref (llAd G 43)), (2, .int s.2)] [] s.1 (fx_X8_arrange_43_l95 s) := by
  unfold fx_X8_arrange_43_l95
  refine J_iload_n (j := 1) dX8_arrange_95 rfl rfl ?_
  refine J_aload_n (j := 0) dX8_arrange_96 rfl rfl ?_
  refine J_getI dX8_arrange_97 fl_X8_38 sh_43 rfl ?_
  refine J_icmp_ge (tgt := 114) dX8_arrange_100 (by decide) ?_ ?_
  · exact J_cut [] (lv' := []) rfl (fun h => h)
  · refine J_aload_n (j := 0) dX8_arrange_103 rfl rfl ?_
    refine J_iload_n (j := 1) dX8_arrange_104 rfl rfl ?_
    refine J_callVv1 dX8_arrange_105 (t_X8_sink_43 (llL G) (llFx G) d s.1 s.2) ym_X8_sink wd_793 sh_43 rfl (Nat.le_of_ble_eq_true rfl) (fun u12 => ?_)
    refine J_iinc (j := 1) (b := 1) (fun v2_13 => [(2, .int v2_13), (0, .ref (llAd G 43))]) dX8_arrange_108 rfl (by decide) (by decide) (fun _ => rfl) (fun v2_13 => ?_)
    refine J_goto (tgt := 95) dX8_arrange_111 (by decide) ?_
    exact J_cut [1, 0] (lv' := [(0, .ref (llAd G 43)), (2, .int v2_13)]) rfl (fun h => h)
def fx_X8_arrange_43 (u : llMem) (a0 : Int32) : Option (llMem × Unit) := bd (fx_X5_gather_3_44 u a0) (fun u1 r2 => lt (llSI u1 43 2 r2) (fun u3 => (loop (fx_X8_arrange_43_l18) llFuel (u3, 0)).bind (fun e7 => (loop (fx_X8_arrange_43_l58) llFuel (e7, 0)).bind (fun e11 => (loop (fx_X8_arrange_43_l95) llFuel (e11, 1)).bind (fun e14 => some (e14, ()))))))
set_option maxRecDepth 20000 in
theorem tj_X8_arrange_43 {G : llG} {d : Nat} (u : llMem) (a0 : Int32) : llJ G RX8 cX8_arrange 3 none (d + 3) (fun r => llRet G (llVd r.2) r.1) 0 [(0, .ref (llAd G 43)), (1, .int a0)] [] u (fx_X8_arrange_43 u a0) := by
  unfold fx_X8_arrange_43
  refine J_aload_n (j := 0) dX8_arrange_0 rfl rfl ?_
  refine J_aload_n (j := 0) dX8_arrange_1 rfl rfl ?_
  refine J_getR (b := 3) dX8_arrange_2 fl_X8_9 sh_43 rfl ?_
  refine J_iload_n (j := 1) dX8_arrange_5 rfl rfl ?_
  refine J_aload_n (j := 0) dX8_arrange_6 rfl rfl ?_
  refine J_getR (b := 44) dX8_arrange_7 fl_X8_19 sh_43 rfl ?_
  refine J_callVi2 dX8_arrange_10 (t_X5_gather_3_44 (llL G) (llFx G) (d + 2) u a0) ym_X5_gather wd_773 sh_3 rfl (Nat.le_of_ble_eq_true rfl) (fun u1 r2 => ?_)
  refine J_putI dX8_arrange_13 fl_X8_38 sh_43 rfl (fun u3 => ?_)
  refine J_iconst (v := 0) dX8_arrange_16 (by decide) ?_
  refine J_istore_n [(2, .int 0), (0, .ref (llAd G 43)), (1, .int a0)] dX8_arrange_17 rfl (by decide) rfl ?_
  refine J_loopE (fun s' => [(0, .ref (llAd G 43)), (2, .int s'.2)]) (fun s' => s'.1) 56 (fun e => [(0, .ref (llAd G 43))]) (fun e => e) (fun z => t_X8_arrange_43_l18 z) [1, 0] rfl rfl (fun e7 => ?_)
  refine J_iconst (v := 0) dX8_arrange_56 (by decide) ?_
  refine J_istore_n [(2, .int 0), (0, .ref (llAd G 43))] dX8_arrange_57 rfl (by decide) rfl ?_
  refine J_loopE (fun s' => [(0, .ref (llAd G 43)), (2, .int s'.2)]) (fun s' => s'.1) 93 (fun e => [(0, .ref (llAd G 43))]) (fun e => e) (fun z => t_X8_arrange_43_l58 z) [1, 0] rfl rfl (fun e11 => ?_)
  refine J_iconst (v := 1) dX8_arrange_93 (by decide) ?_
  refine J_istore_n [(2, .int 1), (0, .ref (llAd G 43))] dX8_arrange_94 rfl (by decide) rfl ?_
  refine J_loopE (fun s' => [(0, .ref (llAd G 43)), (2, .int s'.2)]) (fun s' => s'.1) 114 (fun e => []) (fun e => e) (fun z => t_X8_arrange_43_l95 z) [1, 0] rfl rfl (fun e14 => ?_)
  exact J_vret dX8_arrange_114 (fun h => h)
theorem t_X8_arrange_43 (l : Launch) (F : llFix) (d : Nat) (u : llMem) (a0 : Int32) : llCt l F yX8_arrange cX8_arrange 3 none (d + 3) [.ref (F.2.2.1 43), .int a0] u llVd (fx_X8_arrange_43 u a0) := llCt.of (by decide +kernel) (by exact Nat.le_of_ble_eq_true rfl) (fun G h1 h2 => by subst h1; subst h2; exact tj_X8_arrange_43 u a0)
def fx_X3_countOf_63 (u : llMem) (a0 : Int32) (a1 : Int32) : Option Int32 := gI ((a0 * 4) + a1) 16 (some (rI u 66 ((a0 * 4) + a1)))
set_option maxRecDepth 20000 in
theorem tj_X3_countOf_63 {G : llG} {d : Nat} (u : llMem) (a0 : Int32) (a1 : Int32) : llJ G RX3 cX3_countOf 3 (some .int) d (fun r => llRet G (llI r) u) 0 [(0, .ref (llAd G 63)), (1, .int a0), (2, .int a1)] [] u (fx_X3_countOf_63 u a0 a1) := by
  unfold fx_X3_countOf_63
  refine J_aload_n (j := 0) dX3_countOf_0 rfl rfl ?_
  refine J_getR (b := 66) dX3_countOf_1 fl_X3_30 sh_63 rfl ?_
  refine J_iload_n (j := 1) dX3_countOf_4 rfl rfl ?_
  refine J_iconst (v := 4) dX3_countOf_5 (by decide) ?_
  refine J_imul dX3_countOf_6 ?_
  refine J_iload_n (j := 2) dX3_countOf_7 rfl rfl ?_
  refine J_iadd dX3_countOf_8 ?_
  refine J_iald dX3_countOf_9 sh_66 ?_
  exact J_iret dX3_countOf_10 (fun h => h)
theorem t_X3_countOf_63 (l : Launch) (F : llFix) (d : Nat) (u : llMem) (a0 : Int32) (a1 : Int32) : llCp l F yX3_countOf cX3_countOf 3 (some .int) d [.ref (F.2.2.1 63), .int a0, .int a1] u llI (fx_X3_countOf_63 u a0 a1) := llCp.of (by decide +kernel) (by exact Nat.le_of_ble_eq_true rfl) (fun G h1 h2 => by subst h1; subst h2; exact tj_X3_countOf_63 u a0 a1)
def fx_X3_sendUpThose_63_j75_b2 (u : llMem) (v1 : Int32) (v2 : Int32) (v3 : Int32) : Option ((llMem × Int32) ⊕ (llMem)) := lt (v3 + 1) (fun v3_3 => some (.inl (u, v3_3)))
set_option maxRecDepth 20000 in
theorem t_X3_sendUpThose_63_j75_b2 {G : llG} {d : Nat} (u : llMem) (v1 : Int32) (v2 : Int32) (v3 : Int32) : llJ G RX3 cX3_sendUpThose 5 none (d + 1) (Sum.elim (fun s' => llJq G 5 2 [(0, .ref (llAd G 63)), (1, .int v1), (2, .int v2), (3, .int s'.2)] [] s'.1) (fun e => llJq G 5 81 [] [] e)) 75 [(0, .ref (llAd G 63)), (1, .int v1), (2, .int v2), (3, .int v3)] [] u (fx_X3_sendUpThose_63_j75_b2 u v1 v2 v3) := by
  unfold fx_X3_sendUpThose_63_j75_b2
  refine J_iinc (j := 3) (b := 1) (fun v3_3 => [(3, .int v3_3), (0, .ref (llAd G 63)), (1, .int v1), (2, .int v2)]) dX3_sendUpThose_75 rfl (by decide) (by decide) (fun _ => rfl) (fun v3_3 => ?_)
  refine J_goto (tgt := 2) dX3_sendUpThose_78 (by decide) ?_
  exact J_cut [1, 2, 3, 0] (lv' := [(0, .ref (llAd G 63)), (1, .int v1), (2, .int v2), (3, .int v3_3)]) rfl (fun h => h)
def fx_X3_add_63 (u : llMem) (a0 : Int32) (a1 : Int32) (a2 : Int32) (a3 : Int32) : Option (llMem × Unit) := lt ((a0 * 4) + a1) (fun v5_1 => gI v5_1 16 ((if 30 ≤ (rI u 66 v5_1) then some (u, ()) else gI v5_1 16 (gI ((v5_1 * 30) + (rI u 66 v5_1)) 480 (lt (llSI u 67 (Int32.toNatClampNeg ((v5_1 * 30) + (rI u 66 v5_1))) a2) (fun u2 => gI v5_1 16 (gI v5_1 16 (lt (llSI u2 66 (Int32.toNatClampNeg v5_1) ((rI u2 66 v5_1) + 1)) (fun u3 => gI a2 30 (lt (llSI u3 68 (Int32.toNatClampNeg a2) a3) (fun u4 => some (u4, ()))))))))))))
set_option maxRecDepth 20000 in
theorem tj_X3_add_63 {G : llG} {d : Nat} (u : llMem) (a0 : Int32) (a1 : Int32) (a2 : Int32) (a3 : Int32) : llJ G RX3 cX3_add 6 none d (fun r => llRet G (llVd r.2) r.1) 0 [(0, .ref (llAd G 63)), (1, .int a0), (2, .int a1), (3, .int a2), (4, .int a3)] [] u (fx_X3_add_63 u a0 a1 a2 a3) := by
  unfold fx_X3_add_63
  refine J_iload_n (j := 1) dX3_add_0 rfl rfl ?_
  refine J_iconst (v := 4) dX3_add_1 (by decide) ?_
  refine J_imul dX3_add_2 ?_
  refine J_iload_n (j := 2) dX3_add_3 rfl rfl ?_
  refine J_iadd dX3_add_4 ?_
  refine J_istoreL (fun v5_1 => [(5, .int v5_1), (0, .ref (llAd G 63)), (1, .int a0), (2, .int a1), (3, .int a2), (4, .int a3)]) dX3_add_5 (by decide) (fun _ => rfl) (fun v5_1 => ?_)
  refine J_aload_n (j := 1) dX3_add_7 rfl rfl ?_
  refine J_getR (b := 66) dX3_add_8 fl_X3_30 sh_63 rfl ?_
  refine J_iload (j := 0) dX3_add_11 rfl ?_
  refine J_iald dX3_add_13 sh_66 ?_
  refine J_bipush (v := 30) dX3_add_14 (by decide) ?_
  refine J_icmp_ge (tgt := 57) dX3_add_16 (by decide) ?_ ?_
  · exact J_vret dX3_add_57 (fun h => h)
  · refine J_aload_n (j := 1) dX3_add_19 rfl rfl ?_
    refine J_getR (b := 67) dX3_add_20 fl_X3_33 sh_63 rfl ?_
    refine J_iload (j := 0) dX3_add_23 rfl ?_
    refine J_bipush (v := 30) dX3_add_25 (by decide) ?_
    refine J_imul dX3_add_27 ?_
    refine J_aload_n (j := 1) dX3_add_28 rfl rfl ?_
    refine J_getR (b := 66) dX3_add_29 fl_X3_30 sh_63 rfl ?_
    refine J_iload (j := 0) dX3_add_32 rfl ?_
    refine J_iald dX3_add_34 sh_66 ?_
    refine J_iadd dX3_add_35 ?_
    refine J_iload_n (j := 4) dX3_add_36 rfl rfl ?_
    refine J_iast dX3_add_37 sh_67 (fun u2 => ?_)
    refine J_aload_n (j := 1) dX3_add_38 rfl rfl ?_
    refine J_getR (b := 66) dX3_add_39 fl_X3_30 sh_63 rfl ?_
    refine J_iload (j := 0) dX3_add_42 rfl ?_
    refine J_dup2 dX3_add_44 rfl rfl ?_
    refine J_iald dX3_add_45 sh_66 ?_
    refine J_iconst (v := 1) dX3_add_46 (by decide) ?_
    refine J_iadd dX3_add_47 ?_
    refine J_iast dX3_add_48 sh_66 (fun u3 => ?_)
    refine J_aload_n (j := 1) dX3_add_49 rfl rfl ?_
    refine J_getR (b := 68) dX3_add_50 fl_X3_36 sh_63 rfl ?_
    refine J_iload_n (j := 4) dX3_add_53 rfl rfl ?_
    refine J_iload (j := 5) dX3_add_54 rfl ?_
    refine J_iast dX3_add_56 sh_68 (fun u4 => ?_)
    exact J_vret dX3_add_57 (fun h => h)
theorem t_X3_add_63 (l : Launch) (F : llFix) (d : Nat) (u : llMem) (a0 : Int32) (a1 : Int32) (a2 : Int32) (a3 : Int32) : llCt l F yX3_add cX3_add 6 none d [.ref (F.2.2.1 63), .int a0, .int a1, .int a2, .int a3] u llVd (fx_X3_add_63 u a0 a1 a2 a3) := llCt.of (by decide +kernel) (by exact Nat.le_of_ble_eq_true rfl) (fun G h1 h2 => by subst h1; subst h2; exact tj_X3_add_63 u a0 a1 a2 a3)
def fx_X3_sendUpThose_63_l2 (v1 : Int32) (v2 : Int32) (s : llMem × Int32) : Option ((llMem × Int32) ⊕ (llMem)) := (if (s.1.1 43 2) ≤ s.2 then some (.inr s.1) else (fx_X3_countOf_63 s.1 v1 0).bind (fun r1 => gI (v1 - 1) 4 ((if (rI s.1 64 (v1 - 1)) ≤ r1 then some (.inr s.1) else gI s.2 12 (lt (rI s.1 44 s.2) (fun v4_2 => gI v4_2 30 ((if ¬ (rI s.1 18 v4_2) = 0 then fx_X3_sendUpThose_63_j75_b2 s.1 v1 v2 s.2 else (fx_X3_mayRise_63 s.1 v4_2).bind (fun r4 => (if ¬ r4 = v2 then fx_X3_sendUpThose_63_j75_b2 s.1 v1 v2 s.2 else bd (fx_X3_add_63 s.1 v1 0 v4_2 (v1 - 1)) (fun u5 _ => fx_X3_sendUpThose_63_j75_b2 u5 v1 v2 s.2)))))))))))
set_option maxRecDepth 20000 in
theorem t_X3_sendUpThose_63_l2 {G : llG} {d : Nat} (v1 : Int32) (v2 : Int32) (s : llMem × Int32) : llJ G RX3 cX3_sendUpThose 5 none (d + 1) (Sum.elim (fun s' => llJq G 5 2 [(0, .ref (llAd G 63)), (1, .int v1), (2, .int v2), (3, .int s'.2)] [] s'.1) (fun e => llJq G 5 81 [] [] e)) 2 [(0, .ref (llAd G 63)), (1, .int v1), (2, .int v2), (3, .int s.2)] [] s.1 (fx_X3_sendUpThose_63_l2 v1 v2 s) := by
  unfold fx_X3_sendUpThose_63_l2
  refine J_iload_n (j := 3) dX3_sendUpThose_2 rfl rfl ?_
  refine J_aload_n (j := 0) dX3_sendUpThose_3 rfl rfl ?_
  refine J_getR (b := 43) dX3_sendUpThose_4 fl_X3_19 sh_63 rfl ?_
  refine J_getI dX3_sendUpThose_7 fl_X3_122 sh_43 rfl ?_
  refine J_icmp_ge (tgt := 81) dX3_sendUpThose_10 (by decide) ?_ ?_
  · exact J_cut [] (lv' := []) rfl (fun h => h)
  · refine J_aload_n (j := 0) dX3_sendUpThose_13 rfl rfl ?_
    refine J_iload_n (j := 1) dX3_sendUpThose_14 rfl rfl ?_
    refine J_iconst (v := 0) dX3_sendUpThose_15 (by decide) ?_
    refine J_callVip2 dX3_sendUpThose_16 (t_X3_countOf_63 (llL G) (llFx G) d s.1 v1 0) ym_X3_countOf wd_814 sh_63 rfl (Nat.le_of_ble_eq_true rfl) (fun r1 => ?_)
    refine J_aload_n (j := 0) dX3_sendUpThose_19 rfl rfl ?_
    refine J_getR (b := 64) dX3_sendUpThose_20 fl_X3_23 sh_63 rfl ?_
    refine J_iload_n (j := 1) dX3_sendUpThose_23 rfl rfl ?_
    refine J_iconst (v := 1) dX3_sendUpThose_24 (by decide) ?_
    refine J_isub dX3_sendUpThose_25 ?_
    refine J_iald dX3_sendUpThose_26 sh_64 ?_
    refine J_icmp_ge (tgt := 81) dX3_sendUpThose_27 (by decide) ?_ ?_
    · exact J_cut [] (lv' := []) rfl (fun h => h)
    · refine J_aload_n (j := 0) dX3_sendUpThose_30 rfl rfl ?_
      refine J_getR (b := 43) dX3_sendUpThose_31 fl_X3_19 sh_63 rfl ?_
      refine J_getR (b := 44) dX3_sendUpThose_34 fl_X3_125 sh_43 rfl ?_
      refine J_iload_n (j := 3) dX3_sendUpThose_37 rfl rfl ?_
      refine J_iald dX3_sendUpThose_38 sh_44 ?_
      refine J_istoreL (fun v4_2 => [(4, .int v4_2), (0, .ref (llAd G 63)), (1, .int v1), (2, .int v2), (3, .int s.2)]) dX3_sendUpThose_39 (by decide) (fun _ => rfl) (fun v4_2 => ?_)
      refine J_aload_n (j := 1) dX3_sendUpThose_41 rfl rfl ?_
      refine J_getR (b := 14) dX3_sendUpThose_42 fl_X3_15 sh_63 rfl ?_
      refine J_getR (b := 18) dX3_sendUpThose_45 fl_X3_45 sh_14 rfl ?_
      refine J_iload (j := 0) dX3_sendUpThose_48 rfl ?_
      refine J_iald dX3_sendUpThose_50 sh_18 ?_
      refine J_if_ne (tgt := 75) dX3_sendUpThose_51 (by decide) ?_ ?_
      · refine J_sub [1, 2, 3, 4] (lv' := [(0, .ref (llAd G 63)), (1, .int v1), (2, .int v2), (3, .int s.2)]) rfl ?_
        exact t_X3_sendUpThose_63_j75_b2 s.1 v1 v2 s.2
      · refine J_aload_n (j := 1) dX3_sendUpThose_54 rfl rfl ?_
        refine J_iload (j := 0) dX3_sendUpThose_55 rfl ?_
        refine J_callVip1 dX3_sendUpThose_57 (t_X3_mayRise_63 (llL G) (llFx G) d s.1 v4_2) ym_X3_mayRise wd_764 sh_63 rfl (Nat.le_of_ble_eq_true rfl) (fun r4 => ?_)
        refine J_iload_n (j := 3) dX3_sendUpThose_60 rfl rfl ?_
        refine J_icmp_ne (tgt := 75) dX3_sendUpThose_61 (by decide) ?_ ?_
        · refine J_sub [1, 2, 3, 4] (lv' := [(0, .ref (llAd G 63)), (1, .int v1), (2, .int v2), (3, .int s.2)]) rfl ?_
          exact t_X3_sendUpThose_63_j75_b2 s.1 v1 v2 s.2
        · refine J_aload_n (j := 1) dX3_sendUpThose_64 rfl rfl ?_
          refine J_iload_n (j := 2) dX3_sendUpThose_65 rfl rfl ?_
          refine J_iconst (v := 0) dX3_sendUpThose_66 (by decide) ?_
          refine J_iload (j := 0) dX3_sendUpThose_67 rfl ?_
          refine J_iload_n (j := 2) dX3_sendUpThose_69 rfl rfl ?_
          refine J_iconst (v := 1) dX3_sendUpThose_70 (by decide) ?_
          refine J_isub dX3_sendUpThose_71 ?_
          refine J_callVv4 dX3_sendUpThose_72 (t_X3_add_63 (llL G) (llFx G) d s.1 v1 0 v4_2 (v1 - 1)) ym_X3_add wd_818 sh_63 rfl (Nat.le_of_ble_eq_true rfl) (fun u5 => ?_)
          refine J_sub [1, 2, 3, 4] (lv' := [(0, .ref (llAd G 63)), (1, .int v1), (2, .int v2), (3, .int s.2)]) rfl ?_
          exact t_X3_sendUpThose_63_j75_b2 u5 v1 v2 s.2
def fx_X3_sendUpThose_63 (u : llMem) (a0 : Int32) (a1 : Int32) : Option (llMem × Unit) := (loop (fx_X3_sendUpThose_63_l2 a0 a1) llFuel (u, 0)).bind (fun e6 => some (e6, ()))
set_option maxRecDepth 20000 in
theorem tj_X3_sendUpThose_63 {G : llG} {d : Nat} (u : llMem) (a0 : Int32) (a1 : Int32) : llJ G RX3 cX3_sendUpThose 5 none (d + 1) (fun r => llRet G (llVd r.2) r.1) 0 [(0, .ref (llAd G 63)), (1, .int a0), (2, .int a1)] [] u (fx_X3_sendUpThose_63 u a0 a1) := by
  unfold fx_X3_sendUpThose_63
  refine J_iconst (v := 0) dX3_sendUpThose_0 (by decide) ?_
  refine J_istore_n [(3, .int 0), (0, .ref (llAd G 63)), (1, .int a0), (2, .int a1)] dX3_sendUpThose_1 rfl (by decide) rfl ?_
  refine J_loopE (fun s' => [(0, .ref (llAd G 63)), (1, .int a0), (2, .int a1), (3, .int s'.2)]) (fun s' => s'.1) 81 (fun e => []) (fun e => e) (fun z => t_X3_sendUpThose_63_l2 a0 a1 z) [1, 2, 3, 0] rfl rfl (fun e6 => ?_)
  exact J_vret dX3_sendUpThose_81 (fun h => h)
theorem t_X3_sendUpThose_63 (l : Launch) (F : llFix) (d : Nat) (u : llMem) (a0 : Int32) (a1 : Int32) : llCt l F yX3_sendUpThose cX3_sendUpThose 5 none (d + 1) [.ref (F.2.2.1 63), .int a0, .int a1] u llVd (fx_X3_sendUpThose_63 u a0 a1) := llCt.of (by decide +kernel) (by exact Nat.le_of_ble_eq_true rfl) (fun G h1 h2 => by subst h1; subst h2; exact tj_X3_sendUpThose_63 u a0 a1)
def fx_X3_sendUp_63 (u : llMem) (a0 : Int32) : Option (llMem × Int32) := (if 1 ≤ a0 then bd (fx_X3_sendUpThose_63 u a0 1) (fun u1 _ => bd (fx_X3_sendUpThose_63 u1 a0 0) (fun u2 _ => (fx_X3_countOf_63 u2 a0 0).bind (fun r3 => gI (a0 - 1) 4 ((if ¬ r3 = (rI u2 64 (a0 - 1)) then gB 0 (some (u2, 0)) else gB 1 (some (u2, 1))))))) else gB 1 (some (u, 1)))
set_option maxRecDepth 20000 in
theorem tj_X3_sendUp_63 {G : llG} {d : Nat} (u : llMem) (a0 : Int32) : llJ G RX3 cX3_sendUp 2 (some .boolean) (d + 2) (fun r => llRet G (llI r.2) r.1) 0 [(0, .ref (llAd G 63)), (1, .int a0)] [] u (fx_X3_sendUp_63 u a0) := by
  unfold fx_X3_sendUp_63
  refine J_iload_n (j := 1) dX3_sendUp_0 rfl rfl ?_
  refine J_iconst (v := 1) dX3_sendUp_1 (by decide) ?_
  refine J_icmp_ge (tgt := 7) dX3_sendUp_2 (by decide) ?_ ?_
  · refine J_aload_n (j := 0) dX3_sendUp_7 rfl rfl ?_
    refine J_iload_n (j := 1) dX3_sendUp_8 rfl rfl ?_
    refine J_iconst (v := 1) dX3_sendUp_9 (by decide) ?_
    refine J_callVv2 dX3_sendUp_10 (t_X3_sendUpThose_63 (llL G) (llFx G) d u a0 1) ym_X3_sendUpThose wd_810 sh_63 rfl (Nat.le_of_ble_eq_true rfl) (fun u1 => ?_)
    refine J_aload_n (j := 0) dX3_sendUp_13 rfl rfl ?_
    refine J_iload_n (j := 1) dX3_sendUp_14 rfl rfl ?_
    refine J_iconst (v := 0) dX3_sendUp_15 (by decide) ?_
    refine J_callVv2 dX3_sendUp_16 (t_X3_sendUpThose_63 (llL G) (llFx G) d u1 a0 0) ym_X3_sendUpThose wd_810 sh_63 rfl (Nat.le_of_ble_eq_true rfl) (fun u2 => ?_)
    refine J_aload_n (j := 0) dX3_sendUp_19 rfl rfl ?_
    refine J_iload_n (j := 1) dX3_sendUp_20 rfl rfl ?_
    refine J_iconst (v := 0) dX3_sendUp_21 (by decide) ?_
    refine J_callVip2 dX3_sendUp_22 (t_X3_countOf_63 (llL G) (llFx G) (d + 1) u2 a0 0) ym_X3_countOf wd_814 sh_63 rfl (Nat.le_of_ble_eq_true rfl) (fun r3 => ?_)
    refine J_aload_n (j := 0) dX3_sendUp_25 rfl rfl ?_
    refine J_getR (b := 64) dX3_sendUp_26 fl_X3_23 sh_63 rfl ?_
    refine J_iload_n (j := 1) dX3_sendUp_29 rfl rfl ?_
    refine J_iconst (v := 1) dX3_sendUp_30 (by decide) ?_
    refine J_isub dX3_sendUp_31 ?_
    refine J_iald dX3_sendUp_32 sh_64 ?_
    refine J_icmp_ne (tgt := 40) dX3_sendUp_33 (by decide) ?_ ?_
    · refine J_iconst (v := 0) dX3_sendUp_40 (by decide) ?_
      exact J_zret dX3_sendUp_41 (fun h => h)
    · refine J_iconst (v := 1) dX3_sendUp_36 (by decide) ?_
      refine J_goto (tgt := 41) dX3_sendUp_37 (by decide) ?_
      exact J_zret dX3_sendUp_41 (fun h => h)
  · refine J_iconst (v := 1) dX3_sendUp_5 (by decide) ?_
    exact J_zret dX3_sendUp_6 (fun h => h)
theorem t_X3_sendUp_63 (l : Launch) (F : llFix) (d : Nat) (u : llMem) (a0 : Int32) : llCt l F yX3_sendUp cX3_sendUp 2 (some .boolean) (d + 2) [.ref (F.2.2.1 63), .int a0] u llI (fx_X3_sendUp_63 u a0) := llCt.of (by decide +kernel) (by exact Nat.le_of_ble_eq_true rfl) (fun G h1 h2 => by subst h1; subst h2; exact tj_X3_sendUp_63 u a0)
def fx_X3_sendDown_63_j51_b19 (u : llMem) (v1 : Int32) (v2 : Int32) (v3 : Int32) : Option ((Int32 × Int32) ⊕ (Int32)) := lt (v3 + 1) (fun v3_1 => some (.inl (v2, v3_1)))
set_option maxRecDepth 20000 in
theorem t_X3_sendDown_63_j51_b19 {G : llG} {d : Nat} (u : llMem) (v1 : Int32) (v2 : Int32) (v3 : Int32) : llJ G RX3 cX3_sendDown 6 (some .boolean) (d + 1) (Sum.elim (fun s' => llJq G 6 19 [(0, .ref (llAd G 63)), (1, .int v1), (2, .int s'.1), (3, .int s'.2)] [] u) (fun e => llJq G 6 57 [(0, .ref (llAd G 63)), (1, .int v1), (2, .int e)] [] u)) 51 [(0, .ref (llAd G 63)), (1, .int v1), (2, .int v2), (3, .int v3)] [] u (fx_X3_sendDown_63_j51_b19 u v1 v2 v3) := by
  unfold fx_X3_sendDown_63_j51_b19
  refine J_iinc (j := 3) (b := 1) (fun v3_1 => [(3, .int v3_1), (0, .ref (llAd G 63)), (1, .int v1), (2, .int v2)]) dX3_sendDown_51 rfl (by decide) (by decide) (fun _ => rfl) (fun v3_1 => ?_)
  refine J_goto (tgt := 19) dX3_sendDown_54 (by decide) ?_
  exact J_cut [1, 2, 3, 0] (lv' := [(0, .ref (llAd G 63)), (1, .int v1), (2, .int v2), (3, .int v3_1)]) rfl (fun h => h)
def fx_X3_sendDown_63_l19 (u : llMem) (v1 : Int32) (s : Int32 × Int32) : Option ((Int32 × Int32) ⊕ (Int32)) := (if (u.1 43 2) ≤ s.2 then some (.inr s.1) else gI s.2 12 (gI (rI u 44 s.2) 30 ((if ¬ (rI u 68 (rI u 44 s.2)) = v1 then fx_X3_sendDown_63_j51_b19 u v1 s.1 s.2 else lt (s.1 + 1) (fun v2_2 => fx_X3_sendDown_63_j51_b19 u v1 v2_2 s.2)))))
set_option maxRecDepth 20000 in
theorem t_X3_sendDown_63_l19 {G : llG} {d : Nat} (u : llMem) (v1 : Int32) (s : Int32 × Int32) : llJ G RX3 cX3_sendDown 6 (some .boolean) (d + 1) (Sum.elim (fun s' => llJq G 6 19 [(0, .ref (llAd G 63)), (1, .int v1), (2, .int s'.1), (3, .int s'.2)] [] u) (fun e => llJq G 6 57 [(0, .ref (llAd G 63)), (1, .int v1), (2, .int e)] [] u)) 19 [(0, .ref (llAd G 63)), (1, .int v1), (2, .int s.1), (3, .int s.2)] [] u (fx_X3_sendDown_63_l19 u v1 s) := by
  unfold fx_X3_sendDown_63_l19
  refine J_iload_n (j := 3) dX3_sendDown_19 rfl rfl ?_
  refine J_aload_n (j := 0) dX3_sendDown_20 rfl rfl ?_
  refine J_getR (b := 43) dX3_sendDown_21 fl_X3_19 sh_63 rfl ?_
  refine J_getI dX3_sendDown_24 fl_X3_122 sh_43 rfl ?_
  refine J_icmp_ge (tgt := 57) dX3_sendDown_27 (by decide) ?_ ?_
  · exact J_cut [0, 1, 2] (lv' := [(0, .ref (llAd G 63)), (1, .int v1), (2, .int s.1)]) rfl (fun h => h)
  · refine J_aload_n (j := 0) dX3_sendDown_30 rfl rfl ?_
    refine J_getR (b := 68) dX3_sendDown_31 fl_X3_36 sh_63 rfl ?_
    refine J_aload_n (j := 0) dX3_sendDown_34 rfl rfl ?_
    refine J_getR (b := 43) dX3_sendDown_35 fl_X3_19 sh_63 rfl ?_
    refine J_getR (b := 44) dX3_sendDown_38 fl_X3_125 sh_43 rfl ?_
    refine J_iload_n (j := 3) dX3_sendDown_41 rfl rfl ?_
    refine J_iald dX3_sendDown_42 sh_44 ?_
    refine J_iald dX3_sendDown_43 sh_68 ?_
    refine J_iload_n (j := 1) dX3_sendDown_44 rfl rfl ?_
    refine J_icmp_ne (tgt := 51) dX3_sendDown_45 (by decide) ?_ ?_
    · refine J_sub [0, 1, 2, 3] (lv' := [(0, .ref (llAd G 63)), (1, .int v1), (2, .int s.1), (3, .int s.2)]) rfl ?_
      exact t_X3_sendDown_63_j51_b19 u v1 s.1 s.2
    · refine J_iinc (j := 2) (b := 1) (fun v2_2 => [(2, .int v2_2), (0, .ref (llAd G 63)), (1, .int v1), (3, .int s.2)]) dX3_sendDown_48 rfl (by decide) (by decide) (fun _ => rfl) (fun v2_2 => ?_)
      refine J_sub [1, 2, 0, 3] (lv' := [(0, .ref (llAd G 63)), (1, .int v1), (2, .int v2_2), (3, .int s.2)]) rfl ?_
      exact t_X3_sendDown_63_j51_b19 u v1 v2_2 s.2
def fx_X3_sendDown_63_j150_b62 (u : llMem) (v1 : Int32) (v2 : Int32) (v3 : Int32) (v4 : Int32) : Option ((llMem × Int32 × Int32) ⊕ (llMem)) := lt (v4 + 1) (fun v4_5 => some (.inl (u, v3, v4_5)))
set_option maxRecDepth 20000 in
theorem t_X3_sendDown_63_j150_b62 {G : llG} {d : Nat} (u : llMem) (v1 : Int32) (v2 : Int32) (v3 : Int32) (v4 : Int32) : llJ G RX3 cX3_sendDown 6 (some .boolean) (d + 1) (Sum.elim (fun s' => llJq G 6 62 [(0, .ref (llAd G 63)), (1, .int v1), (2, .int v2), (3, .int s'.2.1), (4, .int s'.2.2)] [] s'.1) (fun e => llJq G 6 156 [(0, .ref (llAd G 63)), (1, .int v1)] [] e)) 150 [(0, .ref (llAd G 63)), (1, .int v1), (2, .int v2), (3, .int v3), (4, .int v4)] [] u (fx_X3_sendDown_63_j150_b62 u v1 v2 v3 v4) := by
  unfold fx_X3_sendDown_63_j150_b62
  refine J_iinc (j := 4) (b := 1) (fun v4_5 => [(4, .int v4_5), (0, .ref (llAd G 63)), (1, .int v1), (2, .int v2), (3, .int v3)]) dX3_sendDown_150 rfl (by decide) (by decide) (fun _ => rfl) (fun v4_5 => ?_)
  refine J_goto (tgt := 62) dX3_sendDown_153 (by decide) ?_
  exact J_cut [1, 2, 3, 4, 0] (lv' := [(0, .ref (llAd G 63)), (1, .int v1), (2, .int v2), (3, .int v3), (4, .int v4_5)]) rfl (fun h => h)
def fx_X3_sendDown_63_j147_b62 (u : llMem) (v1 : Int32) (v2 : Int32) (v3 : Int32) (v4 : Int32) : Option ((llMem × Int32 × Int32) ⊕ (llMem)) := lt (v3 + 1) (fun v3_6 => fx_X3_sendDown_63_j150_b62 u v1 v2 v3_6 v4)
set_option maxRecDepth 20000 in
theorem t_X3_sendDown_63_j147_b62 {G : llG} {d : Nat} (u : llMem) (v1 : Int32) (v2 : Int32) (v3 : Int32) (v4 : Int32) : llJ G RX3 cX3_sendDown 6 (some .boolean) (d + 1) (Sum.elim (fun s' => llJq G 6 62 [(0, .ref (llAd G 63)), (1, .int v1), (2, .int v2), (3, .int s'.2.1), (4, .int s'.2.2)] [] s'.1) (fun e => llJq G 6 156 [(0, .ref (llAd G 63)), (1, .int v1)] [] e)) 147 [(0, .ref (llAd G 63)), (1, .int v1), (2, .int v2), (3, .int v3), (4, .int v4)] [] u (fx_X3_sendDown_63_j147_b62 u v1 v2 v3 v4) := by
  unfold fx_X3_sendDown_63_j147_b62
  refine J_iinc (j := 3) (b := 1) (fun v3_6 => [(3, .int v3_6), (0, .ref (llAd G 63)), (1, .int v1), (2, .int v2), (4, .int v4)]) dX3_sendDown_147 rfl (by decide) (by decide) (fun _ => rfl) (fun v3_6 => ?_)
  refine J_sub [1, 2, 3, 0, 4] (lv' := [(0, .ref (llAd G 63)), (1, .int v1), (2, .int v2), (3, .int v3_6), (4, .int v4)]) rfl ?_
  exact t_X3_sendDown_63_j150_b62 u v1 v2 v3_6 v4
def fx_X3_sendDown_63_l62 (v1 : Int32) (v2 : Int32) (s : llMem × Int32 × Int32) : Option ((llMem × Int32 × Int32) ⊕ (llMem)) := (if (s.1.1 43 2) ≤ s.2.2 then some (.inr s.1) else gI s.2.2 12 (lt (rI s.1 44 s.2.2) (fun v5_4 => gI v5_4 30 ((if ¬ (rI s.1 68 v5_4) = v1 then fx_X3_sendDown_63_j150_b62 s.1 v1 v2 s.2.1 s.2.2 else gI v1 4 ((if s.2.1 < (v2 - (rI s.1 65 v1)) then gI v1 4 ((if s.2.1 < (v2 - (rI s.1 6 v1)) then fx_X3_sendDown_63_j147_b62 s.1 v1 v2 s.2.1 s.2.2 else bd (fx_X3_add_63 s.1 v1 2 v5_4 v1) (fun u7 _ => fx_X3_sendDown_63_j147_b62 u7 v1 v2 s.2.1 s.2.2))) else bd (fx_X3_add_63 s.1 v1 1 v5_4 (v1 + 1)) (fun u8 _ => fx_X3_sendDown_63_j147_b62 u8 v1 v2 s.2.1 s.2.2))))))))
set_option maxRecDepth 20000 in
theorem t_X3_sendDown_63_l62 {G : llG} {d : Nat} (v1 : Int32) (v2 : Int32) (s : llMem × Int32 × Int32) : llJ G RX3 cX3_sendDown 6 (some .boolean) (d + 1) (Sum.elim (fun s' => llJq G 6 62 [(0, .ref (llAd G 63)), (1, .int v1), (2, .int v2), (3, .int s'.2.1), (4, .int s'.2.2)] [] s'.1) (fun e => llJq G 6 156 [(0, .ref (llAd G 63)), (1, .int v1)] [] e)) 62 [(0, .ref (llAd G 63)), (1, .int v1), (2, .int v2), (3, .int s.2.1), (4, .int s.2.2)] [] s.1 (fx_X3_sendDown_63_l62 v1 v2 s) := by
  unfold fx_X3_sendDown_63_l62
  refine J_iload (j := 4) dX3_sendDown_62 rfl ?_
  refine J_aload_n (j := 0) dX3_sendDown_64 rfl rfl ?_
  refine J_getR (b := 43) dX3_sendDown_65 fl_X3_19 sh_63 rfl ?_
  refine J_getI dX3_sendDown_68 fl_X3_122 sh_43 rfl ?_
  refine J_icmp_ge (tgt := 156) dX3_sendDown_71 (by decide) ?_ ?_
  · exact J_cut [0, 1] (lv' := [(0, .ref (llAd G 63)), (1, .int v1)]) rfl (fun h => h)
  · refine J_aload_n (j := 0) dX3_sendDown_74 rfl rfl ?_
    refine J_getR (b := 43) dX3_sendDown_75 fl_X3_19 sh_63 rfl ?_
    refine J_getR (b := 44) dX3_sendDown_78 fl_X3_125 sh_43 rfl ?_
    refine J_iload (j := 4) dX3_sendDown_81 rfl ?_
    refine J_iald dX3_sendDown_83 sh_44 ?_
    refine J_istoreL (fun v5_4 => [(5, .int v5_4), (0, .ref (llAd G 63)), (1, .int v1), (2, .int v2), (3, .int s.2.1), (4, .int s.2.2)]) dX3_sendDown_84 (by decide) (fun _ => rfl) (fun v5_4 => ?_)
    refine J_aload_n (j := 1) dX3_sendDown_86 rfl rfl ?_
    refine J_getR (b := 68) dX3_sendDown_87 fl_X3_36 sh_63 rfl ?_
    refine J_iload (j := 0) dX3_sendDown_90 rfl ?_
    refine J_iald dX3_sendDown_92 sh_68 ?_
    refine J_iload_n (j := 2) dX3_sendDown_93 rfl rfl ?_
    refine J_icmp_ne (tgt := 150) dX3_sendDown_94 (by decide) ?_ ?_
    · refine J_sub [1, 2, 3, 4, 5] (lv' := [(0, .ref (llAd G 63)), (1, .int v1), (2, .int v2), (3, .int s.2.1), (4, .int s.2.2)]) rfl ?_
      exact t_X3_sendDown_63_j150_b62 s.1 v1 v2 s.2.1 s.2.2
    · refine J_iload_n (j := 4) dX3_sendDown_97 rfl rfl ?_
      refine J_iload_n (j := 3) dX3_sendDown_98 rfl rfl ?_
      refine J_aload_n (j := 1) dX3_sendDown_99 rfl rfl ?_
      refine J_getR (b := 65) dX3_sendDown_100 fl_X3_27 sh_63 rfl ?_
      refine J_iload_n (j := 2) dX3_sendDown_103 rfl rfl ?_
      refine J_iald dX3_sendDown_104 sh_65 ?_
      refine J_isub dX3_sendDown_105 ?_
      refine J_icmp_lt (tgt := 123) dX3_sendDown_106 (by decide) ?_ ?_
      · refine J_iload_n (j := 4) dX3_sendDown_123 rfl rfl ?_
        refine J_iload_n (j := 3) dX3_sendDown_124 rfl rfl ?_
        refine J_aload_n (j := 1) dX3_sendDown_125 rfl rfl ?_
        refine J_getR (b := 3) dX3_sendDown_126 fl_X3_9 sh_63 rfl ?_
        refine J_getR (b := 6) dX3_sendDown_129 fl_X3_104 sh_3 rfl ?_
        refine J_iload_n (j := 2) dX3_sendDown_132 rfl rfl ?_
        refine J_iald dX3_sendDown_133 sh_6 ?_
        refine J_isub dX3_sendDown_134 ?_
        refine J_icmp_lt (tgt := 147) dX3_sendDown_135 (by decide) ?_ ?_
        · refine J_sub [1, 2, 3, 4, 5] (lv' := [(0, .ref (llAd G 63)), (1, .int v1), (2, .int v2), (3, .int s.2.1), (4, .int s.2.2)]) rfl ?_
          exact t_X3_sendDown_63_j147_b62 s.1 v1 v2 s.2.1 s.2.2
        · refine J_aload_n (j := 1) dX3_sendDown_138 rfl rfl ?_
          refine J_iload_n (j := 2) dX3_sendDown_139 rfl rfl ?_
          refine J_iconst (v := 2) dX3_sendDown_140 (by decide) ?_
          refine J_iload (j := 0) dX3_sendDown_141 rfl ?_
          refine J_iload_n (j := 2) dX3_sendDown_143 rfl rfl ?_
          refine J_callVv4 dX3_sendDown_144 (t_X3_add_63 (llL G) (llFx G) d s.1 v1 2 v5_4 v1) ym_X3_add wd_818 sh_63 rfl (Nat.le_of_ble_eq_true rfl) (fun u7 => ?_)
          refine J_sub [1, 2, 3, 4, 5] (lv' := [(0, .ref (llAd G 63)), (1, .int v1), (2, .int v2), (3, .int s.2.1), (4, .int s.2.2)]) rfl ?_
          exact t_X3_sendDown_63_j147_b62 u7 v1 v2 s.2.1 s.2.2
      · refine J_aload_n (j := 1) dX3_sendDown_109 rfl rfl ?_
        refine J_iload_n (j := 2) dX3_sendDown_110 rfl rfl ?_
        refine J_iconst (v := 1) dX3_sendDown_111 (by decide) ?_
        refine J_iload (j := 0) dX3_sendDown_112 rfl ?_
        refine J_iload_n (j := 2) dX3_sendDown_114 rfl rfl ?_
        refine J_iconst (v := 1) dX3_sendDown_115 (by decide) ?_
        refine J_iadd dX3_sendDown_116 ?_
        refine J_callVv4 dX3_sendDown_117 (t_X3_add_63 (llL G) (llFx G) d s.1 v1 1 v5_4 (v1 + 1)) ym_X3_add wd_818 sh_63 rfl (Nat.le_of_ble_eq_true rfl) (fun u8 => ?_)
        refine J_goto (tgt := 147) dX3_sendDown_120 (by decide) ?_
        refine J_sub [1, 2, 3, 4, 5] (lv' := [(0, .ref (llAd G 63)), (1, .int v1), (2, .int v2), (3, .int s.2.1), (4, .int s.2.2)]) rfl ?_
        exact t_X3_sendDown_63_j147_b62 u8 v1 v2 s.2.1 s.2.2
def fx_X3_sendDown_63 (u : llMem) (a0 : Int32) : Option (llMem × Int32) := (if a0 < ((u.1 3 0) - 1) then (loop (fx_X3_sendDown_63_l19 u a0) llFuel (0, 0)).bind (fun e3 => (loop (fx_X3_sendDown_63_l62 a0 e3) llFuel (u, 0, 0)).bind (fun e9 => (fx_X3_countOf_63 e9 a0 1).bind (fun r10 => gI a0 4 ((if ¬ r10 = (rI e9 65 a0) then gB 0 (some (e9, 0)) else gB 1 (some (e9, 1))))))) else gB 1 (some (u, 1)))
set_option maxRecDepth 20000 in
theorem tj_X3_sendDown_63 {G : llG} {d : Nat} (u : llMem) (a0 : Int32) : llJ G RX3 cX3_sendDown 6 (some .boolean) (d + 1) (fun r => llRet G (llI r.2) r.1) 0 [(0, .ref (llAd G 63)), (1, .int a0)] [] u (fx_X3_sendDown_63 u a0) := by
  unfold fx_X3_sendDown_63
  refine J_iload_n (j := 1) dX3_sendDown_0 rfl rfl ?_
  refine J_aload_n (j := 0) dX3_sendDown_1 rfl rfl ?_
  refine J_getR (b := 3) dX3_sendDown_2 fl_X3_9 sh_63 rfl ?_
  refine J_getI dX3_sendDown_5 fl_X3_69 sh_3 rfl ?_
  refine J_iconst (v := 1) dX3_sendDown_8 (by decide) ?_
  refine J_isub dX3_sendDown_9 ?_
  refine J_icmp_lt (tgt := 15) dX3_sendDown_10 (by decide) ?_ ?_
  · refine J_iconst (v := 0) dX3_sendDown_15 (by decide) ?_
    refine J_istore_n [(2, .int 0), (0, .ref (llAd G 63)), (1, .int a0)] dX3_sendDown_16 rfl (by decide) rfl ?_
    refine J_iconst (v := 0) dX3_sendDown_17 (by decide) ?_
    refine J_istore_n [(3, .int 0), (2, .int 0), (0, .ref (llAd G 63)), (1, .int a0)] dX3_sendDown_18 rfl (by decide) rfl ?_
    refine J_loopE (fun s' => [(0, .ref (llAd G 63)), (1, .int a0), (2, .int s'.1), (3, .int s'.2)]) (fun s' => u) 57 (fun e => [(0, .ref (llAd G 63)), (1, .int a0), (2, .int e)]) (fun e => u) (fun z => t_X3_sendDown_63_l19 u a0 z) [2, 3, 1, 0] rfl rfl (fun e3 => ?_)
    refine J_iconst (v := 0) dX3_sendDown_57 (by decide) ?_
    refine J_istore_n [(3, .int 0), (0, .ref (llAd G 63)), (1, .int a0), (2, .int e3)] dX3_sendDown_58 rfl (by decide) rfl ?_
    refine J_iconst (v := 0) dX3_sendDown_59 (by decide) ?_
    refine J_istore [(4, .int 0), (3, .int 0), (0, .ref (llAd G 63)), (1, .int a0), (2, .int e3)] dX3_sendDown_60 (by decide) rfl ?_
    refine J_loopE (fun s' => [(0, .ref (llAd G 63)), (1, .int a0), (2, .int e3), (3, .int s'.2.1), (4, .int s'.2.2)]) (fun s' => s'.1) 156 (fun e => [(0, .ref (llAd G 63)), (1, .int a0)]) (fun e => e) (fun z => t_X3_sendDown_63_l62 a0 e3 z) [2, 3, 4, 1, 0] rfl rfl (fun e9 => ?_)
    refine J_aload_n (j := 0) dX3_sendDown_156 rfl rfl ?_
    refine J_iload_n (j := 1) dX3_sendDown_157 rfl rfl ?_
    refine J_iconst (v := 1) dX3_sendDown_158 (by decide) ?_
    refine J_callVip2 dX3_sendDown_159 (t_X3_countOf_63 (llL G) (llFx G) d e9 a0 1) ym_X3_countOf wd_814 sh_63 rfl (Nat.le_of_ble_eq_true rfl) (fun r10 => ?_)
    refine J_aload_n (j := 0) dX3_sendDown_162 rfl rfl ?_
    refine J_getR (b := 65) dX3_sendDown_163 fl_X3_27 sh_63 rfl ?_
    refine J_iload_n (j := 1) dX3_sendDown_166 rfl rfl ?_
    refine J_iald dX3_sendDown_167 sh_65 ?_
    refine J_icmp_ne (tgt := 175) dX3_sendDown_168 (by decide) ?_ ?_
    · refine J_iconst (v := 0) dX3_sendDown_175 (by decide) ?_
      exact J_zret dX3_sendDown_176 (fun h => h)
    · refine J_iconst (v := 1) dX3_sendDown_171 (by decide) ?_
      refine J_goto (tgt := 176) dX3_sendDown_172 (by decide) ?_
      exact J_zret dX3_sendDown_176 (fun h => h)
  · refine J_iconst (v := 1) dX3_sendDown_13 (by decide) ?_
    exact J_zret dX3_sendDown_14 (fun h => h)
theorem t_X3_sendDown_63 (l : Launch) (F : llFix) (d : Nat) (u : llMem) (a0 : Int32) : llCt l F yX3_sendDown cX3_sendDown 6 (some .boolean) (d + 1) [.ref (F.2.2.1 63), .int a0] u llI (fx_X3_sendDown_63 u a0) := llCt.of (by decide +kernel) (by exact Nat.le_of_ble_eq_true rfl) (fun G h1 h2 => by subst h1; subst h2; exact tj_X3_sendDown_63 u a0)
def fx_X3_weigh_63_l87  (s : llMem × Int32) : Option ((llMem × Int32) ⊕ ((llMem) ⊕ (llMem × Int32))) := (if (s.1.1 3 0) ≤ s.2 then some (.inr (.inl s.1)) else bd (fx_X8_arrange_43 s.1 s.2) (fun u8 _ => bd (fx_X3_sendUp_63 u8 s.2) (fun u9 r10 => (if r10 = 0 then gB 0 (some (.inr (.inr (u9, 0)))) else bd (fx_X3_sendDown_63 u9 s.2) (fun u11 r12 => (if ¬ r12 = 0 then lt (s.2 + 1) (fun v1_13 => some (.inl (u11, v1_13))) else gB 0 (some (.inr (.inr (u11, 0))))))))))
set_option maxRecDepth 20000 in
theorem t_X3_weigh_63_l87 {G : llG} {d : Nat}  (s : llMem × Int32) : llJ G RX3 cX3_weigh 2 (some .boolean) (d + 4) (Sum.elim (fun s' => llJq G 2 87 [(0, .ref (llAd G 63)), (1, .int s'.2)] [] s'.1) (Sum.elim (fun e => llJq G 2 130 [(0, .ref (llAd G 63))] [] e) (fun v => llRet G (llI v.2) v.1))) 87 [(0, .ref (llAd G 63)), (1, .int s.2)] [] s.1 (fx_X3_weigh_63_l87 s) := by
  unfold fx_X3_weigh_63_l87
  refine J_iload_n (j := 1) dX3_weigh_87 rfl rfl ?_
  refine J_aload_n (j := 0) dX3_weigh_88 rfl rfl ?_
  refine J_getR (b := 3) dX3_weigh_89 fl_X3_9 sh_63 rfl ?_
  refine J_getI dX3_weigh_92 fl_X3_69 sh_3 rfl ?_
  refine J_icmp_ge (tgt := 130) dX3_weigh_95 (by decide) ?_ ?_
  · exact J_cut [0] (lv' := [(0, .ref (llAd G 63))]) rfl (fun h => h)
  · refine J_aload_n (j := 0) dX3_weigh_98 rfl rfl ?_
    refine J_getR (b := 43) dX3_weigh_99 fl_X3_19 sh_63 rfl ?_
    refine J_iload_n (j := 1) dX3_weigh_102 rfl rfl ?_
    refine J_callVv1 dX3_weigh_103 (t_X8_arrange_43 (llL G) (llFx G) d s.1 s.2) ym_X8_arrange wd_769 sh_43 rfl (Nat.le_of_ble_eq_true rfl) (fun u8 => ?_)
    refine J_aload_n (j := 0) dX3_weigh_106 rfl rfl ?_
    refine J_iload_n (j := 1) dX3_weigh_107 rfl rfl ?_
    refine J_callVi1 dX3_weigh_108 (t_X3_sendUp_63 (llL G) (llFx G) (d + 1) u8 s.2) ym_X3_sendUp wd_806 sh_63 rfl (Nat.le_of_ble_eq_true rfl) (fun u9 r10 => ?_)
    refine J_if_eq (tgt := 122) dX3_weigh_111 (by decide) ?_ ?_
    · refine J_iconst (v := 0) dX3_weigh_122 (by decide) ?_
      exact J_zret dX3_weigh_123 (fun h => h)
    · refine J_aload_n (j := 0) dX3_weigh_114 rfl rfl ?_
      refine J_iload_n (j := 1) dX3_weigh_115 rfl rfl ?_
      refine J_callVi1 dX3_weigh_116 (t_X3_sendDown_63 (llL G) (llFx G) (d + 2) u9 s.2) ym_X3_sendDown wd_822 sh_63 rfl (Nat.le_of_ble_eq_true rfl) (fun u11 r12 => ?_)
      refine J_if_ne (tgt := 124) dX3_weigh_119 (by decide) ?_ ?_
      · refine J_iinc (j := 1) (b := 1) (fun v1_13 => [(1, .int v1_13), (0, .ref (llAd G 63))]) dX3_weigh_124 rfl (by decide) (by decide) (fun _ => rfl) (fun v1_13 => ?_)
        refine J_goto (tgt := 87) dX3_weigh_127 (by decide) ?_
        exact J_cut [1, 0] (lv' := [(0, .ref (llAd G 63)), (1, .int v1_13)]) rfl (fun h => h)
      · refine J_iconst (v := 0) dX3_weigh_122 (by decide) ?_
        exact J_zret dX3_weigh_123 (fun h => h)
def fx_X3_bringIn_63_j50_b8 (u : llMem) (v1 : Int32) (v2 : Int32) (v3 : Int32) : Option ((llMem × Int32) ⊕ (llMem)) := lt (v3 + 1) (fun v3_3 => some (.inl (u, v3_3)))
set_option maxRecDepth 20000 in
theorem t_X3_bringIn_63_j50_b8 {G : llG} {d : Nat} (u : llMem) (v1 : Int32) (v2 : Int32) (v3 : Int32) : llJ G RX3 cX3_bringIn 4 (some .boolean) (d + 3) (Sum.elim (fun s' => llJq G 4 8 [(0, .ref (llAd G 63)), (1, .int v1), (2, .int v2), (3, .int s'.2)] [] s'.1) (fun e => llJq G 4 56 [(0, .ref (llAd G 63)), (1, .int v1), (2, .int v2)] [] e)) 50 [(0, .ref (llAd G 63)), (1, .int v1), (2, .int v2), (3, .int v3)] [] u (fx_X3_bringIn_63_j50_b8 u v1 v2 v3) := by
  unfold fx_X3_bringIn_63_j50_b8
  refine J_iinc (j := 3) (b := 1) (fun v3_3 => [(3, .int v3_3), (0, .ref (llAd G 63)), (1, .int v1), (2, .int v2)]) dX3_bringIn_50 rfl (by decide) (by decide) (fun _ => rfl) (fun v3_3 => ?_)
  refine J_goto (tgt := 8) dX3_bringIn_53 (by decide) ?_
  exact J_cut [1, 2, 3, 0] (lv' := [(0, .ref (llAd G 63)), (1, .int v1), (2, .int v2), (3, .int v3_3)]) rfl (fun h => h)
def fx_X3_bringIn_63_l8 (v1 : Int32) (v2 : Int32) (s : llMem × Int32) : Option ((llMem × Int32) ⊕ (llMem)) := (if (s.1.1 3 5) ≤ s.2 then some (.inr s.1) else (fx_X3_countOf_63 s.1 v1 3).bind (fun r2 => (if v2 ≤ r2 then some (.inr s.1) else gI s.2 30 ((if ¬ (rI s.1 12 s.2) = ((-1)) then fx_X3_bringIn_63_j50_b8 s.1 v1 v2 s.2 else bd (fx_X3_add_63 s.1 v1 3 s.2 v1) (fun u4 _ => fx_X3_bringIn_63_j50_b8 u4 v1 v2 s.2))))))
set_option maxRecDepth 20000 in
theorem t_X3_bringIn_63_l8 {G : llG} {d : Nat} (v1 : Int32) (v2 : Int32) (s : llMem × Int32) : llJ G RX3 cX3_bringIn 4 (some .boolean) (d + 3) (Sum.elim (fun s' => llJq G 4 8 [(0, .ref (llAd G 63)), (1, .int v1), (2, .int v2), (3, .int s'.2)] [] s'.1) (fun e => llJq G 4 56 [(0, .ref (llAd G 63)), (1, .int v1), (2, .int v2)] [] e)) 8 [(0, .ref (llAd G 63)), (1, .int v1), (2, .int v2), (3, .int s.2)] [] s.1 (fx_X3_bringIn_63_l8 v1 v2 s) := by
  unfold fx_X3_bringIn_63_l8
  refine J_iload_n (j := 3) dX3_bringIn_8 rfl rfl ?_
  refine J_aload_n (j := 0) dX3_bringIn_9 rfl rfl ?_
  refine J_getR (b := 3) dX3_bringIn_10 fl_X3_9 sh_63 rfl ?_
  refine J_getI dX3_bringIn_13 fl_X3_39 sh_3 rfl ?_
  refine J_icmp_ge (tgt := 56) dX3_bringIn_16 (by decide) ?_ ?_
  · exact J_cut [0, 1, 2] (lv' := [(0, .ref (llAd G 63)), (1, .int v1), (2, .int v2)]) rfl (fun h => h)
  · refine J_aload_n (j := 0) dX3_bringIn_19 rfl rfl ?_
    refine J_iload_n (j := 1) dX3_bringIn_20 rfl rfl ?_
    refine J_iconst (v := 3) dX3_bringIn_21 (by decide) ?_
    refine J_callVip2 dX3_bringIn_22 (t_X3_countOf_63 (llL G) (llFx G) (d + 2) s.1 v1 3) ym_X3_countOf wd_814 sh_63 rfl (Nat.le_of_ble_eq_true rfl) (fun r2 => ?_)
    refine J_iload_n (j := 2) dX3_bringIn_25 rfl rfl ?_
    refine J_icmp_ge (tgt := 56) dX3_bringIn_26 (by decide) ?_ ?_
    · exact J_cut [0, 1, 2] (lv' := [(0, .ref (llAd G 63)), (1, .int v1), (2, .int v2)]) rfl (fun h => h)
    · refine J_aload_n (j := 0) dX3_bringIn_29 rfl rfl ?_
      refine J_getR (b := 3) dX3_bringIn_30 fl_X3_9 sh_63 rfl ?_
      refine J_getR (b := 12) dX3_bringIn_33 fl_X3_54 sh_3 rfl ?_
      refine J_iload_n (j := 3) dX3_bringIn_36 rfl rfl ?_
      refine J_iald dX3_bringIn_37 sh_12 ?_
      refine J_iconst (v := (-1)) dX3_bringIn_38 (by decide) ?_
      refine J_icmp_ne (tgt := 50) dX3_bringIn_39 (by decide) ?_ ?_
      · refine J_sub [0, 1, 2, 3] (lv' := [(0, .ref (llAd G 63)), (1, .int v1), (2, .int v2), (3, .int s.2)]) rfl ?_
        exact t_X3_bringIn_63_j50_b8 s.1 v1 v2 s.2
      · refine J_aload_n (j := 0) dX3_bringIn_42 rfl rfl ?_
        refine J_iload_n (j := 1) dX3_bringIn_43 rfl rfl ?_
        refine J_iconst (v := 3) dX3_bringIn_44 (by decide) ?_
        refine J_iload_n (j := 3) dX3_bringIn_45 rfl rfl ?_
        refine J_iload_n (j := 1) dX3_bringIn_46 rfl rfl ?_
        refine J_callVv4 dX3_bringIn_47 (t_X3_add_63 (llL G) (llFx G) (d + 2) s.1 v1 3 s.2 v1) ym_X3_add wd_818 sh_63 rfl (Nat.le_of_ble_eq_true rfl) (fun u4 => ?_)
        refine J_sub [0, 1, 2, 3] (lv' := [(0, .ref (llAd G 63)), (1, .int v1), (2, .int v2), (3, .int s.2)]) rfl ?_
        exact t_X3_bringIn_63_j50_b8 u4 v1 v2 s.2
def fx_X3_bringIn_63 (u : llMem) (a0 : Int32) : Option (llMem × Int32) := (fx_X3_wantingOf_63 u a0).bind (fun r1 => (loop (fx_X3_bringIn_63_l8 a0 r1) llFuel (u, 0)).bind (fun e5 => (fx_X3_countOf_63 e5 a0 3).bind (fun r6 => (if ¬ r6 = r1 then gB 0 (some (e5, 0)) else gB 1 (some (e5, 1))))))
set_option maxRecDepth 20000 in
theorem tj_X3_bringIn_63 {G : llG} {d : Nat} (u : llMem) (a0 : Int32) : llJ G RX3 cX3_bringIn 4 (some .boolean) (d + 3) (fun r => llRet G (llI r.2) r.1) 0 [(0, .ref (llAd G 63)), (1, .int a0)] [] u (fx_X3_bringIn_63 u a0) := by
  unfold fx_X3_bringIn_63
  refine J_aload_n (j := 0) dX3_bringIn_0 rfl rfl ?_
  refine J_iload_n (j := 1) dX3_bringIn_1 rfl rfl ?_
  refine J_callVip1 dX3_bringIn_2 (t_X3_wantingOf_63 (llL G) (llFx G) d u a0) ym_X3_wantingOf wd_752 sh_63 rfl (Nat.le_of_ble_eq_true rfl) (fun r1 => ?_)
  refine J_istore_n [(2, .int r1), (0, .ref (llAd G 63)), (1, .int a0)] dX3_bringIn_5 rfl (by decide) rfl ?_
  refine J_iconst (v := 0) dX3_bringIn_6 (by decide) ?_
  refine J_istore_n [(3, .int 0), (2, .int r1), (0, .ref (llAd G 63)), (1, .int a0)] dX3_bringIn_7 rfl (by decide) rfl ?_
  refine J_loopE (fun s' => [(0, .ref (llAd G 63)), (1, .int a0), (2, .int r1), (3, .int s'.2)]) (fun s' => s'.1) 56 (fun e => [(0, .ref (llAd G 63)), (1, .int a0), (2, .int r1)]) (fun e => e) (fun z => t_X3_bringIn_63_l8 a0 r1 z) [2, 3, 1, 0] rfl rfl (fun e5 => ?_)
  refine J_aload_n (j := 0) dX3_bringIn_56 rfl rfl ?_
  refine J_iload_n (j := 1) dX3_bringIn_57 rfl rfl ?_
  refine J_iconst (v := 3) dX3_bringIn_58 (by decide) ?_
  refine J_callVip2 dX3_bringIn_59 (t_X3_countOf_63 (llL G) (llFx G) (d + 2) e5 a0 3) ym_X3_countOf wd_814 sh_63 rfl (Nat.le_of_ble_eq_true rfl) (fun r6 => ?_)
  refine J_iload_n (j := 2) dX3_bringIn_62 rfl rfl ?_
  refine J_icmp_ne (tgt := 70) dX3_bringIn_63 (by decide) ?_ ?_
  · refine J_iconst (v := 0) dX3_bringIn_70 (by decide) ?_
    exact J_zret dX3_bringIn_71 (fun h => h)
  · refine J_iconst (v := 1) dX3_bringIn_66 (by decide) ?_
    refine J_goto (tgt := 71) dX3_bringIn_67 (by decide) ?_
    exact J_zret dX3_bringIn_71 (fun h => h)
theorem t_X3_bringIn_63 (l : Launch) (F : llFix) (d : Nat) (u : llMem) (a0 : Int32) : llCt l F yX3_bringIn cX3_bringIn 4 (some .boolean) (d + 3) [.ref (F.2.2.1 63), .int a0] u llI (fx_X3_bringIn_63 u a0) := llCt.of (by decide +kernel) (by exact Nat.le_of_ble_eq_true rfl) (fun G h1 h2 => by subst h1; subst h2; exact tj_X3_bringIn_63 u a0)
def fx_X3_weigh_63 (u : llMem)  : Option (llMem × Int32) := bd (fx_J7_fill_53178_66 u 0) (fun u1 _ => (loop (fx_X3_weigh_63_l10) llFuel (u1, 0)).bind (fun e4 => (loop (fx_X3_weigh_63_l61) llFuel (e4, 0)).bind (fun e7 => (loop (fx_X3_weigh_63_l87) llFuel (e7, 0)).bind (Sum.elim (fun e14 => (if (e14.1 3 0) ≤ 0 then gB 0 (some (e14, 0)) else bd (fx_X3_bringIn_63 e14 ((e14.1 3 0) - 1)) (fun u15 r16 => (if r16 = 0 then gB 0 (some (u15, 0)) else gB 1 (some (u15, 1)))))) (fun v => some ((fun v => v) v))))))
set_option maxRecDepth 20000 in
theorem tj_X3_weigh_63 {G : llG} {d : Nat} (u : llMem)  : llJ G RX3 cX3_weigh 2 (some .boolean) (d + 4) (fun r => llRet G (llI r.2) r.1) 0 [(0, .ref (llAd G 63))] [] u (fx_X3_weigh_63 u ) := by
  unfold fx_X3_weigh_63
  refine J_aload_n (j := 0) dX3_weigh_0 rfl rfl ?_
  refine J_getR (b := 66) dX3_weigh_1 fl_X3_30 sh_63 rfl ?_
  refine J_iconst (v := 0) dX3_weigh_4 (by decide) ?_
  refine J_callSv2 dX3_weigh_5 (t_J7_fill_53178_66 (llL G) (llFx G) (d + 3) u 0) ym_J7_fill_53178 wd_747 (Nat.le_of_ble_eq_true rfl) (fun u1 => ?_)
  refine J_iconst (v := 0) dX3_weigh_8 (by decide) ?_
  refine J_istore_n [(1, .int 0), (0, .ref (llAd G 63))] dX3_weigh_9 rfl (by decide) rfl ?_
  refine J_loopE (fun s' => [(0, .ref (llAd G 63)), (1, .int s'.2)]) (fun s' => s'.1) 59 (fun e => [(0, .ref (llAd G 63))]) (fun e => e) (fun z => t_X3_weigh_63_l10 z) [1, 0] rfl rfl (fun e4 => ?_)
  refine J_iconst (v := 0) dX3_weigh_59 (by decide) ?_
  refine J_istore_n [(1, .int 0), (0, .ref (llAd G 63))] dX3_weigh_60 rfl (by decide) rfl ?_
  refine J_loopE (fun s' => [(0, .ref (llAd G 63)), (1, .int s'.2)]) (fun s' => s'.1) 85 (fun e => [(0, .ref (llAd G 63))]) (fun e => e) (fun z => t_X3_weigh_63_l61 z) [1, 0] rfl rfl (fun e7 => ?_)
  refine J_iconst (v := 0) dX3_weigh_85 (by decide) ?_
  refine J_istore_n [(1, .int 0), (0, .ref (llAd G 63))] dX3_weigh_86 rfl (by decide) rfl ?_
  refine J_loopR (wr := (fun v => v)) (fun s' => [(0, .ref (llAd G 63)), (1, .int s'.2)]) (fun s' => s'.1) 130 (fun e => [(0, .ref (llAd G 63))]) (fun e => e) (fun v => llRet G (llI v.2) v.1) (fun z => t_X3_weigh_63_l87 z) [1, 0] rfl rfl (fun v h => h) (fun e14 => ?_)
  refine J_aload_n (j := 0) dX3_weigh_130 rfl rfl ?_
  refine J_getR (b := 3) dX3_weigh_131 fl_X3_9 sh_63 rfl ?_
  refine J_getI dX3_weigh_134 fl_X3_69 sh_3 rfl ?_
  refine J_if_le (tgt := 160) dX3_weigh_137 (by decide) ?_ ?_
  · refine J_iconst (v := 0) dX3_weigh_160 (by decide) ?_
    exact J_zret dX3_weigh_161 (fun h => h)
  · refine J_aload_n (j := 0) dX3_weigh_140 rfl rfl ?_
    refine J_aload_n (j := 0) dX3_weigh_141 rfl rfl ?_
    refine J_getR (b := 3) dX3_weigh_142 fl_X3_9 sh_63 rfl ?_
    refine J_getI dX3_weigh_145 fl_X3_69 sh_3 rfl ?_
    refine J_iconst (v := 1) dX3_weigh_148 (by decide) ?_
    refine J_isub dX3_weigh_149 ?_
    refine J_callVi1 dX3_weigh_150 (t_X3_bringIn_63 (llL G) (llFx G) d e14 ((e14.1 3 0) - 1)) ym_X3_bringIn wd_826 sh_63 rfl (Nat.le_of_ble_eq_true rfl) (fun u15 r16 => ?_)
    refine J_if_eq (tgt := 160) dX3_weigh_153 (by decide) ?_ ?_
    · refine J_iconst (v := 0) dX3_weigh_160 (by decide) ?_
      exact J_zret dX3_weigh_161 (fun h => h)
    · refine J_iconst (v := 1) dX3_weigh_156 (by decide) ?_
      refine J_goto (tgt := 161) dX3_weigh_157 (by decide) ?_
      exact J_zret dX3_weigh_161 (fun h => h)
theorem t_X3_weigh_63 (l : Launch) (F : llFix) (d : Nat) (u : llMem)  : llCt l F yX3_weigh cX3_weigh 2 (some .boolean) (d + 4) [.ref (F.2.2.1 63)] u llI (fx_X3_weigh_63 u ) := llCt.of (by decide +kernel) (by exact Nat.le_of_ble_eq_true rfl) (fun G h1 h2 => by subst h1; subst h2; exact tj_X3_weigh_63 u )
def fx_X3_risenInAll_63_l4 (u : llMem)  (s : Int32 × Int32) : Option ((Int32 × Int32) ⊕ (Int32)) := (if (u.1 3 0) ≤ s.2 then some (.inr s.1) else (fx_X3_countOf_63 u s.2 0).bind (fun r1 => lt (s.1 + r1) (fun v1_2 => lt (s.2 + 1) (fun v2_3 => some (.inl (v1_2, v2_3))))))
set_option maxRecDepth 20000 in
theorem t_X3_risenInAll_63_l4 {G : llG} {d : Nat} (u : llMem)  (s : Int32 × Int32) : llJ G RX3 cX3_risenInAll 3 (some .int) (d + 1) (Sum.elim (fun s' => llJq G 3 4 [(0, .ref (llAd G 63)), (1, .int s'.1), (2, .int s'.2)] [] u) (fun e => llJq G 3 30 [(1, .int e)] [] u)) 4 [(0, .ref (llAd G 63)), (1, .int s.1), (2, .int s.2)] [] u (fx_X3_risenInAll_63_l4 u s) := by
  unfold fx_X3_risenInAll_63_l4
  refine J_iload_n (j := 2) dX3_risenInAll_4 rfl rfl ?_
  refine J_aload_n (j := 0) dX3_risenInAll_5 rfl rfl ?_
  refine J_getR (b := 3) dX3_risenInAll_6 fl_X3_9 sh_63 rfl ?_
  refine J_getI dX3_risenInAll_9 fl_X3_69 sh_3 rfl ?_
  refine J_icmp_ge (tgt := 30) dX3_risenInAll_12 (by decide) ?_ ?_
  · exact J_cut [1] (lv' := [(1, .int s.1)]) rfl (fun h => h)
  · refine J_iload_n (j := 1) dX3_risenInAll_15 rfl rfl ?_
    refine J_aload_n (j := 0) dX3_risenInAll_16 rfl rfl ?_
    refine J_iload_n (j := 2) dX3_risenInAll_17 rfl rfl ?_
    refine J_iconst (v := 0) dX3_risenInAll_18 (by decide) ?_
    refine J_callVip2 dX3_risenInAll_19 (t_X3_countOf_63 (llL G) (llFx G) d u s.2 0) ym_X3_countOf wd_814 sh_63 rfl (Nat.le_of_ble_eq_true rfl) (fun r1 => ?_)
    refine J_iadd dX3_risenInAll_22 ?_
    refine J_istore_nL (fun v1_2 => [(1, .int v1_2), (0, .ref (llAd G 63)), (2, .int s.2)]) dX3_risenInAll_23 rfl (by decide) (fun _ => rfl) (fun v1_2 => ?_)
    refine J_iinc (j := 2) (b := 1) (fun v2_3 => [(2, .int v2_3), (1, .int v1_2), (0, .ref (llAd G 63))]) dX3_risenInAll_24 rfl (by decide) (by decide) (fun _ => rfl) (fun v2_3 => ?_)
    refine J_goto (tgt := 4) dX3_risenInAll_27 (by decide) ?_
    exact J_cut [2, 1, 0] (lv' := [(0, .ref (llAd G 63)), (1, .int v1_2), (2, .int v2_3)]) rfl (fun h => h)
def fx_X3_risenInAll_63 (u : llMem)  : Option Int32 := (loop (fx_X3_risenInAll_63_l4 u) llFuel (0, 0)).bind (fun e4 => some e4)
set_option maxRecDepth 20000 in
theorem tj_X3_risenInAll_63 {G : llG} {d : Nat} (u : llMem)  : llJ G RX3 cX3_risenInAll 3 (some .int) (d + 1) (fun r => llRet G (llI r) u) 0 [(0, .ref (llAd G 63))] [] u (fx_X3_risenInAll_63 u ) := by
  unfold fx_X3_risenInAll_63
  refine J_iconst (v := 0) dX3_risenInAll_0 (by decide) ?_
  refine J_istore_n [(1, .int 0), (0, .ref (llAd G 63))] dX3_risenInAll_1 rfl (by decide) rfl ?_
  refine J_iconst (v := 0) dX3_risenInAll_2 (by decide) ?_
  refine J_istore_n [(2, .int 0), (1, .int 0), (0, .ref (llAd G 63))] dX3_risenInAll_3 rfl (by decide) rfl ?_
  refine J_loopE (fun s' => [(0, .ref (llAd G 63)), (1, .int s'.1), (2, .int s'.2)]) (fun s' => u) 30 (fun e => [(1, .int e)]) (fun e => u) (fun z => t_X3_risenInAll_63_l4 u z) [2, 1, 0] rfl rfl (fun e4 => ?_)
  refine J_iload_n (j := 0) dX3_risenInAll_30 rfl rfl ?_
  exact J_iret dX3_risenInAll_31 (fun h => h)
theorem t_X3_risenInAll_63 (l : Launch) (F : llFix) (d : Nat) (u : llMem)  : llCp l F yX3_risenInAll cX3_risenInAll 3 (some .int) (d + 1) [.ref (F.2.2.1 63)] u llI (fx_X3_risenInAll_63 u ) := llCp.of (by decide +kernel) (by exact Nat.le_of_ble_eq_true rfl) (fun G h1 h2 => by subst h1; subst h2; exact tj_X3_risenInAll_63 u )
def fx_X4_forgetChanged_52_68_j54_b2 (u : llMem) (v2 : Int32) : Option ((llMem × Int32) ⊕ (llMem)) := lt (v2 + 1) (fun v2_1 => some (.inl (u, v2_1)))
set_option maxRecDepth 20000 in
theorem t_X4_forgetChanged_52_68_j54_b2 {G : llG} {d : Nat} (u : llMem) (v2 : Int32) : llJ G RX4 cX4_forgetChanged 3 none (d + 2) (Sum.elim (fun s' => llJq G 3 2 [(0, .ref (llAd G 52)), (1, .ref (llAd G 68)), (2, .int s'.2)] [] s'.1) (fun e => llJq G 3 60 [] [] e)) 54 [(0, .ref (llAd G 52)), (1, .ref (llAd G 68)), (2, .int v2)] [] u (fx_X4_forgetChanged_52_68_j54_b2 u v2) := by
  unfold fx_X4_forgetChanged_52_68_j54_b2
  refine J_iinc (j := 2) (b := 1) (fun v2_1 => [(2, .int v2_1), (0, .ref (llAd G 52)), (1, .ref (llAd G 68))]) dX4_forgetChanged_54 rfl (by decide) (by decide) (fun _ => rfl) (fun v2_1 => ?_)
  refine J_goto (tgt := 2) dX4_forgetChanged_57 (by decide) ?_
  exact J_cut [1, 2, 0] (lv' := [(0, .ref (llAd G 52)), (1, .ref (llAd G 68)), (2, .int v2_1)]) rfl (fun h => h)
def fx_X4_forgetLevel_52 (u : llMem) (a0 : Int32) : Option (llMem × Unit) := (fx_X5_hasLevel_3 u a0).bind (fun r1 => (if r1 = 0 then some (u, ()) else gI a0 4 (lt (llSI u 53 (Int32.toNatClampNeg a0) 0) (fun u2 => some (u2, ())))))
set_option maxRecDepth 20000 in
theorem tj_X4_forgetLevel_52 {G : llG} {d : Nat} (u : llMem) (a0 : Int32) : llJ G RX4 cX4_forgetLevel 2 none (d + 1) (fun r => llRet G (llVd r.2) r.1) 0 [(0, .ref (llAd G 52)), (1, .int a0)] [] u (fx_X4_forgetLevel_52 u a0) := by
  unfold fx_X4_forgetLevel_52
  refine J_aload_n (j := 0) dX4_forgetLevel_0 rfl rfl ?_
  refine J_getR (b := 3) dX4_forgetLevel_1 fl_X4_9 sh_52 rfl ?_
  refine J_iload_n (j := 1) dX4_forgetLevel_4 rfl rfl ?_
  refine J_callVip1 dX4_forgetLevel_5 (t_X5_hasLevel_3 (llL G) (llFx G) d u a0) ym_X5_hasLevel wd_842 sh_3 rfl (Nat.le_of_ble_eq_true rfl) (fun r1 => ?_)
  refine J_if_eq (tgt := 18) dX4_forgetLevel_8 (by decide) ?_ ?_
  · exact J_vret dX4_forgetLevel_18 (fun h => h)
  · refine J_aload_n (j := 0) dX4_forgetLevel_11 rfl rfl ?_
    refine J_getR (b := 53) dX4_forgetLevel_12 fl_X4_19 sh_52 rfl ?_
    refine J_iload_n (j := 1) dX4_forgetLevel_15 rfl rfl ?_
    refine J_iconst (v := 0) dX4_forgetLevel_16 (by decide) ?_
    refine J_iast dX4_forgetLevel_17 sh_53 (fun u2 => ?_)
    exact J_vret dX4_forgetLevel_18 (fun h => h)
theorem t_X4_forgetLevel_52 (l : Launch) (F : llFix) (d : Nat) (u : llMem) (a0 : Int32) : llCt l F yX4_forgetLevel cX4_forgetLevel 2 none (d + 1) [.ref (F.2.2.1 52), .int a0] u llVd (fx_X4_forgetLevel_52 u a0) := llCt.of (by decide +kernel) (by exact Nat.le_of_ble_eq_true rfl) (fun G h1 h2 => by subst h1; subst h2; exact tj_X4_forgetLevel_52 u a0)
def fx_X4_forgetChanged_52_68_l2  (s : llMem × Int32) : Option ((llMem × Int32) ⊕ (llMem)) := (if (s.1.1 3 5) ≤ s.2 then some (.inr s.1) else (if 30 ≤ s.2 then some (.inr s.1) else gI s.2 30 (gI s.2 30 ((if (rI s.1 68 s.2) = (rI s.1 12 s.2) then fx_X4_forgetChanged_52_68_j54_b2 s.1 s.2 else gI s.2 30 (bd (fx_X4_forgetLevel_52 s.1 (rI s.1 68 s.2)) (fun u2 _ => gI s.2 30 (bd (fx_X4_forgetLevel_52 u2 (rI u2 12 s.2)) (fun u3 _ => fx_X4_forgetChanged_52_68_j54_b2 u3 s.2)))))))))
set_option maxRecDepth 20000 in
theorem t_X4_forgetChanged_52_68_l2 {G : llG} {d : Nat}  (s : llMem × Int32) : llJ G RX4 cX4_forgetChanged 3 none (d + 2) (Sum.elim (fun s' => llJq G 3 2 [(0, .ref (llAd G 52)), (1, .ref (llAd G 68)), (2, .int s'.2)] [] s'.1) (fun e => llJq G 3 60 [] [] e)) 2 [(0, .ref (llAd G 52)), (1, .ref (llAd G 68)), (2, .int s.2)] [] s.1 (fx_X4_forgetChanged_52_68_l2 s) := by
  unfold fx_X4_forgetChanged_52_68_l2
  refine J_iload_n (j := 2) dX4_forgetChanged_2 rfl rfl ?_
  refine J_aload_n (j := 0) dX4_forgetChanged_3 rfl rfl ?_
  refine J_getR (b := 3) dX4_forgetChanged_4 fl_X4_9 sh_52 rfl ?_
  refine J_getI dX4_forgetChanged_7 fl_X4_56 sh_3 rfl ?_
  refine J_icmp_ge (tgt := 60) dX4_forgetChanged_10 (by decide) ?_ ?_
  · exact J_cut [] (lv' := []) rfl (fun h => h)
  · refine J_iload_n (j := 2) dX4_forgetChanged_13 rfl rfl ?_
    refine J_aload_n (j := 1) dX4_forgetChanged_14 rfl rfl ?_
    refine J_alen (v := 30) dX4_forgetChanged_15 sh_68 (by decide) (by decide) ?_
    refine J_icmp_ge (tgt := 60) dX4_forgetChanged_16 (by decide) ?_ ?_
    · exact J_cut [] (lv' := []) rfl (fun h => h)
    · refine J_aload_n (j := 1) dX4_forgetChanged_19 rfl rfl ?_
      refine J_iload_n (j := 2) dX4_forgetChanged_20 rfl rfl ?_
      refine J_iald dX4_forgetChanged_21 sh_68 ?_
      refine J_aload_n (j := 0) dX4_forgetChanged_22 rfl rfl ?_
      refine J_getR (b := 3) dX4_forgetChanged_23 fl_X4_9 sh_52 rfl ?_
      refine J_getR (b := 12) dX4_forgetChanged_26 fl_X4_62 sh_3 rfl ?_
      refine J_iload_n (j := 2) dX4_forgetChanged_29 rfl rfl ?_
      refine J_iald dX4_forgetChanged_30 sh_12 ?_
      refine J_icmp_eq (tgt := 54) dX4_forgetChanged_31 (by decide) ?_ ?_
      · refine J_sub [0, 1, 2] (lv' := [(0, .ref (llAd G 52)), (1, .ref (llAd G 68)), (2, .int s.2)]) rfl ?_
        exact t_X4_forgetChanged_52_68_j54_b2 s.1 s.2
      · refine J_aload_n (j := 0) dX4_forgetChanged_34 rfl rfl ?_
        refine J_aload_n (j := 1) dX4_forgetChanged_35 rfl rfl ?_
        refine J_iload_n (j := 2) dX4_forgetChanged_36 rfl rfl ?_
        refine J_iald dX4_forgetChanged_37 sh_68 ?_
        refine J_callVv1 dX4_forgetChanged_38 (t_X4_forgetLevel_52 (llL G) (llFx G) d s.1 (rI s.1 68 s.2)) ym_X4_forgetLevel wd_838 sh_52 rfl (Nat.le_of_ble_eq_true rfl) (fun u2 => ?_)
        refine J_aload_n (j := 0) dX4_forgetChanged_41 rfl rfl ?_
        refine J_aload_n (j := 0) dX4_forgetChanged_42 rfl rfl ?_
        refine J_getR (b := 3) dX4_forgetChanged_43 fl_X4_9 sh_52 rfl ?_
        refine J_getR (b := 12) dX4_forgetChanged_46 fl_X4_62 sh_3 rfl ?_
        refine J_iload_n (j := 2) dX4_forgetChanged_49 rfl rfl ?_
        refine J_iald dX4_forgetChanged_50 sh_12 ?_
        refine J_callVv1 dX4_forgetChanged_51 (t_X4_forgetLevel_52 (llL G) (llFx G) d u2 (rI u2 12 s.2)) ym_X4_forgetLevel wd_838 sh_52 rfl (Nat.le_of_ble_eq_true rfl) (fun u3 => ?_)
        refine J_sub [0, 1, 2] (lv' := [(0, .ref (llAd G 52)), (1, .ref (llAd G 68)), (2, .int s.2)]) rfl ?_
        exact t_X4_forgetChanged_52_68_j54_b2 u3 s.2
def fx_X4_forgetChanged_52_68 (u : llMem)  : Option (llMem × Unit) := (loop (fx_X4_forgetChanged_52_68_l2) llFuel (u, 0)).bind (fun e4 => some (e4, ()))
set_option maxRecDepth 20000 in
theorem tj_X4_forgetChanged_52_68 {G : llG} {d : Nat} (u : llMem)  : llJ G RX4 cX4_forgetChanged 3 none (d + 2) (fun r => llRet G (llVd r.2) r.1) 0 [(0, .ref (llAd G 52)), (1, .ref (llAd G 68))] [] u (fx_X4_forgetChanged_52_68 u ) := by
  unfold fx_X4_forgetChanged_52_68
  refine J_iconst (v := 0) dX4_forgetChanged_0 (by decide) ?_
  refine J_istore_n [(2, .int 0), (0, .ref (llAd G 52)), (1, .ref (llAd G 68))] dX4_forgetChanged_1 rfl (by decide) rfl ?_
  refine J_loopE (fun s' => [(0, .ref (llAd G 52)), (1, .ref (llAd G 68)), (2, .int s'.2)]) (fun s' => s'.1) 60 (fun e => []) (fun e => e) (fun z => t_X4_forgetChanged_52_68_l2 z) [1, 2, 0] rfl rfl (fun e4 => ?_)
  exact J_vret dX4_forgetChanged_60 (fun h => h)
theorem t_X4_forgetChanged_52_68 (l : Launch) (F : llFix) (d : Nat) (u : llMem)  : llCt l F yX4_forgetChanged cX4_forgetChanged 3 none (d + 2) [.ref (F.2.2.1 52), .ref (F.2.2.1 68)] u llVd (fx_X4_forgetChanged_52_68 u ) := llCt.of (by decide +kernel) (by exact Nat.le_of_ble_eq_true rfl) (fun G h1 h2 => by subst h1; subst h2; exact tj_X4_forgetChanged_52_68 u )
def fx_X3_moveClubs_63_l2  (s : llMem × Int32) : Option ((llMem × Int32) ⊕ (llMem)) := (if (s.1.1 3 5) ≤ s.2 then some (.inr s.1) else gI s.2 30 (gI s.2 30 (lt (llSI s.1 12 (Int32.toNatClampNeg s.2) (rI s.1 68 s.2)) (fun u1 => lt (s.2 + 1) (fun v1_2 => some (.inl (u1, v1_2)))))))
set_option maxRecDepth 20000 in
theorem t_X3_moveClubs_63_l2 {G : llG} {d : Nat}  (s : llMem × Int32) : llJ G RX3 cX3_moveClubs 2 none d (Sum.elim (fun s' => llJq G 2 2 [(0, .ref (llAd G 63)), (1, .int s'.2)] [] s'.1) (fun e => llJq G 2 34 [] [] e)) 2 [(0, .ref (llAd G 63)), (1, .int s.2)] [] s.1 (fx_X3_moveClubs_63_l2 s) := by
  unfold fx_X3_moveClubs_63_l2
  refine J_iload_n (j := 1) dX3_moveClubs_2 rfl rfl ?_
  refine J_aload_n (j := 0) dX3_moveClubs_3 rfl rfl ?_
  refine J_getR (b := 3) dX3_moveClubs_4 fl_X3_9 sh_63 rfl ?_
  refine J_getI dX3_moveClubs_7 fl_X3_39 sh_3 rfl ?_
  refine J_icmp_ge (tgt := 34) dX3_moveClubs_10 (by decide) ?_ ?_
  · exact J_cut [] (lv' := []) rfl (fun h => h)
  · refine J_aload_n (j := 0) dX3_moveClubs_13 rfl rfl ?_
    refine J_getR (b := 3) dX3_moveClubs_14 fl_X3_9 sh_63 rfl ?_
    refine J_getR (b := 12) dX3_moveClubs_17 fl_X3_54 sh_3 rfl ?_
    refine J_iload_n (j := 1) dX3_moveClubs_20 rfl rfl ?_
    refine J_aload_n (j := 0) dX3_moveClubs_21 rfl rfl ?_
    refine J_getR (b := 68) dX3_moveClubs_22 fl_X3_36 sh_63 rfl ?_
    refine J_iload_n (j := 1) dX3_moveClubs_25 rfl rfl ?_
    refine J_iald dX3_moveClubs_26 sh_68 ?_
    refine J_iast dX3_moveClubs_27 sh_12 (fun u1 => ?_)
    refine J_iinc (j := 1) (b := 1) (fun v1_2 => [(1, .int v1_2), (0, .ref (llAd G 63))]) dX3_moveClubs_28 rfl (by decide) (by decide) (fun _ => rfl) (fun v1_2 => ?_)
    refine J_goto (tgt := 2) dX3_moveClubs_31 (by decide) ?_
    exact J_cut [1, 0] (lv' := [(0, .ref (llAd G 63)), (1, .int v1_2)]) rfl (fun h => h)
def fx_X3_moveClubs_63 (u : llMem)  : Option (llMem × Unit) := (loop (fx_X3_moveClubs_63_l2) llFuel (u, 0)).bind (fun e3 => some (e3, ()))
set_option maxRecDepth 20000 in
theorem tj_X3_moveClubs_63 {G : llG} {d : Nat} (u : llMem)  : llJ G RX3 cX3_moveClubs 2 none d (fun r => llRet G (llVd r.2) r.1) 0 [(0, .ref (llAd G 63))] [] u (fx_X3_moveClubs_63 u ) := by
  unfold fx_X3_moveClubs_63
  refine J_iconst (v := 0) dX3_moveClubs_0 (by decide) ?_
  refine J_istore_n [(1, .int 0), (0, .ref (llAd G 63))] dX3_moveClubs_1 rfl (by decide) rfl ?_
  refine J_loopE (fun s' => [(0, .ref (llAd G 63)), (1, .int s'.2)]) (fun s' => s'.1) 34 (fun e => []) (fun e => e) (fun z => t_X3_moveClubs_63_l2 z) [1, 0] rfl rfl (fun e3 => ?_)
  exact J_vret dX3_moveClubs_34 (fun h => h)
theorem t_X3_moveClubs_63 (l : Launch) (F : llFix) (d : Nat) (u : llMem)  : llCt l F yX3_moveClubs cX3_moveClubs 2 none d [.ref (F.2.2.1 63)] u llVd (fx_X3_moveClubs_63 u ) := llCt.of (by decide +kernel) (by exact Nat.le_of_ble_eq_true rfl) (fun G h1 h2 => by subst h1; subst h2; exact tj_X3_moveClubs_63 u )
def fx_X5_gather_3_56_j39_b5 (u : llMem) (v1 : Int32) (v3 : Int32) (v4 : Int32) : Option ((llMem × Int32 × Int32) ⊕ (llMem × Int32)) := lt (v4 + 1) (fun v4_1 => some (.inl (u, v3, v4_1)))
set_option maxRecDepth 20000 in
theorem t_X5_gather_3_56_j39_b5 {G : llG} {d : Nat} (u : llMem) (v1 : Int32) (v3 : Int32) (v4 : Int32) : llJ G RX5 cX5_gather 5 (some .int) d (Sum.elim (fun s' => llJq G 5 5 [(0, .ref (llAd G 3)), (1, .int v1), (2, .ref (llAd G 56)), (3, .int s'.2.1), (4, .int s'.2.2)] [] s'.1) (fun e => llJq G 5 45 [(3, .int e.2)] [] e.1)) 39 [(0, .ref (llAd G 3)), (1, .int v1), (2, .ref (llAd G 56)), (3, .int v3), (4, .int v4)] [] u (fx_X5_gather_3_56_j39_b5 u v1 v3 v4) := by
  unfold fx_X5_gather_3_56_j39_b5
  refine J_iinc (j := 4) (b := 1) (fun v4_1 => [(4, .int v4_1), (0, .ref (llAd G 3)), (1, .int v1), (2, .ref (llAd G 56)), (3, .int v3)]) dX5_gather_39 rfl (by decide) (by decide) (fun _ => rfl) (fun v4_1 => ?_)
  refine J_goto (tgt := 5) dX5_gather_42 (by decide) ?_
  exact J_cut [1, 2, 3, 4, 0] (lv' := [(0, .ref (llAd G 3)), (1, .int v1), (2, .ref (llAd G 56)), (3, .int v3), (4, .int v4_1)]) rfl (fun h => h)
def fx_X5_gather_3_56_l5 (v1 : Int32) (s : llMem × Int32 × Int32) : Option ((llMem × Int32 × Int32) ⊕ (llMem × Int32)) := (if (s.1.1 3 5) ≤ s.2.2 then some (.inr (s.1, s.2.1)) else gI s.2.2 30 ((if ¬ (rI s.1 12 s.2.2) = v1 then fx_X5_gather_3_56_j39_b5 s.1 v1 s.2.1 s.2.2 else (if 12 ≤ s.2.1 then fx_X5_gather_3_56_j39_b5 s.1 v1 s.2.1 s.2.2 else gI s.2.1 12 (lt (llSI s.1 56 (Int32.toNatClampNeg s.2.1) s.2.2) (fun u2 => lt (s.2.1 + 1) (fun v3_3 => fx_X5_gather_3_56_j39_b5 u2 v1 v3_3 s.2.2)))))))
set_option maxRecDepth 20000 in
theorem t_X5_gather_3_56_l5 {G : llG} {d : Nat} (v1 : Int32) (s : llMem × Int32 × Int32) : llJ G RX5 cX5_gather 5 (some .int) d (Sum.elim (fun s' => llJq G 5 5 [(0, .ref (llAd G 3)), (1, .int v1), (2, .ref (llAd G 56)), (3, .int s'.2.1), (4, .int s'.2.2)] [] s'.1) (fun e => llJq G 5 45 [(3, .int e.2)] [] e.1)) 5 [(0, .ref (llAd G 3)), (1, .int v1), (2, .ref (llAd G 56)), (3, .int s.2.1), (4, .int s.2.2)] [] s.1 (fx_X5_gather_3_56_l5 v1 s) := by
  unfold fx_X5_gather_3_56_l5
  refine J_iload (j := 4) dX5_gather_5 rfl ?_
  refine J_aload_n (j := 0) dX5_gather_7 rfl rfl ?_
  refine J_getI dX5_gather_8 fl_X5_53 sh_3 rfl ?_
  refine J_icmp_ge (tgt := 45) dX5_gather_11 (by decide) ?_ ?_
  · exact J_cut [3] (lv' := [(3, .int s.2.1)]) rfl (fun h => h)
  · refine J_aload_n (j := 0) dX5_gather_14 rfl rfl ?_
    refine J_getR (b := 12) dX5_gather_15 fl_X5_37 sh_3 rfl ?_
    refine J_iload (j := 4) dX5_gather_18 rfl ?_
    refine J_iald dX5_gather_20 sh_12 ?_
    refine J_iload_n (j := 1) dX5_gather_21 rfl rfl ?_
    refine J_icmp_ne (tgt := 39) dX5_gather_22 (by decide) ?_ ?_
    · refine J_sub [0, 1, 2, 3, 4] (lv' := [(0, .ref (llAd G 3)), (1, .int v1), (2, .ref (llAd G 56)), (3, .int s.2.1), (4, .int s.2.2)]) rfl ?_
      exact t_X5_gather_3_56_j39_b5 s.1 v1 s.2.1 s.2.2
    · refine J_iload_n (j := 3) dX5_gather_25 rfl rfl ?_
      refine J_aload_n (j := 2) dX5_gather_26 rfl rfl ?_
      refine J_alen (v := 12) dX5_gather_27 sh_56 (by decide) (by decide) ?_
      refine J_icmp_ge (tgt := 39) dX5_gather_28 (by decide) ?_ ?_
      · refine J_sub [0, 1, 2, 3, 4] (lv' := [(0, .ref (llAd G 3)), (1, .int v1), (2, .ref (llAd G 56)), (3, .int s.2.1), (4, .int s.2.2)]) rfl ?_
        exact t_X5_gather_3_56_j39_b5 s.1 v1 s.2.1 s.2.2
      · refine J_aload_n (j := 2) dX5_gather_31 rfl rfl ?_
        refine J_iload_n (j := 3) dX5_gather_32 rfl rfl ?_
        refine J_iload (j := 4) dX5_gather_33 rfl ?_
        refine J_iast dX5_gather_35 sh_56 (fun u2 => ?_)
        refine J_iinc (j := 3) (b := 1) (fun v3_3 => [(3, .int v3_3), (0, .ref (llAd G 3)), (1, .int v1), (2, .ref (llAd G 56)), (4, .int s.2.2)]) dX5_gather_36 rfl (by decide) (by decide) (fun _ => rfl) (fun v3_3 => ?_)
        refine J_sub [1, 2, 3, 0, 4] (lv' := [(0, .ref (llAd G 3)), (1, .int v1), (2, .ref (llAd G 56)), (3, .int v3_3), (4, .int s.2.2)]) rfl ?_
        exact t_X5_gather_3_56_j39_b5 u2 v1 v3_3 s.2.2
def fx_X5_gather_3_56 (u : llMem) (a0 : Int32) : Option (llMem × Int32) := (loop (fx_X5_gather_3_56_l5 a0) llFuel (u, 0, 0)).bind (fun e4 => some (e4.1, e4.2))
set_option maxRecDepth 20000 in
theorem tj_X5_gather_3_56 {G : llG} {d : Nat} (u : llMem) (a0 : Int32) : llJ G RX5 cX5_gather 5 (some .int) d (fun r => llRet G (llI r.2) r.1) 0 [(0, .ref (llAd G 3)), (1, .int a0), (2, .ref (llAd G 56))] [] u (fx_X5_gather_3_56 u a0) := by
  unfold fx_X5_gather_3_56
  refine J_iconst (v := 0) dX5_gather_0 (by decide) ?_
  refine J_istore_n [(3, .int 0), (0, .ref (llAd G 3)), (1, .int a0), (2, .ref (llAd G 56))] dX5_gather_1 rfl (by decide) rfl ?_
  refine J_iconst (v := 0) dX5_gather_2 (by decide) ?_
  refine J_istore [(4, .int 0), (3, .int 0), (0, .ref (llAd G 3)), (1, .int a0), (2, .ref (llAd G 56))] dX5_gather_3 (by decide) rfl ?_
  refine J_loopE (fun s' => [(0, .ref (llAd G 3)), (1, .int a0), (2, .ref (llAd G 56)), (3, .int s'.2.1), (4, .int s'.2.2)]) (fun s' => s'.1) 45 (fun e => [(3, .int e.2)]) (fun e => e.1) (fun z => t_X5_gather_3_56_l5 a0 z) [2, 3, 4, 1, 0] rfl rfl (fun e4 => ?_)
  refine J_iload_n (j := 0) dX5_gather_45 rfl rfl ?_
  exact J_iret dX5_gather_46 (fun h => h)
theorem t_X5_gather_3_56 (l : Launch) (F : llFix) (d : Nat) (u : llMem) (a0 : Int32) : llCt l F yX5_gather cX5_gather 5 (some .int) d [.ref (F.2.2.1 3), .int a0, .ref (F.2.2.1 56)] u llI (fx_X5_gather_3_56 u a0) := llCt.of (by decide +kernel) (by exact Nat.le_of_ble_eq_true rfl) (fun G h1 h2 => by subst h1; subst h2; exact tj_X5_gather_3_56 u a0)
def fx_X10_between_48 (u : llMem) (a0 : Int32) (a1 : Int32) : Option Int32 := gI ((a0 * 30) + a1) 900 (some (rI u 49 ((a0 * 30) + a1)))
set_option maxRecDepth 20000 in
theorem tj_X10_between_48 {G : llG} {d : Nat} (u : llMem) (a0 : Int32) (a1 : Int32) : llJ G RX10 cX10_between 3 (some .int) d (fun r => llRet G (llI r) u) 0 [(0, .ref (llAd G 48)), (1, .int a0), (2, .int a1)] [] u (fx_X10_between_48 u a0 a1) := by
  unfold fx_X10_between_48
  refine J_aload_n (j := 0) dX10_between_0 rfl rfl ?_
  refine J_getR (b := 49) dX10_between_1 fl_X10_15 sh_48 rfl ?_
  refine J_iload_n (j := 1) dX10_between_4 rfl rfl ?_
  refine J_bipush (v := 30) dX10_between_5 (by decide) ?_
  refine J_imul dX10_between_7 ?_
  refine J_iload_n (j := 2) dX10_between_8 rfl rfl ?_
  refine J_iadd dX10_between_9 ?_
  refine J_iald dX10_between_10 sh_49 ?_
  exact J_iret dX10_between_11 (fun h => h)
theorem t_X10_between_48 (l : Launch) (F : llFix) (d : Nat) (u : llMem) (a0 : Int32) (a1 : Int32) : llCp l F yX10_between cX10_between 3 (some .int) d [.ref (F.2.2.1 48), .int a0, .int a1] u llI (fx_X10_between_48 u a0 a1) := llCp.of (by decide +kernel) (by exact Nat.le_of_ble_eq_true rfl) (fun G h1 h2 => by subst h1; subst h2; exact tj_X10_between_48 u a0 a1)
def fx_X4_milesTo_52_l4 (u : llMem) (v1 : Int32) (s : Int32 × Int32) : Option ((Int32 × Int32) ⊕ (Int32)) := (if v1 ≤ s.2 then some (.inr s.1) else gI s.2 12 (gI v1 12 ((fx_X10_between_48 u (rI u 57 s.2) (rI u 57 v1)).bind (fun r1 => lt (s.1 + r1) (fun v2_2 => lt (s.2 + 1) (fun v3_3 => some (.inl (v2_2, v3_3))))))))
set_option maxRecDepth 20000 in
theorem t_X4_milesTo_52_l4 {G : llG} {d : Nat} (u : llMem) (v1 : Int32) (s : Int32 × Int32) : llJ G RX4 cX4_milesTo 4 (some .int) (d + 1) (Sum.elim (fun s' => llJq G 4 4 [(0, .ref (llAd G 52)), (1, .int v1), (2, .int s'.1), (3, .int s'.2)] [] u) (fun e => llJq G 4 37 [(2, .int e)] [] u)) 4 [(0, .ref (llAd G 52)), (1, .int v1), (2, .int s.1), (3, .int s.2)] [] u (fx_X4_milesTo_52_l4 u v1 s) := by
  unfold fx_X4_milesTo_52_l4
  refine J_iload_n (j := 3) dX4_milesTo_4 rfl rfl ?_
  refine J_iload_n (j := 1) dX4_milesTo_5 rfl rfl ?_
  refine J_icmp_ge (tgt := 37) dX4_milesTo_6 (by decide) ?_ ?_
  · exact J_cut [2] (lv' := [(2, .int s.1)]) rfl (fun h => h)
  · refine J_iload_n (j := 2) dX4_milesTo_9 rfl rfl ?_
    refine J_aload_n (j := 0) dX4_milesTo_10 rfl rfl ?_
    refine J_getR (b := 48) dX4_milesTo_11 fl_X4_15 sh_52 rfl ?_
    refine J_aload_n (j := 0) dX4_milesTo_14 rfl rfl ?_
    refine J_getR (b := 57) dX4_milesTo_15 fl_X4_32 sh_52 rfl ?_
    refine J_iload_n (j := 3) dX4_milesTo_18 rfl rfl ?_
    refine J_iald dX4_milesTo_19 sh_57 ?_
    refine J_aload_n (j := 0) dX4_milesTo_20 rfl rfl ?_
    refine J_getR (b := 57) dX4_milesTo_21 fl_X4_32 sh_52 rfl ?_
    refine J_iload_n (j := 1) dX4_milesTo_24 rfl rfl ?_
    refine J_iald dX4_milesTo_25 sh_57 ?_
    refine J_callVip2 dX4_milesTo_26 (t_X10_between_48 (llL G) (llFx G) d u (rI u 57 s.2) (rI u 57 v1)) ym_X10_between wd_864 sh_48 rfl (Nat.le_of_ble_eq_true rfl) (fun r1 => ?_)
    refine J_iadd dX4_milesTo_29 ?_
    refine J_istore_nL (fun v2_2 => [(2, .int v2_2), (0, .ref (llAd G 52)), (1, .int v1), (3, .int s.2)]) dX4_milesTo_30 rfl (by decide) (fun _ => rfl) (fun v2_2 => ?_)
    refine J_iinc (j := 3) (b := 1) (fun v3_3 => [(3, .int v3_3), (2, .int v2_2), (0, .ref (llAd G 52)), (1, .int v1)]) dX4_milesTo_31 rfl (by decide) (by decide) (fun _ => rfl) (fun v3_3 => ?_)
    refine J_goto (tgt := 4) dX4_milesTo_34 (by decide) ?_
    exact J_cut [2, 3, 1, 0] (lv' := [(0, .ref (llAd G 52)), (1, .int v1), (2, .int v2_2), (3, .int v3_3)]) rfl (fun h => h)
def fx_X4_milesTo_52 (u : llMem) (a0 : Int32) : Option Int32 := (loop (fx_X4_milesTo_52_l4 u a0) llFuel (0, 0)).bind (fun e4 => some e4)
set_option maxRecDepth 20000 in
theorem tj_X4_milesTo_52 {G : llG} {d : Nat} (u : llMem) (a0 : Int32) : llJ G RX4 cX4_milesTo 4 (some .int) (d + 1) (fun r => llRet G (llI r) u) 0 [(0, .ref (llAd G 52)), (1, .int a0)] [] u (fx_X4_milesTo_52 u a0) := by
  unfold fx_X4_milesTo_52
  refine J_iconst (v := 0) dX4_milesTo_0 (by decide) ?_
  refine J_istore_n [(2, .int 0), (0, .ref (llAd G 52)), (1, .int a0)] dX4_milesTo_1 rfl (by decide) rfl ?_
  refine J_iconst (v := 0) dX4_milesTo_2 (by decide) ?_
  refine J_istore_n [(3, .int 0), (2, .int 0), (0, .ref (llAd G 52)), (1, .int a0)] dX4_milesTo_3 rfl (by decide) rfl ?_
  refine J_loopE (fun s' => [(0, .ref (llAd G 52)), (1, .int a0), (2, .int s'.1), (3, .int s'.2)]) (fun s' => u) 37 (fun e => [(2, .int e)]) (fun e => u) (fun z => t_X4_milesTo_52_l4 u a0 z) [2, 3, 1, 0] rfl rfl (fun e4 => ?_)
  refine J_iload_n (j := 0) dX4_milesTo_37 rfl rfl ?_
  exact J_iret dX4_milesTo_38 (fun h => h)
theorem t_X4_milesTo_52 (l : Launch) (F : llFix) (d : Nat) (u : llMem) (a0 : Int32) : llCp l F yX4_milesTo cX4_milesTo 4 (some .int) (d + 1) [.ref (F.2.2.1 52), .int a0] u llI (fx_X4_milesTo_52 u a0) := llCp.of (by decide +kernel) (by exact Nat.le_of_ble_eq_true rfl) (fun G h1 h2 => by subst h1; subst h2; exact tj_X4_milesTo_52 u a0)
def fx_X4_listSets_52_j121_b50 (rec : llMem → Int32 → Int32 → Int32 → Int32 → Option (llMem × Unit)) (u : llMem) (v1 : Int32) (v3 : Int32) (v4 : Int32) (v5 : Int32) : Option ((llMem × Int32) ⊕ (llMem)) := lt (v5 + 1) (fun v5_4 => some (.inl (u, v5_4)))
set_option maxRecDepth 20000 in
theorem t_X4_listSets_52_j121_b50 {G : llG} {d : Nat} {rec : llMem → Int32 → Int32 → Int32 → Int32 → Option (llMem × Unit)} (hrec : ∀ (u' : llMem) (a0 : Int32) (a1 : Int32) (a2 : Int32) (a3 : Int32), llCt (llL G) (llFx G) yX4_listSets cX4_listSets 6 none (d + 2) [.ref (llAd G 52), .int a0, .int a1, .int a2, .int a3] u' llVd (rec u' a0 a1 a2 a3)) (u : llMem) (v1 : Int32) (v3 : Int32) (v4 : Int32) (v5 : Int32) : llJ G RX4 cX4_listSets 6 none (d + 3) (Sum.elim (fun s' => llJq G 6 50 [(0, .ref (llAd G 52)), (1, .int v1), (3, .int v3), (4, .int v4), (5, .int s'.2)] [] s'.1) (fun e => llJq G 6 127 [] [] e)) 121 [(0, .ref (llAd G 52)), (1, .int v1), (3, .int v3), (4, .int v4), (5, .int v5)] [] u (fx_X4_listSets_52_j121_b50 rec u v1 v3 v4 v5) := by
  unfold fx_X4_listSets_52_j121_b50
  refine J_iinc (j := 4) (b := 1) (fun v5_4 => [(5, .int v5_4), (0, .ref (llAd G 52)), (1, .int v1), (3, .int v3), (4, .int v4)]) dX4_listSets_121 rfl (by decide) (by decide) (fun _ => rfl) (fun v5_4 => ?_)
  refine J_goto (tgt := 50) dX4_listSets_124 (by decide) ?_
  exact J_cut [1, 2, 3, 4, 0] (lv' := [(0, .ref (llAd G 52)), (1, .int v1), (3, .int v3), (4, .int v4), (5, .int v5_4)]) rfl (fun h => h)
def fx_X4_listSets_52_l50 (rec : llMem → Int32 → Int32 → Int32 → Int32 → Option (llMem × Unit)) (v1 : Int32) (v3 : Int32) (v4 : Int32) (s : llMem × Int32) : Option ((llMem × Int32) ⊕ (llMem)) := (if (((s.1.1 52 5) - (s.1.1 52 6)) + v1) < s.2 then some (.inr s.1) else gI s.2 12 (gI v1 12 (lt (llSI s.1 57 (Int32.toNatClampNeg v1) (rI s.1 56 s.2)) (fun u1 => (fx_X4_milesTo_52 u1 v1).bind (fun r2 => bd (rec u1 (v1 + 1) (s.2 + 1) (v3 ||| (1 <<< (s.2 &&& 31))) (v4 + r2)) (fun u3 _ => (if ¬ v1 = 0 then fx_X4_listSets_52_j121_b50 rec u3 v1 v3 v4 s.2 else gI (s.2 + 1) 13 (lt (llSI u3 60 (Int32.toNatClampNeg (s.2 + 1)) (u3.1 52 10)) (fun u5 => fx_X4_listSets_52_j121_b50 rec u5 v1 v3 v4 s.2)))))))))
set_option maxRecDepth 20000 in
theorem t_X4_listSets_52_l50 {G : llG} {d : Nat} {rec : llMem → Int32 → Int32 → Int32 → Int32 → Option (llMem × Unit)} (hrec : ∀ (u' : llMem) (a0 : Int32) (a1 : Int32) (a2 : Int32) (a3 : Int32), llCt (llL G) (llFx G) yX4_listSets cX4_listSets 6 none (d + 2) [.ref (llAd G 52), .int a0, .int a1, .int a2, .int a3] u' llVd (rec u' a0 a1 a2 a3)) (v1 : Int32) (v3 : Int32) (v4 : Int32) (s : llMem × Int32) : llJ G RX4 cX4_listSets 6 none (d + 3) (Sum.elim (fun s' => llJq G 6 50 [(0, .ref (llAd G 52)), (1, .int v1), (3, .int v3), (4, .int v4), (5, .int s'.2)] [] s'.1) (fun e => llJq G 6 127 [] [] e)) 50 [(0, .ref (llAd G 52)), (1, .int v1), (3, .int v3), (4, .int v4), (5, .int s.2)] [] s.1 (fx_X4_listSets_52_l50 rec v1 v3 v4 s) := by
  unfold fx_X4_listSets_52_l50
  refine J_iload (j := 4) dX4_listSets_50 rfl ?_
  refine J_aload_n (j := 0) dX4_listSets_52 rfl rfl ?_
  refine J_getI dX4_listSets_53 fl_X4_89 sh_52 rfl ?_
  refine J_aload_n (j := 0) dX4_listSets_56 rfl rfl ?_
  refine J_getI dX4_listSets_57 fl_X4_95 sh_52 rfl ?_
  refine J_isub dX4_listSets_60 ?_
  refine J_iload_n (j := 1) dX4_listSets_61 rfl rfl ?_
  refine J_iadd dX4_listSets_62 ?_
  refine J_icmp_gt (tgt := 127) dX4_listSets_63 (by decide) ?_ ?_
  · exact J_cut [] (lv' := []) rfl (fun h => h)
  · refine J_aload_n (j := 0) dX4_listSets_66 rfl rfl ?_
    refine J_getR (b := 57) dX4_listSets_67 fl_X4_32 sh_52 rfl ?_
    refine J_iload_n (j := 1) dX4_listSets_70 rfl rfl ?_
    refine J_aload_n (j := 0) dX4_listSets_71 rfl rfl ?_
    refine J_getR (b := 56) dX4_listSets_72 fl_X4_29 sh_52 rfl ?_
    refine J_iload (j := 4) dX4_listSets_75 rfl ?_
    refine J_iald dX4_listSets_77 sh_56 ?_
    refine J_iast dX4_listSets_78 sh_57 (fun u1 => ?_)
    refine J_aload_n (j := 0) dX4_listSets_79 rfl rfl ?_
    refine J_iload_n (j := 1) dX4_listSets_80 rfl rfl ?_
    refine J_iconst (v := 1) dX4_listSets_81 (by decide) ?_
    refine J_iadd dX4_listSets_82 ?_
    refine J_iload (j := 4) dX4_listSets_83 rfl ?_
    refine J_iconst (v := 1) dX4_listSets_85 (by decide) ?_
    refine J_iadd dX4_listSets_86 ?_
    refine J_iload_n (j := 2) dX4_listSets_87 rfl rfl ?_
    refine J_iconst (v := 1) dX4_listSets_88 (by decide) ?_
    refine J_iload (j := 4) dX4_listSets_89 rfl ?_
    refine J_ishl dX4_listSets_91 ?_
    refine J_ior dX4_listSets_92 ?_
    refine J_iload (j := 3) dX4_listSets_93 rfl ?_
    refine J_aload_n (j := 0) dX4_listSets_95 rfl rfl ?_
    refine J_iload_n (j := 1) dX4_listSets_96 rfl rfl ?_
    refine J_callVip1 dX4_listSets_97 (t_X4_milesTo_52 (llL G) (llFx G) (d + 1) u1 v1) ym_X4_milesTo wd_860 sh_52 rfl (Nat.le_of_ble_eq_true rfl) (fun r2 => ?_)
    refine J_iadd dX4_listSets_100 ?_
    refine J_callVv4 dX4_listSets_101 (hrec u1 (v1 + 1) (s.2 + 1) (v3 ||| (1 <<< (s.2 &&& 31))) (v4 + r2)) ym_X4_listSets wd_856 sh_52 rfl (Nat.le_of_ble_eq_true rfl) (fun u3 => ?_)
    refine J_iload_n (j := 1) dX4_listSets_104 rfl rfl ?_
    refine J_if_ne (tgt := 121) dX4_listSets_105 (by decide) ?_ ?_
    · refine J_sub [0, 1, 2, 3, 4] (lv' := [(0, .ref (llAd G 52)), (1, .int v1), (3, .int v3), (4, .int v4), (5, .int s.2)]) rfl ?_
      exact t_X4_listSets_52_j121_b50 hrec u3 v1 v3 v4 s.2
    · refine J_aload_n (j := 0) dX4_listSets_108 rfl rfl ?_
      refine J_getR (b := 60) dX4_listSets_109 fl_X4_41 sh_52 rfl ?_
      refine J_iload (j := 4) dX4_listSets_112 rfl ?_
      refine J_iconst (v := 1) dX4_listSets_114 (by decide) ?_
      refine J_iadd dX4_listSets_115 ?_
      refine J_aload_n (j := 0) dX4_listSets_116 rfl rfl ?_
      refine J_getI dX4_listSets_117 fl_X4_102 sh_52 rfl ?_
      refine J_iast dX4_listSets_120 sh_60 (fun u5 => ?_)
      refine J_sub [0, 1, 2, 3, 4] (lv' := [(0, .ref (llAd G 52)), (1, .int v1), (3, .int v3), (4, .int v4), (5, .int s.2)]) rfl ?_
      exact t_X4_listSets_52_j121_b50 hrec u5 v1 v3 v4 s.2
def fx_X4_listSets_52_body (rec : llMem → Int32 → Int32 → Int32 → Int32 → Option (llMem × Unit)) (u : llMem) (a0 : Int32) (a1 : Int32) (a2 : Int32) (a3 : Int32) : Option (llMem × Unit) := (if a0 < (u.1 52 6) then (loop (fx_X4_listSets_52_l50 rec a0 a2 a3) llFuel (u, a1)).bind (fun e6 => some (e6, ())) else (if 924 ≤ (u.1 52 10) then some (u, ()) else gI (u.1 52 10) 924 (lt (llSI u 58 (Int32.toNatClampNeg (u.1 52 10)) a2) (fun u7 => lt (llSI u7 52 10 ((u7.1 52 10) + 1)) (fun u8 => gI a2 4096 (lt (llSI u8 59 (Int32.toNatClampNeg a2) a3) (fun u9 => some (u9, ()))))))))
set_option maxRecDepth 20000 in
theorem tj_X4_listSets_52 {G : llG} {d : Nat} {rec : llMem → Int32 → Int32 → Int32 → Int32 → Option (llMem × Unit)} (hrec : ∀ (u' : llMem) (a0 : Int32) (a1 : Int32) (a2 : Int32) (a3 : Int32), llCt (llL G) (llFx G) yX4_listSets cX4_listSets 6 none (d + 2) [.ref (llAd G 52), .int a0, .int a1, .int a2, .int a3] u' llVd (rec u' a0 a1 a2 a3)) (u : llMem) (a0 : Int32) (a1 : Int32) (a2 : Int32) (a3 : Int32) : llJ G RX4 cX4_listSets 6 none (d + 3) (fun r => llRet G (llVd r.2) r.1) 0 [(0, .ref (llAd G 52)), (1, .int a0), (2, .int a1), (3, .int a2), (4, .int a3)] [] u (fx_X4_listSets_52_body rec u a0 a1 a2 a3) := by
  unfold fx_X4_listSets_52_body
  refine J_iload_n (j := 1) dX4_listSets_0 rfl rfl ?_
  refine J_aload_n (j := 0) dX4_listSets_1 rfl rfl ?_
  refine J_getI dX4_listSets_2 fl_X4_95 sh_52 rfl ?_
  refine J_icmp_lt (tgt := 47) dX4_listSets_5 (by decide) ?_ ?_
  · refine J_iload_n (j := 2) dX4_listSets_47 rfl rfl ?_
    refine J_istore [(5, .int a1), (0, .ref (llAd G 52)), (1, .int a0), (2, .int a1), (3, .int a2), (4, .int a3)] dX4_listSets_48 (by decide) rfl ?_
    refine J_loopE (fun s' => [(0, .ref (llAd G 52)), (1, .int a0), (3, .int a2), (4, .int a3), (5, .int s'.2)]) (fun s' => s'.1) 127 (fun e => []) (fun e => e) (fun z => t_X4_listSets_52_l50 hrec a0 a2 a3 z) [1, 2, 4, 5, 0] rfl rfl (fun e6 => ?_)
    exact J_vret dX4_listSets_127 (fun h => h)
  · refine J_aload_n (j := 0) dX4_listSets_8 rfl rfl ?_
    refine J_getI dX4_listSets_9 fl_X4_102 sh_52 rfl ?_
    refine J_sipush (v := 924) dX4_listSets_12 (by decide) ?_
    refine J_icmp_ge (tgt := 46) dX4_listSets_15 (by decide) ?_ ?_
    · exact J_vret dX4_listSets_46 (fun h => h)
    · refine J_aload_n (j := 0) dX4_listSets_18 rfl rfl ?_
      refine J_getR (b := 58) dX4_listSets_19 fl_X4_35 sh_52 rfl ?_
      refine J_aload_n (j := 0) dX4_listSets_22 rfl rfl ?_
      refine J_getI dX4_listSets_23 fl_X4_102 sh_52 rfl ?_
      refine J_iload_n (j := 3) dX4_listSets_26 rfl rfl ?_
      refine J_iast dX4_listSets_27 sh_58 (fun u7 => ?_)
      refine J_aload_n (j := 0) dX4_listSets_28 rfl rfl ?_
      refine J_dup dX4_listSets_29 rfl ?_
      refine J_getI dX4_listSets_30 fl_X4_102 sh_52 rfl ?_
      refine J_iconst (v := 1) dX4_listSets_33 (by decide) ?_
      refine J_iadd dX4_listSets_34 ?_
      refine J_putI dX4_listSets_35 fl_X4_102 sh_52 rfl (fun u8 => ?_)
      refine J_aload_n (j := 0) dX4_listSets_38 rfl rfl ?_
      refine J_getR (b := 59) dX4_listSets_39 fl_X4_38 sh_52 rfl ?_
      refine J_iload_n (j := 3) dX4_listSets_42 rfl rfl ?_
      refine J_iload (j := 4) dX4_listSets_43 rfl ?_
      refine J_iast dX4_listSets_45 sh_59 (fun u9 => ?_)
      exact J_vret dX4_listSets_46 (fun h => h)
def fx_X4_listSets_52 : Nat → llMem → Int32 → Int32 → Int32 → Int32 → Option (llMem × Unit)
  | 0 => fun _ _ _ _ _ => none
  | n + 1 => fx_X4_listSets_52_body (fx_X4_listSets_52 n)
theorem t_X4_listSets_52 (l : Launch) (F : llFix) (d : Nat) : ∀ (n : Nat) (u : llMem) (a0 : Int32) (a1 : Int32) (a2 : Int32) (a3 : Int32), llCt l F yX4_listSets cX4_listSets 6 none (d + n + 2) [.ref (F.2.2.1 52), .int a0, .int a1, .int a2, .int a3] u llVd (fx_X4_listSets_52 n u a0 a1 a2 a3)
  | 0, u, a0, a1, a2, a3 => fun r h => by cases h
  | n + 1, u, a0, a1, a2, a3 => llCt.of (by decide +kernel) (by exact Nat.le_of_ble_eq_true rfl) (fun G h1 h2 => by subst h1; subst h2; exact tj_X4_listSets_52 (d := d + n) (rec := fx_X4_listSets_52 n) (fun u' a0 a1 a2 a3 => t_X4_listSets_52 (llL G) (llFx G) d n u' a0 a1 a2 a3) u a0 a1 a2 a3)
