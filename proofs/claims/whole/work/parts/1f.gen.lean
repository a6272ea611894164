def fx_X12_levelThen_69 (u : llMem) (a0 : Int32) : Option Int32 := gI a0 60 ((if (rI u 74 a0) = ((-2)) then some ((-2)) else gI (30 + a0) 1020 ((if ¬ (rI u 77 (30 + a0)) = 1 then gI a0 30 ((if (rI u 92 a0) = 0 then gI a0 30 ((if (rI u 93 a0) = 0 then gI a0 30 ((if (rI u 94 a0) = 0 then gI a0 60 (some (rI u 74 a0)) else some ((u.1 69 1) - 1))) else gI a0 60 (some ((rI u 74 a0) + 1)))) else gI a0 60 (some ((rI u 74 a0) - 1)))) else some ((-2))))))
set_option maxRecDepth 20000 in
theorem tj_X12_levelThen_69 {G : llG} {d : Nat} (u : llMem) (a0 : Int32) : llJ G RX12 cX12_levelThen 2 (some .int) d (fun r => llRet G (llI r) u) 0 [(0, .ref (llAd G 69)), (1, .int a0)] [] u (fx_X12_levelThen_69 u a0) := by
  unfold fx_X12_levelThen_69
  refine J_aload_n (j := 0) dX12_levelThen_0 rfl rfl ?_
  refine J_getR (b := 74) dX12_levelThen_1 fl_X12_23 sh_69 rfl ?_
  refine J_iload_n (j := 1) dX12_levelThen_4 rfl rfl ?_
  refine J_iald dX12_levelThen_5 sh_74 ?_
  refine J_bipush (v := (-2)) dX12_levelThen_6 (by decide) ?_
  refine J_icmp_eq (tgt := 24) dX12_levelThen_8 (by decide) ?_ ?_
  · refine J_bipush (v := (-2)) dX12_levelThen_24 (by decide) ?_
    exact J_iret dX12_levelThen_26 (fun h => h)
  · refine J_aload_n (j := 0) dX12_levelThen_11 rfl rfl ?_
    refine J_getR (b := 77) dX12_levelThen_12 fl_X12_32 sh_69 rfl ?_
    refine J_bipush (v := 30) dX12_levelThen_15 (by decide) ?_
    refine J_iload_n (j := 1) dX12_levelThen_17 rfl rfl ?_
    refine J_iadd dX12_levelThen_18 ?_
    refine J_iald dX12_levelThen_19 sh_77 ?_
    refine J_iconst (v := 1) dX12_levelThen_20 (by decide) ?_
    refine J_icmp_ne (tgt := 27) dX12_levelThen_21 (by decide) ?_ ?_
    · refine J_aload_n (j := 0) dX12_levelThen_27 rfl rfl ?_
      refine J_getR (b := 92) dX12_levelThen_28 fl_X12_82 sh_69 rfl ?_
      refine J_iload_n (j := 1) dX12_levelThen_31 rfl rfl ?_
      refine J_zald dX12_levelThen_32 sh_92 ?_
      refine J_if_eq (tgt := 47) dX12_levelThen_33 (by decide) ?_ ?_
      · refine J_aload_n (j := 0) dX12_levelThen_47 rfl rfl ?_
        refine J_getR (b := 93) dX12_levelThen_48 fl_X12_86 sh_69 rfl ?_
        refine J_iload_n (j := 1) dX12_levelThen_51 rfl rfl ?_
        refine J_zald dX12_levelThen_52 sh_93 ?_
        refine J_if_eq (tgt := 67) dX12_levelThen_53 (by decide) ?_ ?_
        · refine J_aload_n (j := 0) dX12_levelThen_67 rfl rfl ?_
          refine J_getR (b := 94) dX12_levelThen_68 fl_X12_89 sh_69 rfl ?_
          refine J_iload_n (j := 1) dX12_levelThen_71 rfl rfl ?_
          refine J_zald dX12_levelThen_72 sh_94 ?_
          refine J_if_eq (tgt := 85) dX12_levelThen_73 (by decide) ?_ ?_
          · refine J_aload_n (j := 0) dX12_levelThen_85 rfl rfl ?_
            refine J_getR (b := 74) dX12_levelThen_86 fl_X12_23 sh_69 rfl ?_
            refine J_iload_n (j := 1) dX12_levelThen_89 rfl rfl ?_
            refine J_iald dX12_levelThen_90 sh_74 ?_
            exact J_iret dX12_levelThen_91 (fun h => h)
          · refine J_aload_n (j := 0) dX12_levelThen_76 rfl rfl ?_
            refine J_getI dX12_levelThen_77 fl_X12_260 sh_69 rfl ?_
            refine J_iconst (v := 1) dX12_levelThen_80 (by decide) ?_
            refine J_isub dX12_levelThen_81 ?_
            refine J_goto (tgt := 91) dX12_levelThen_82 (by decide) ?_
            exact J_iret dX12_levelThen_91 (fun h => h)
        · refine J_aload_n (j := 0) dX12_levelThen_56 rfl rfl ?_
          refine J_getR (b := 74) dX12_levelThen_57 fl_X12_23 sh_69 rfl ?_
          refine J_iload_n (j := 1) dX12_levelThen_60 rfl rfl ?_
          refine J_iald dX12_levelThen_61 sh_74 ?_
          refine J_iconst (v := 1) dX12_levelThen_62 (by decide) ?_
          refine J_iadd dX12_levelThen_63 ?_
          refine J_goto (tgt := 91) dX12_levelThen_64 (by decide) ?_
          exact J_iret dX12_levelThen_91 (fun h => h)
      · refine J_aload_n (j := 0) dX12_levelThen_36 rfl rfl ?_
        refine J_getR (b := 74) dX12_levelThen_37 fl_X12_23 sh_69 rfl ?_
        refine J_iload_n (j := 1) dX12_levelThen_40 rfl rfl ?_
        refine J_iald dX12_levelThen_41 sh_74 ?_
        refine J_iconst (v := 1) dX12_levelThen_42 (by decide) ?_
        refine J_isub dX12_levelThen_43 ?_
        refine J_goto (tgt := 91) dX12_levelThen_44 (by decide) ?_
        exact J_iret dX12_levelThen_91 (fun h => h)
    · refine J_bipush (v := (-2)) dX12_levelThen_24 (by decide) ?_
      exact J_iret dX12_levelThen_26 (fun h => h)
theorem t_X12_levelThen_69 (l : Launch) (F : llFix) (d : Nat) (u : llMem) (a0 : Int32) : llCp l F yX12_levelThen cX12_levelThen 2 (some .int) d [.ref (F.2.2.1 69), .int a0] u llI (fx_X12_levelThen_69 u a0) := llCp.of (by decide +kernel) (by exact Nat.le_of_ble_eq_true rfl) (fun G h1 h2 => by subst h1; subst h2; exact tj_X12_levelThen_69 u a0)
def fx_X12_close_69_l13  (s : llMem × Int32 × Int32) : Option ((llMem × Int32 × Int32) ⊕ (llMem × Int32)) := (if (s.1.1 69 9) ≤ s.2.2 then some (.inr (s.1, s.2.1)) else (fx_X12_levelThen_69 s.1 s.2.2).bind (fun r3 => gI s.2.2 30 ((fx_X12_one s.1 (rI s.1 92 s.2.2)).bind (fun r4 => lt (s.2.1 + r4) (fun v1_5 => gI s.2.2 60 (lt (llSI s.1 74 (Int32.toNatClampNeg s.2.2) r3) (fun u6 => gI s.2.2 60 (lt (llSI u6 75 (Int32.toNatClampNeg s.2.2) ((-1))) (fun u7 => lt (s.2.2 + 1) (fun v2_8 => some (.inl (u7, v1_5, v2_8))))))))))))
set_option maxRecDepth 20000 in
theorem t_X12_close_69_l13 {G : llG} {d : Nat}  (s : llMem × Int32 × Int32) : llJ G RX12 cX12_close 4 (some .int) (d + 42) (Sum.elim (fun s' => llJq G 4 13 [(0, .ref (llAd G 69)), (1, .int s'.2.1), (2, .int s'.2.2)] [] s'.1) (fun e => llJq G 4 59 [(0, .ref (llAd G 69)), (1, .int e.2)] [] e.1)) 13 [(0, .ref (llAd G 69)), (1, .int s.2.1), (2, .int s.2.2)] [] s.1 (fx_X12_close_69_l13 s) := by
  unfold fx_X12_close_69_l13
  refine J_iload_n (j := 2) dX12_close_13 rfl rfl ?_
  refine J_aload_n (j := 0) dX12_close_14 rfl rfl ?_
  refine J_getI dX12_close_15 fl_X12_263 sh_69 rfl ?_
  refine J_icmp_ge (tgt := 59) dX12_close_18 (by decide) ?_ ?_
  · exact J_cut [0, 1] (lv' := [(0, .ref (llAd G 69)), (1, .int s.2.1)]) rfl (fun h => h)
  · refine J_aload_n (j := 0) dX12_close_21 rfl rfl ?_
    refine J_iload_n (j := 2) dX12_close_22 rfl rfl ?_
    refine J_callVip1 dX12_close_23 (t_X12_levelThen_69 (llL G) (llFx G) (d + 41) s.1 s.2.2) ym_X12_levelThen wd_1569 sh_69 rfl (Nat.le_of_ble_eq_true rfl) (fun r3 => ?_)
    refine J_istore_n [(3, .int r3), (0, .ref (llAd G 69)), (1, .int s.2.1), (2, .int s.2.2)] dX12_close_26 rfl (by decide) rfl ?_
    refine J_iload_n (j := 2) dX12_close_27 rfl rfl ?_
    refine J_aload_n (j := 1) dX12_close_28 rfl rfl ?_
    refine J_getR (b := 92) dX12_close_29 fl_X12_82 sh_69 rfl ?_
    refine J_iload_n (j := 3) dX12_close_32 rfl rfl ?_
    refine J_zald dX12_close_33 sh_92 ?_
    refine J_callSip1 dX12_close_34 (t_X12_one (llL G) (llFx G) (d + 41) s.1 (rI s.1 92 s.2.2)) ym_X12_one wd_1439 (Nat.le_of_ble_eq_true rfl) (fun r4 => ?_)
    refine J_iadd dX12_close_37 ?_
    refine J_istore_nL (fun v1_5 => [(1, .int v1_5), (3, .int r3), (0, .ref (llAd G 69)), (2, .int s.2.2)]) dX12_close_38 rfl (by decide) (fun _ => rfl) (fun v1_5 => ?_)
    refine J_aload_n (j := 2) dX12_close_39 rfl rfl ?_
    refine J_getR (b := 74) dX12_close_40 fl_X12_23 sh_69 rfl ?_
    refine J_iload_n (j := 3) dX12_close_43 rfl rfl ?_
    refine J_iload_n (j := 1) dX12_close_44 rfl rfl ?_
    refine J_iast dX12_close_45 sh_74 (fun u6 => ?_)
    refine J_aload_n (j := 2) dX12_close_46 rfl rfl ?_
    refine J_getR (b := 75) dX12_close_47 fl_X12_26 sh_69 rfl ?_
    refine J_iload_n (j := 3) dX12_close_50 rfl rfl ?_
    refine J_iconst (v := (-1)) dX12_close_51 (by decide) ?_
    refine J_iast dX12_close_52 sh_75 (fun u7 => ?_)
    refine J_iinc (j := 3) (b := 1) (fun v2_8 => [(2, .int v2_8), (1, .int v1_5), (3, .int r3), (0, .ref (llAd G 69))]) dX12_close_53 rfl (by decide) (by decide) (fun _ => rfl) (fun v2_8 => ?_)
    refine J_goto (tgt := 13) dX12_close_56 (by decide) ?_
    exact J_cut [3, 1, 0] (lv' := [(0, .ref (llAd G 69)), (1, .int v1_5), (2, .int v2_8)]) rfl (fun h => h)
def fx_X12_laysParts_69_j48_b7 (u : llMem) (v1 : Int32) (v2 : Int32) : Option ((llMem × Int32) ⊕ (llMem)) := lt (v2 + 1) (fun v2_4 => some (.inl (u, v2_4)))
set_option maxRecDepth 20000 in
theorem t_X12_laysParts_69_j48_b7 {G : llG} {d : Nat} (u : llMem) (v1 : Int32) (v2 : Int32) : llJ G RX12 cX12_laysParts 4 none (d + 41) (Sum.elim (fun s' => llJq G 4 7 [(0, .ref (llAd G 69)), (1, .int v1), (2, .int s'.2)] [] s'.1) (fun e => llJq G 4 54 [(0, .ref (llAd G 69)), (1, .int v1)] [] e)) 48 [(0, .ref (llAd G 69)), (1, .int v1), (2, .int v2)] [] u (fx_X12_laysParts_69_j48_b7 u v1 v2) := by
  unfold fx_X12_laysParts_69_j48_b7
  refine J_iinc (j := 2) (b := 1) (fun v2_4 => [(2, .int v2_4), (0, .ref (llAd G 69)), (1, .int v1)]) dX12_laysParts_48 rfl (by decide) (by decide) (fun _ => rfl) (fun v2_4 => ?_)
  refine J_goto (tgt := 7) dX12_laysParts_51 (by decide) ?_
  exact J_cut [1, 2, 0] (lv' := [(0, .ref (llAd G 69)), (1, .int v1), (2, .int v2_4)]) rfl (fun h => h)
def fx_X12_laysParts_69_l7 (v1 : Int32) (s : llMem × Int32) : Option ((llMem × Int32) ⊕ (llMem)) := (if (s.1.1 69 9) ≤ s.2 then some (.inr s.1) else gI s.2 60 ((if (rI s.1 74 s.2) = v1 then gI (s.1.1 69 41) 12 (lt (llSI s.1 88 (Int32.toNatClampNeg (s.1.1 69 41)) s.2) (fun u2 => lt (llSI u2 69 41 ((u2.1 69 41) + 1)) (fun u3 => fx_X12_laysParts_69_j48_b7 u3 v1 s.2))) else fx_X12_laysParts_69_j48_b7 s.1 v1 s.2)))
set_option maxRecDepth 20000 in
theorem t_X12_laysParts_69_l7 {G : llG} {d : Nat} (v1 : Int32) (s : llMem × Int32) : llJ G RX12 cX12_laysParts 4 none (d + 41) (Sum.elim (fun s' => llJq G 4 7 [(0, .ref (llAd G 69)), (1, .int v1), (2, .int s'.2)] [] s'.1) (fun e => llJq G 4 54 [(0, .ref (llAd G 69)), (1, .int v1)] [] e)) 7 [(0, .ref (llAd G 69)), (1, .int v1), (2, .int s.2)] [] s.1 (fx_X12_laysParts_69_l7 v1 s) := by
  unfold fx_X12_laysParts_69_l7
  refine J_iload_n (j := 2) dX12_laysParts_7 rfl rfl ?_
  refine J_aload_n (j := 0) dX12_laysParts_8 rfl rfl ?_
  refine J_getI dX12_laysParts_9 fl_X12_263 sh_69 rfl ?_
  refine J_icmp_ge (tgt := 54) dX12_laysParts_12 (by decide) ?_ ?_
  · exact J_cut [0, 1] (lv' := [(0, .ref (llAd G 69)), (1, .int v1)]) rfl (fun h => h)
  · refine J_aload_n (j := 0) dX12_laysParts_15 rfl rfl ?_
    refine J_getR (b := 74) dX12_laysParts_16 fl_X12_23 sh_69 rfl ?_
    refine J_iload_n (j := 2) dX12_laysParts_19 rfl rfl ?_
    refine J_iald dX12_laysParts_20 sh_74 ?_
    refine J_iload_n (j := 1) dX12_laysParts_21 rfl rfl ?_
    refine J_icmp_eq (tgt := 28) dX12_laysParts_22 (by decide) ?_ ?_
    · refine J_aload_n (j := 0) dX12_laysParts_28 rfl rfl ?_
      refine J_getR (b := 88) dX12_laysParts_29 fl_X12_70 sh_69 rfl ?_
      refine J_aload_n (j := 0) dX12_laysParts_32 rfl rfl ?_
      refine J_getI dX12_laysParts_33 fl_X12_326 sh_69 rfl ?_
      refine J_iload_n (j := 2) dX12_laysParts_36 rfl rfl ?_
      refine J_iast dX12_laysParts_37 sh_88 (fun u2 => ?_)
      refine J_aload_n (j := 0) dX12_laysParts_38 rfl rfl ?_
      refine J_dup dX12_laysParts_39 rfl ?_
      refine J_getI dX12_laysParts_40 fl_X12_326 sh_69 rfl ?_
      refine J_iconst (v := 1) dX12_laysParts_43 (by decide) ?_
      refine J_iadd dX12_laysParts_44 ?_
      refine J_putI dX12_laysParts_45 fl_X12_326 sh_69 rfl (fun u3 => ?_)
      refine J_sub [0, 1, 2] (lv' := [(0, .ref (llAd G 69)), (1, .int v1), (2, .int s.2)]) rfl ?_
      exact t_X12_laysParts_69_j48_b7 u3 v1 s.2
    · refine J_goto (tgt := 48) dX12_laysParts_25 (by decide) ?_
      refine J_sub [0, 1, 2] (lv' := [(0, .ref (llAd G 69)), (1, .int v1), (2, .int s.2)]) rfl ?_
      exact t_X12_laysParts_69_j48_b7 s.1 v1 s.2
def fx_X12_miles_69_l59 (u : llMem) (v3 : Int32) (s : Int32) : Option ((Int32) ⊕ (Int32)) := (if v3 < ((s + 1) * (s + 1)) then some (.inr s) else lt (s + 1) (fun v4_2 => some (.inl v4_2)))
set_option maxRecDepth 20000 in
theorem t_X12_miles_69_l59 {G : llG} {d : Nat} (u : llMem) (v3 : Int32) (s : Int32) : llJ G RX12 cX12_miles 5 (some .int) d (Sum.elim (fun s' => llJq G 5 59 [(3, .int v3), (4, .int s')] [] u) (fun e => llJq G 5 78 [(4, .int e)] [] u)) 59 [(3, .int v3), (4, .int s)] [] u (fx_X12_miles_69_l59 u v3 s) := by
  unfold fx_X12_miles_69_l59
  refine J_iload (j := 1) dX12_miles_59 rfl ?_
  refine J_iconst (v := 1) dX12_miles_61 (by decide) ?_
  refine J_iadd dX12_miles_62 ?_
  refine J_iload (j := 1) dX12_miles_63 rfl ?_
  refine J_iconst (v := 1) dX12_miles_65 (by decide) ?_
  refine J_iadd dX12_miles_66 ?_
  refine J_imul dX12_miles_67 ?_
  refine J_iload_n (j := 0) dX12_miles_68 rfl rfl ?_
  refine J_icmp_gt (tgt := 78) dX12_miles_69 (by decide) ?_ ?_
  · exact J_cut [1] (lv' := [(4, .int s)]) rfl (fun h => h)
  · refine J_iinc (j := 1) (b := 1) (fun v4_2 => [(4, .int v4_2), (3, .int v3)]) dX12_miles_72 rfl (by decide) (by decide) (fun _ => rfl) (fun v4_2 => ?_)
    refine J_goto (tgt := 59) dX12_miles_75 (by decide) ?_
    exact J_cut [1, 0] (lv' := [(3, .int v3), (4, .int v4_2)]) rfl (fun h => h)
def fx_X12_miles_69 (u : llMem) (a0 : Int32) (a1 : Int32) : Option Int32 := gI a0 60 (gI a1 60 (gI a0 60 (gI a1 60 (gI a0 60 (gI a1 60 (gI a0 60 (gI a1 60 (lt ((((rI u 72 a0) - (rI u 72 a1)) * ((rI u 72 a0) - (rI u 72 a1))) + (((rI u 73 a0) - (rI u 73 a1)) * ((rI u 73 a0) - (rI u 73 a1)))) (fun v3_1 => (loop (fx_X12_miles_69_l59 u v3_1) llFuel 0).bind (fun e3 => some e3))))))))))
set_option maxRecDepth 20000 in
theorem tj_X12_miles_69 {G : llG} {d : Nat} (u : llMem) (a0 : Int32) (a1 : Int32) : llJ G RX12 cX12_miles 5 (some .int) d (fun r => llRet G (llI r) u) 0 [(0, .ref (llAd G 69)), (1, .int a0), (2, .int a1)] [] u (fx_X12_miles_69 u a0 a1) := by
  unfold fx_X12_miles_69
  refine J_aload_n (j := 0) dX12_miles_0 rfl rfl ?_
  refine J_getR (b := 72) dX12_miles_1 fl_X12_17 sh_69 rfl ?_
  refine J_iload_n (j := 1) dX12_miles_4 rfl rfl ?_
  refine J_iald dX12_miles_5 sh_72 ?_
  refine J_aload_n (j := 0) dX12_miles_6 rfl rfl ?_
  refine J_getR (b := 72) dX12_miles_7 fl_X12_17 sh_69 rfl ?_
  refine J_iload_n (j := 2) dX12_miles_10 rfl rfl ?_
  refine J_iald dX12_miles_11 sh_72 ?_
  refine J_isub dX12_miles_12 ?_
  refine J_aload_n (j := 0) dX12_miles_13 rfl rfl ?_
  refine J_getR (b := 72) dX12_miles_14 fl_X12_17 sh_69 rfl ?_
  refine J_iload_n (j := 1) dX12_miles_17 rfl rfl ?_
  refine J_iald dX12_miles_18 sh_72 ?_
  refine J_aload_n (j := 0) dX12_miles_19 rfl rfl ?_
  refine J_getR (b := 72) dX12_miles_20 fl_X12_17 sh_69 rfl ?_
  refine J_iload_n (j := 2) dX12_miles_23 rfl rfl ?_
  refine J_iald dX12_miles_24 sh_72 ?_
  refine J_isub dX12_miles_25 ?_
  refine J_imul dX12_miles_26 ?_
  refine J_aload_n (j := 0) dX12_miles_27 rfl rfl ?_
  refine J_getR (b := 73) dX12_miles_28 fl_X12_20 sh_69 rfl ?_
  refine J_iload_n (j := 1) dX12_miles_31 rfl rfl ?_
  refine J_iald dX12_miles_32 sh_73 ?_
  refine J_aload_n (j := 0) dX12_miles_33 rfl rfl ?_
  refine J_getR (b := 73) dX12_miles_34 fl_X12_20 sh_69 rfl ?_
  refine J_iload_n (j := 2) dX12_miles_37 rfl rfl ?_
  refine J_iald dX12_miles_38 sh_73 ?_
  refine J_isub dX12_miles_39 ?_
  refine J_aload_n (j := 0) dX12_miles_40 rfl rfl ?_
  refine J_getR (b := 73) dX12_miles_41 fl_X12_20 sh_69 rfl ?_
  refine J_iload_n (j := 1) dX12_miles_44 rfl rfl ?_
  refine J_iald dX12_miles_45 sh_73 ?_
  refine J_aload_n (j := 0) dX12_miles_46 rfl rfl ?_
  refine J_getR (b := 73) dX12_miles_47 fl_X12_20 sh_69 rfl ?_
  refine J_iload_n (j := 2) dX12_miles_50 rfl rfl ?_
  refine J_iald dX12_miles_51 sh_73 ?_
  refine J_isub dX12_miles_52 ?_
  refine J_imul dX12_miles_53 ?_
  refine J_iadd dX12_miles_54 ?_
  refine J_istore_nL (fun v3_1 => [(3, .int v3_1), (0, .ref (llAd G 69)), (1, .int a0), (2, .int a1)]) dX12_miles_55 rfl (by decide) (fun _ => rfl) (fun v3_1 => ?_)
  refine J_iconst (v := 0) dX12_miles_56 (by decide) ?_
  refine J_istore [(4, .int 0), (3, .int v3_1), (0, .ref (llAd G 69)), (1, .int a0), (2, .int a1)] dX12_miles_57 (by decide) rfl ?_
  refine J_loopE (fun s' => [(3, .int v3_1), (4, .int s')]) (fun s' => u) 78 (fun e => [(4, .int e)]) (fun e => u) (fun z => t_X12_miles_69_l59 u v3_1 z) [1, 0] rfl rfl (fun e3 => ?_)
  refine J_iload (j := 0) dX12_miles_78 rfl ?_
  exact J_iret dX12_miles_80 (fun h => h)
theorem t_X12_miles_69 (l : Launch) (F : llFix) (d : Nat) (u : llMem) (a0 : Int32) (a1 : Int32) : llCp l F yX12_miles cX12_miles 5 (some .int) d [.ref (F.2.2.1 69), .int a0, .int a1] u llI (fx_X12_miles_69 u a0 a1) := llCp.of (by decide +kernel) (by exact Nat.le_of_ble_eq_true rfl) (fun G h1 h2 => by subst h1; subst h2; exact tj_X12_miles_69 u a0 a1)
def fx_X12_laysParts_69_l80_b70 (v2 : Int32) (s : llMem × Int32) : Option ((llMem × Int32) ⊕ (llMem)) := (if (s.1.1 69 41) ≤ s.2 then some (.inr s.1) else gI v2 12 (gI s.2 12 ((fx_X12_miles_69 s.1 (rI s.1 88 v2) (rI s.1 88 s.2)).bind (fun r7 => gI ((12 * v2) + s.2) 144 (lt (llSI s.1 89 (Int32.toNatClampNeg ((12 * v2) + s.2)) r7) (fun u8 => lt (s.2 + 1) (fun v3_9 => some (.inl (u8, v3_9)))))))))
set_option maxRecDepth 20000 in
theorem t_X12_laysParts_69_l80_b70 {G : llG} {d : Nat} (v2 : Int32) (s : llMem × Int32) : llJ G RX12 cX12_laysParts 4 none (d + 41) (Sum.elim (fun s' => llJq G 4 80 [(0, .ref (llAd G 69)), (2, .int v2), (3, .int s'.2)] [] s'.1) (fun e => llJq G 4 121 [(0, .ref (llAd G 69)), (2, .int v2)] [] e)) 80 [(0, .ref (llAd G 69)), (2, .int v2), (3, .int s.2)] [] s.1 (fx_X12_laysParts_69_l80_b70 v2 s) := by
  unfold fx_X12_laysParts_69_l80_b70
  refine J_iload_n (j := 2) dX12_laysParts_80 rfl rfl ?_
  refine J_aload_n (j := 0) dX12_laysParts_81 rfl rfl ?_
  refine J_getI dX12_laysParts_82 fl_X12_326 sh_69 rfl ?_
  refine J_icmp_ge (tgt := 121) dX12_laysParts_85 (by decide) ?_ ?_
  · exact J_cut [0, 1] (lv' := [(0, .ref (llAd G 69)), (2, .int v2)]) rfl (fun h => h)
  · refine J_aload_n (j := 0) dX12_laysParts_88 rfl rfl ?_
    refine J_getR (b := 89) dX12_laysParts_89 fl_X12_73 sh_69 rfl ?_
    refine J_bipush (v := 12) dX12_laysParts_92 (by decide) ?_
    refine J_iload_n (j := 1) dX12_laysParts_94 rfl rfl ?_
    refine J_imul dX12_laysParts_95 ?_
    refine J_iload_n (j := 2) dX12_laysParts_96 rfl rfl ?_
    refine J_iadd dX12_laysParts_97 ?_
    refine J_aload_n (j := 0) dX12_laysParts_98 rfl rfl ?_
    refine J_aload_n (j := 0) dX12_laysParts_99 rfl rfl ?_
    refine J_getR (b := 88) dX12_laysParts_100 fl_X12_70 sh_69 rfl ?_
    refine J_iload_n (j := 1) dX12_laysParts_103 rfl rfl ?_
    refine J_iald dX12_laysParts_104 sh_88 ?_
    refine J_aload_n (j := 0) dX12_laysParts_105 rfl rfl ?_
    refine J_getR (b := 88) dX12_laysParts_106 fl_X12_70 sh_69 rfl ?_
    refine J_iload_n (j := 2) dX12_laysParts_109 rfl rfl ?_
    refine J_iald dX12_laysParts_110 sh_88 ?_
    refine J_callVip2 dX12_laysParts_111 (t_X12_miles_69 (llL G) (llFx G) (d + 40) s.1 (rI s.1 88 v2) (rI s.1 88 s.2)) ym_X12_miles wd_1577 sh_69 rfl (Nat.le_of_ble_eq_true rfl) (fun r7 => ?_)
    refine J_iast dX12_laysParts_114 sh_89 (fun u8 => ?_)
    refine J_iinc (j := 2) (b := 1) (fun v3_9 => [(3, .int v3_9), (0, .ref (llAd G 69)), (2, .int v2)]) dX12_laysParts_115 rfl (by decide) (by decide) (fun _ => rfl) (fun v3_9 => ?_)
    refine J_goto (tgt := 80) dX12_laysParts_118 (by decide) ?_
    exact J_cut [1, 2, 0] (lv' := [(0, .ref (llAd G 69)), (2, .int v2), (3, .int v3_9)]) rfl (fun h => h)
def fx_X12_laysParts_69_l70  (s : llMem × Int32) : Option ((llMem × Int32) ⊕ (llMem)) := (if (s.1.1 69 41) ≤ s.2 then some (.inr s.1) else (loop (fx_X12_laysParts_69_l80_b70 s.2) llFuel (s.1, 0)).bind (fun e10 => lt (s.2 + 1) (fun v2_11 => some (.inl (e10, v2_11)))))
set_option maxRecDepth 20000 in
theorem t_X12_laysParts_69_l70 {G : llG} {d : Nat}  (s : llMem × Int32) : llJ G RX12 cX12_laysParts 4 none (d + 41) (Sum.elim (fun s' => llJq G 4 70 [(0, .ref (llAd G 69)), (2, .int s'.2)] [] s'.1) (fun e => llJq G 4 127 [(0, .ref (llAd G 69))] [] e)) 70 [(0, .ref (llAd G 69)), (2, .int s.2)] [] s.1 (fx_X12_laysParts_69_l70 s) := by
  unfold fx_X12_laysParts_69_l70
  refine J_iload_n (j := 1) dX12_laysParts_70 rfl rfl ?_
  refine J_aload_n (j := 0) dX12_laysParts_71 rfl rfl ?_
  refine J_getI dX12_laysParts_72 fl_X12_326 sh_69 rfl ?_
  refine J_icmp_ge (tgt := 127) dX12_laysParts_75 (by decide) ?_ ?_
  · exact J_cut [0] (lv' := [(0, .ref (llAd G 69))]) rfl (fun h => h)
  · refine J_iconst (v := 0) dX12_laysParts_78 (by decide) ?_
    refine J_istore_n [(3, .int 0), (0, .ref (llAd G 69)), (2, .int s.2)] dX12_laysParts_79 rfl (by decide) rfl ?_
    refine J_loopE (fun s' => [(0, .ref (llAd G 69)), (2, .int s.2), (3, .int s'.2)]) (fun s' => s'.1) 121 (fun e => [(0, .ref (llAd G 69)), (2, .int s.2)]) (fun e => e) (fun z => t_X12_laysParts_69_l80_b70 s.2 z) [1, 2, 0] rfl rfl (fun e10 => ?_)
    refine J_iinc (j := 1) (b := 1) (fun v2_11 => [(2, .int v2_11), (0, .ref (llAd G 69))]) dX12_laysParts_121 rfl (by decide) (by decide) (fun _ => rfl) (fun v2_11 => ?_)
    refine J_goto (tgt := 70) dX12_laysParts_124 (by decide) ?_
    exact J_cut [1, 0] (lv' := [(0, .ref (llAd G 69)), (2, .int v2_11)]) rfl (fun h => h)
def fx_X12_laysParts_69_l129  (s : llMem × Int32) : Option ((llMem × Int32) ⊕ (llMem)) := (if (s.1.1 69 41) ≤ s.2 then some (.inr s.1) else gI s.2 12 (lt (llSI s.1 90 (Int32.toNatClampNeg s.2) ((-1))) (fun u13 => lt (s.2 + 1) (fun v2_14 => some (.inl (u13, v2_14))))))
set_option maxRecDepth 20000 in
theorem t_X12_laysParts_69_l129 {G : llG} {d : Nat}  (s : llMem × Int32) : llJ G RX12 cX12_laysParts 4 none (d + 41) (Sum.elim (fun s' => llJq G 4 129 [(0, .ref (llAd G 69)), (2, .int s'.2)] [] s'.1) (fun e => llJq G 4 150 [(0, .ref (llAd G 69))] [] e)) 129 [(0, .ref (llAd G 69)), (2, .int s.2)] [] s.1 (fx_X12_laysParts_69_l129 s) := by
  unfold fx_X12_laysParts_69_l129
  refine J_iload_n (j := 1) dX12_laysParts_129 rfl rfl ?_
  refine J_aload_n (j := 0) dX12_laysParts_130 rfl rfl ?_
  refine J_getI dX12_laysParts_131 fl_X12_326 sh_69 rfl ?_
  refine J_icmp_ge (tgt := 150) dX12_laysParts_134 (by decide) ?_ ?_
  · exact J_cut [0] (lv' := [(0, .ref (llAd G 69))]) rfl (fun h => h)
  · refine J_aload_n (j := 0) dX12_laysParts_137 rfl rfl ?_
    refine J_getR (b := 90) dX12_laysParts_138 fl_X12_76 sh_69 rfl ?_
    refine J_iload_n (j := 1) dX12_laysParts_141 rfl rfl ?_
    refine J_iconst (v := (-1)) dX12_laysParts_142 (by decide) ?_
    refine J_iast dX12_laysParts_143 sh_90 (fun u13 => ?_)
    refine J_iinc (j := 1) (b := 1) (fun v2_14 => [(2, .int v2_14), (0, .ref (llAd G 69))]) dX12_laysParts_144 rfl (by decide) (by decide) (fun _ => rfl) (fun v2_14 => ?_)
    refine J_goto (tgt := 129) dX12_laysParts_147 (by decide) ?_
    exact J_cut [1, 0] (lv' := [(0, .ref (llAd G 69)), (2, .int v2_14)]) rfl (fun h => h)
def fx_X12_fills_69_j153_b114_b79 (rec : llMem → Int32 → Int32 → Int32 → Int32 → Option (llMem × Unit)) (u : llMem) (v1 : Int32) (v2 : Int32) (v4 : Int32) (v5 : Int32) (v6 : Int32) (v8 : Int32) (t0 : Int32) (t1 : Int32) : Option ((Int32 × Int32) ⊕ (Int32)) := lt (t0 + t1) (fun v7_2 => lt (v8 + 1) (fun v8_3 => some (.inl (v7_2, v8_3))))
set_option maxRecDepth 20000 in
theorem t_X12_fills_69_j153_b114_b79 {G : llG} {d : Nat} {rec : llMem → Int32 → Int32 → Int32 → Int32 → Option (llMem × Unit)} (hrec : ∀ (u' : llMem) (a0 : Int32) (a1 : Int32) (a2 : Int32) (a3 : Int32), llCt (llL G) (llFx G) yX12_fills cX12_fills 9 none (d + 0) [.ref (llAd G 69), .int a0, .int a1, .int a2, .int a3] u' llVd (rec u' a0 a1 a2 a3)) (u : llMem) (v1 : Int32) (v2 : Int32) (v4 : Int32) (v5 : Int32) (v6 : Int32) (v8 : Int32) (t0 : Int32) (t1 : Int32) : llJ G RX12 cX12_fills 9 none (d + 1) (Sum.elim (fun s' => llJq G 9 114 [(0, .ref (llAd G 69)), (1, .int v1), (2, .int v2), (4, .int v4), (5, .int v5), (6, .int v6), (7, .int s'.1), (8, .int s'.2)] [] u) (fun e => llJq G 9 162 [(0, .ref (llAd G 69)), (1, .int v1), (2, .int v2), (4, .int v4), (5, .int v5), (6, .int v6), (7, .int e)] [] u)) 153 [(0, .ref (llAd G 69)), (1, .int v1), (2, .int v2), (4, .int v4), (5, .int v5), (6, .int v6), (8, .int v8)] [.int t1, .int t0] u (fx_X12_fills_69_j153_b114_b79 rec u v1 v2 v4 v5 v6 v8 t0 t1) := by
  unfold fx_X12_fills_69_j153_b114_b79
  refine J_iadd dX12_fills_153 ?_
  refine J_istoreL (fun v7_2 => [(7, .int v7_2), (0, .ref (llAd G 69)), (1, .int v1), (2, .int v2), (4, .int v4), (5, .int v5), (6, .int v6), (8, .int v8)]) dX12_fills_154 (by decide) (fun _ => rfl) (fun v7_2 => ?_)
  refine J_iinc (j := 7) (b := 1) (fun v8_3 => [(8, .int v8_3), (7, .int v7_2), (0, .ref (llAd G 69)), (1, .int v1), (2, .int v2), (4, .int v4), (5, .int v5), (6, .int v6)]) dX12_fills_156 rfl (by decide) (by decide) (fun _ => rfl) (fun v8_3 => ?_)
  refine J_goto (tgt := 114) dX12_fills_159 (by decide) ?_
  exact J_cut [2, 3, 4, 5, 6, 7, 1, 0] (lv' := [(0, .ref (llAd G 69)), (1, .int v1), (2, .int v2), (4, .int v4), (5, .int v5), (6, .int v6), (7, .int v7_2), (8, .int v8_3)]) rfl (fun h => h)
def fx_X12_fills_69_l114_b79 (rec : llMem → Int32 → Int32 → Int32 → Int32 → Option (llMem × Unit)) (u : llMem) (v1 : Int32) (v2 : Int32) (v4 : Int32) (v5 : Int32) (v6 : Int32) (s : Int32 × Int32) : Option ((Int32 × Int32) ⊕ (Int32)) := (if (u.1 69 41) ≤ s.2 then some (.inr s.1) else gI s.2 12 ((if ¬ (rI u 90 s.2) = v1 then fx_X12_fills_69_j153_b114_b79 rec u v1 v2 v4 v5 v6 s.2 s.1 0 else gI ((12 * v6) + s.2) 144 (fx_X12_fills_69_j153_b114_b79 rec u v1 v2 v4 v5 v6 s.2 s.1 (rI u 89 ((12 * v6) + s.2))))))
set_option maxRecDepth 20000 in
theorem t_X12_fills_69_l114_b79 {G : llG} {d : Nat} {rec : llMem → Int32 → Int32 → Int32 → Int32 → Option (llMem × Unit)} (hrec : ∀ (u' : llMem) (a0 : Int32) (a1 : Int32) (a2 : Int32) (a3 : Int32), llCt (llL G) (llFx G) yX12_fills cX12_fills 9 none (d + 0) [.ref (llAd G 69), .int a0, .int a1, .int a2, .int a3] u' llVd (rec u' a0 a1 a2 a3)) (u : llMem) (v1 : Int32) (v2 : Int32) (v4 : Int32) (v5 : Int32) (v6 : Int32) (s : Int32 × Int32) : llJ G RX12 cX12_fills 9 none (d + 1) (Sum.elim (fun s' => llJq G 9 114 [(0, .ref (llAd G 69)), (1, .int v1), (2, .int v2), (4, .int v4), (5, .int v5), (6, .int v6), (7, .int s'.1), (8, .int s'.2)] [] u) (fun e => llJq G 9 162 [(0, .ref (llAd G 69)), (1, .int v1), (2, .int v2), (4, .int v4), (5, .int v5), (6, .int v6), (7, .int e)] [] u)) 114 [(0, .ref (llAd G 69)), (1, .int v1), (2, .int v2), (4, .int v4), (5, .int v5), (6, .int v6), (7, .int s.1), (8, .int s.2)] [] u (fx_X12_fills_69_l114_b79 rec u v1 v2 v4 v5 v6 s) := by
  unfold fx_X12_fills_69_l114_b79
  refine J_iload (j := 7) dX12_fills_114 rfl ?_
  refine J_aload_n (j := 0) dX12_fills_116 rfl rfl ?_
  refine J_getI dX12_fills_117 fl_X12_326 sh_69 rfl ?_
  refine J_icmp_ge (tgt := 162) dX12_fills_120 (by decide) ?_ ?_
  · exact J_cut [0, 1, 2, 3, 4, 5, 6] (lv' := [(0, .ref (llAd G 69)), (1, .int v1), (2, .int v2), (4, .int v4), (5, .int v5), (6, .int v6), (7, .int s.1)]) rfl (fun h => h)
  · refine J_iload (j := 6) dX12_fills_123 rfl ?_
    refine J_aload_n (j := 0) dX12_fills_125 rfl rfl ?_
    refine J_getR (b := 90) dX12_fills_126 fl_X12_76 sh_69 rfl ?_
    refine J_iload (j := 7) dX12_fills_129 rfl ?_
    refine J_iald dX12_fills_131 sh_90 ?_
    refine J_iload_n (j := 1) dX12_fills_132 rfl rfl ?_
    refine J_icmp_ne (tgt := 152) dX12_fills_133 (by decide) ?_ ?_
    · refine J_iconst (v := 0) dX12_fills_152 (by decide) ?_
      refine J_sub [0, 1, 2, 3, 4, 5, 7] (lv' := [(0, .ref (llAd G 69)), (1, .int v1), (2, .int v2), (4, .int v4), (5, .int v5), (6, .int v6), (8, .int s.2)]) rfl ?_
      exact t_X12_fills_69_j153_b114_b79 hrec u v1 v2 v4 v5 v6 s.2 s.1 0
    · refine J_aload_n (j := 0) dX12_fills_136 rfl rfl ?_
      refine J_getR (b := 89) dX12_fills_137 fl_X12_73 sh_69 rfl ?_
      refine J_bipush (v := 12) dX12_fills_140 (by decide) ?_
      refine J_iload (j := 5) dX12_fills_142 rfl ?_
      refine J_imul dX12_fills_144 ?_
      refine J_iload (j := 7) dX12_fills_145 rfl ?_
      refine J_iadd dX12_fills_147 ?_
      refine J_iald dX12_fills_148 sh_89 ?_
      refine J_goto (tgt := 153) dX12_fills_149 (by decide) ?_
      refine J_sub [0, 1, 2, 3, 4, 5, 7] (lv' := [(0, .ref (llAd G 69)), (1, .int v1), (2, .int v2), (4, .int v4), (5, .int v5), (6, .int v6), (8, .int s.2)]) rfl ?_
      exact t_X12_fills_69_j153_b114_b79 hrec u v1 v2 v4 v5 v6 s.2 s.1 (rI u 89 ((12 * v6) + s.2))
def fx_X12_fills_69_j222_b79 (rec : llMem → Int32 → Int32 → Int32 → Int32 → Option (llMem × Unit)) (u : llMem) (v1 : Int32) (v2 : Int32) (v4 : Int32) (v5 : Int32) (v6 : Int32) : Option ((llMem × Int32 × Int32) ⊕ (llMem)) := lt (v6 + 1) (fun v6_8 => some (.inl (u, v5, v6_8)))
set_option maxRecDepth 20000 in
theorem t_X12_fills_69_j222_b79 {G : llG} {d : Nat} {rec : llMem → Int32 → Int32 → Int32 → Int32 → Option (llMem × Unit)} (hrec : ∀ (u' : llMem) (a0 : Int32) (a1 : Int32) (a2 : Int32) (a3 : Int32), llCt (llL G) (llFx G) yX12_fills cX12_fills 9 none (d + 0) [.ref (llAd G 69), .int a0, .int a1, .int a2, .int a3] u' llVd (rec u' a0 a1 a2 a3)) (u : llMem) (v1 : Int32) (v2 : Int32) (v4 : Int32) (v5 : Int32) (v6 : Int32) : llJ G RX12 cX12_fills 9 none (d + 1) (Sum.elim (fun s' => llJq G 9 79 [(0, .ref (llAd G 69)), (1, .int v1), (2, .int v2), (4, .int v4), (5, .int s'.2.1), (6, .int s'.2.2)] [] s'.1) (fun e => llJq G 9 228 [] [] e)) 222 [(0, .ref (llAd G 69)), (1, .int v1), (2, .int v2), (4, .int v4), (5, .int v5), (6, .int v6)] [] u (fx_X12_fills_69_j222_b79 rec u v1 v2 v4 v5 v6) := by
  unfold fx_X12_fills_69_j222_b79
  refine J_iinc (j := 5) (b := 1) (fun v6_8 => [(6, .int v6_8), (0, .ref (llAd G 69)), (1, .int v1), (2, .int v2), (4, .int v4), (5, .int v5)]) dX12_fills_222 rfl (by decide) (by decide) (fun _ => rfl) (fun v6_8 => ?_)
  refine J_goto (tgt := 79) dX12_fills_225 (by decide) ?_
  exact J_cut [1, 2, 3, 4, 5, 0] (lv' := [(0, .ref (llAd G 69)), (1, .int v1), (2, .int v2), (4, .int v4), (5, .int v5), (6, .int v6_8)]) rfl (fun h => h)
def fx_X12_fills_69_j214_b79 (rec : llMem → Int32 → Int32 → Int32 → Int32 → Option (llMem × Unit)) (u : llMem) (v1 : Int32) (v2 : Int32) (v4 : Int32) (v5 : Int32) (v6 : Int32) : Option ((llMem × Int32 × Int32) ⊕ (llMem)) := gI v6 12 (lt (llSI u 90 (Int32.toNatClampNeg v6) ((-1))) (fun u7 => fx_X12_fills_69_j222_b79 rec u7 v1 v2 v4 v5 v6))
set_option maxRecDepth 20000 in
theorem t_X12_fills_69_j214_b79 {G : llG} {d : Nat} {rec : llMem → Int32 → Int32 → Int32 → Int32 → Option (llMem × Unit)} (hrec : ∀ (u' : llMem) (a0 : Int32) (a1 : Int32) (a2 : Int32) (a3 : Int32), llCt (llL G) (llFx G) yX12_fills cX12_fills 9 none (d + 0) [.ref (llAd G 69), .int a0, .int a1, .int a2, .int a3] u' llVd (rec u' a0 a1 a2 a3)) (u : llMem) (v1 : Int32) (v2 : Int32) (v4 : Int32) (v5 : Int32) (v6 : Int32) : llJ G RX12 cX12_fills 9 none (d + 1) (Sum.elim (fun s' => llJq G 9 79 [(0, .ref (llAd G 69)), (1, .int v1), (2, .int v2), (4, .int v4), (5, .int s'.2.1), (6, .int s'.2.2)] [] s'.1) (fun e => llJq G 9 228 [] [] e)) 214 [(0, .ref (llAd G 69)), (1, .int v1), (2, .int v2), (4, .int v4), (5, .int v5), (6, .int v6)] [] u (fx_X12_fills_69_j214_b79 rec u v1 v2 v4 v5 v6) := by
  unfold fx_X12_fills_69_j214_b79
  refine J_aload_n (j := 0) dX12_fills_214 rfl rfl ?_
  refine J_getR (b := 90) dX12_fills_215 fl_X12_76 sh_69 rfl ?_
  refine J_iload (j := 5) dX12_fills_218 rfl ?_
  refine J_iconst (v := (-1)) dX12_fills_220 (by decide) ?_
  refine J_iast dX12_fills_221 sh_90 (fun u7 => ?_)
  refine J_sub [0, 1, 2, 3, 4, 5] (lv' := [(0, .ref (llAd G 69)), (1, .int v1), (2, .int v2), (4, .int v4), (5, .int v5), (6, .int v6)]) rfl ?_
  exact t_X12_fills_69_j222_b79 hrec u7 v1 v2 v4 v5 v6
def fx_X12_fills_69_j108_b79 (rec : llMem → Int32 → Int32 → Int32 → Int32 → Option (llMem × Unit)) (u : llMem) (v1 : Int32) (v2 : Int32) (v4 : Int32) (v5 : Int32) (v6 : Int32) : Option ((llMem × Int32 × Int32) ⊕ (llMem)) := (loop (fx_X12_fills_69_l114_b79 rec u v1 v2 v4 v5 v6) llFuel (0, 0)).bind (fun e4 => gI v6 12 (lt (llSI u 90 (Int32.toNatClampNeg v6) v1) (fun u5 => (if ¬ (v2 + 1) = (u5.1 69 42) then bd (rec u5 v1 (v2 + 1) (v6 + 1) (v4 + e4)) (fun u6 _ => fx_X12_fills_69_j214_b79 rec u6 v1 v2 v4 v5 v6) else bd (rec u5 (v1 + 1) 0 0 (v4 + e4)) (fun u9 _ => fx_X12_fills_69_j214_b79 rec u9 v1 v2 v4 v5 v6)))))
set_option maxRecDepth 20000 in
theorem t_X12_fills_69_j108_b79 {G : llG} {d : Nat} {rec : llMem → Int32 → Int32 → Int32 → Int32 → Option (llMem × Unit)} (hrec : ∀ (u' : llMem) (a0 : Int32) (a1 : Int32) (a2 : Int32) (a3 : Int32), llCt (llL G) (llFx G) yX12_fills cX12_fills 9 none (d + 0) [.ref (llAd G 69), .int a0, .int a1, .int a2, .int a3] u' llVd (rec u' a0 a1 a2 a3)) (u : llMem) (v1 : Int32) (v2 : Int32) (v4 : Int32) (v5 : Int32) (v6 : Int32) : llJ G RX12 cX12_fills 9 none (d + 1) (Sum.elim (fun s' => llJq G 9 79 [(0, .ref (llAd G 69)), (1, .int v1), (2, .int v2), (4, .int v4), (5, .int s'.2.1), (6, .int s'.2.2)] [] s'.1) (fun e => llJq G 9 228 [] [] e)) 108 [(0, .ref (llAd G 69)), (1, .int v1), (2, .int v2), (4, .int v4), (5, .int v5), (6, .int v6)] [] u (fx_X12_fills_69_j108_b79 rec u v1 v2 v4 v5 v6) := by
  unfold fx_X12_fills_69_j108_b79
  refine J_iconst (v := 0) dX12_fills_108 (by decide) ?_
  refine J_istore [(7, .int 0), (0, .ref (llAd G 69)), (1, .int v1), (2, .int v2), (4, .int v4), (5, .int v5), (6, .int v6)] dX12_fills_109 (by decide) rfl ?_
  refine J_iconst (v := 0) dX12_fills_111 (by decide) ?_
  refine J_istore [(8, .int 0), (7, .int 0), (0, .ref (llAd G 69)), (1, .int v1), (2, .int v2), (4, .int v4), (5, .int v5), (6, .int v6)] dX12_fills_112 (by decide) rfl ?_
  refine J_loopE (fun s' => [(0, .ref (llAd G 69)), (1, .int v1), (2, .int v2), (4, .int v4), (5, .int v5), (6, .int v6), (7, .int s'.1), (8, .int s'.2)]) (fun s' => u) 162 (fun e => [(0, .ref (llAd G 69)), (1, .int v1), (2, .int v2), (4, .int v4), (5, .int v5), (6, .int v6), (7, .int e)]) (fun e => u) (fun z => t_X12_fills_69_l114_b79 hrec u v1 v2 v4 v5 v6 z) [2, 3, 4, 5, 6, 7, 1, 0] rfl rfl (fun e4 => ?_)
  refine J_aload_n (j := 0) dX12_fills_162 rfl rfl ?_
  refine J_getR (b := 90) dX12_fills_163 fl_X12_76 sh_69 rfl ?_
  refine J_iload (j := 5) dX12_fills_166 rfl ?_
  refine J_iload_n (j := 1) dX12_fills_168 rfl rfl ?_
  refine J_iast dX12_fills_169 sh_90 (fun u5 => ?_)
  refine J_iload_n (j := 2) dX12_fills_170 rfl rfl ?_
  refine J_iconst (v := 1) dX12_fills_171 (by decide) ?_
  refine J_iadd dX12_fills_172 ?_
  refine J_aload_n (j := 0) dX12_fills_173 rfl rfl ?_
  refine J_getI dX12_fills_174 fl_X12_329 sh_69 rfl ?_
  refine J_icmp_ne (tgt := 197) dX12_fills_177 (by decide) ?_ ?_
  · refine J_aload_n (j := 0) dX12_fills_197 rfl rfl ?_
    refine J_iload_n (j := 1) dX12_fills_198 rfl rfl ?_
    refine J_iload_n (j := 2) dX12_fills_199 rfl rfl ?_
    refine J_iconst (v := 1) dX12_fills_200 (by decide) ?_
    refine J_iadd dX12_fills_201 ?_
    refine J_iload (j := 5) dX12_fills_202 rfl ?_
    refine J_iconst (v := 1) dX12_fills_204 (by decide) ?_
    refine J_iadd dX12_fills_205 ?_
    refine J_iload (j := 3) dX12_fills_206 rfl ?_
    refine J_iload (j := 6) dX12_fills_208 rfl ?_
    refine J_iadd dX12_fills_210 ?_
    refine J_callVv4 dX12_fills_211 (hrec u5 v1 (v2 + 1) (v6 + 1) (v4 + e4)) ym_X12_fills wd_1581 sh_69 rfl (Nat.le_of_ble_eq_true rfl) (fun u6 => ?_)
    refine J_sub [0, 1, 2, 3, 4, 5] (lv' := [(0, .ref (llAd G 69)), (1, .int v1), (2, .int v2), (4, .int v4), (5, .int v5), (6, .int v6)]) rfl ?_
    exact t_X12_fills_69_j214_b79 hrec u6 v1 v2 v4 v5 v6
  · refine J_aload_n (j := 0) dX12_fills_180 rfl rfl ?_
    refine J_iload_n (j := 1) dX12_fills_181 rfl rfl ?_
    refine J_iconst (v := 1) dX12_fills_182 (by decide) ?_
    refine J_iadd dX12_fills_183 ?_
    refine J_iconst (v := 0) dX12_fills_184 (by decide) ?_
    refine J_iconst (v := 0) dX12_fills_185 (by decide) ?_
    refine J_iload (j := 3) dX12_fills_186 rfl ?_
    refine J_iload (j := 6) dX12_fills_188 rfl ?_
    refine J_iadd dX12_fills_190 ?_
    refine J_callVv4 dX12_fills_191 (hrec u5 (v1 + 1) 0 0 (v4 + e4)) ym_X12_fills wd_1581 sh_69 rfl (Nat.le_of_ble_eq_true rfl) (fun u9 => ?_)
    refine J_goto (tgt := 214) dX12_fills_194 (by decide) ?_
    refine J_sub [0, 1, 2, 3, 4, 5] (lv' := [(0, .ref (llAd G 69)), (1, .int v1), (2, .int v2), (4, .int v4), (5, .int v5), (6, .int v6)]) rfl ?_
    exact t_X12_fills_69_j214_b79 hrec u9 v1 v2 v4 v5 v6
def fx_X12_fills_69_l79 (rec : llMem → Int32 → Int32 → Int32 → Int32 → Option (llMem × Unit)) (v1 : Int32) (v2 : Int32) (v4 : Int32) (s : llMem × Int32 × Int32) : Option ((llMem × Int32 × Int32) ⊕ (llMem)) := (if s.2.1 ≤ s.2.2 then some (.inr s.1) else gI s.2.2 12 ((if (rI s.1 90 s.2.2) = ((-1)) then (if ¬ v2 = 0 then fx_X12_fills_69_j108_b79 rec s.1 v1 v2 v4 s.2.1 s.2.2 else fx_X12_fills_69_j108_b79 rec s.1 v1 v2 v4 s.2.2 s.2.2) else fx_X12_fills_69_j222_b79 rec s.1 v1 v2 v4 s.2.1 s.2.2)))
set_option maxRecDepth 20000 in
theorem t_X12_fills_69_l79 {G : llG} {d : Nat} {rec : llMem → Int32 → Int32 → Int32 → Int32 → Option (llMem × Unit)} (hrec : ∀ (u' : llMem) (a0 : Int32) (a1 : Int32) (a2 : Int32) (a3 : Int32), llCt (llL G) (llFx G) yX12_fills cX12_fills 9 none (d + 0) [.ref (llAd G 69), .int a0, .int a1, .int a2, .int a3] u' llVd (rec u' a0 a1 a2 a3)) (v1 : Int32) (v2 : Int32) (v4 : Int32) (s : llMem × Int32 × Int32) : llJ G RX12 cX12_fills 9 none (d + 1) (Sum.elim (fun s' => llJq G 9 79 [(0, .ref (llAd G 69)), (1, .int v1), (2, .int v2), (4, .int v4), (5, .int s'.2.1), (6, .int s'.2.2)] [] s'.1) (fun e => llJq G 9 228 [] [] e)) 79 [(0, .ref (llAd G 69)), (1, .int v1), (2, .int v2), (4, .int v4), (5, .int s.2.1), (6, .int s.2.2)] [] s.1 (fx_X12_fills_69_l79 rec v1 v2 v4 s) := by
  unfold fx_X12_fills_69_l79
  refine J_iload (j := 5) dX12_fills_79 rfl ?_
  refine J_iload (j := 4) dX12_fills_81 rfl ?_
  refine J_icmp_ge (tgt := 228) dX12_fills_83 (by decide) ?_ ?_
  · exact J_cut [] (lv' := []) rfl (fun h => h)
  · refine J_aload_n (j := 0) dX12_fills_86 rfl rfl ?_
    refine J_getR (b := 90) dX12_fills_87 fl_X12_76 sh_69 rfl ?_
    refine J_iload (j := 5) dX12_fills_90 rfl ?_
    refine J_iald dX12_fills_92 sh_90 ?_
    refine J_iconst (v := (-1)) dX12_fills_93 (by decide) ?_
    refine J_icmp_eq (tgt := 100) dX12_fills_94 (by decide) ?_ ?_
    · refine J_iload_n (j := 2) dX12_fills_100 rfl rfl ?_
      refine J_if_ne (tgt := 108) dX12_fills_101 (by decide) ?_ ?_
      · refine J_sub [0, 1, 2, 3, 4, 5] (lv' := [(0, .ref (llAd G 69)), (1, .int v1), (2, .int v2), (4, .int v4), (5, .int s.2.1), (6, .int s.2.2)]) rfl ?_
        exact t_X12_fills_69_j108_b79 hrec s.1 v1 v2 v4 s.2.1 s.2.2
      · refine J_iload (j := 5) dX12_fills_104 rfl ?_
        refine J_istore [(5, .int s.2.2), (0, .ref (llAd G 69)), (1, .int v1), (2, .int v2), (4, .int v4), (6, .int s.2.2)] dX12_fills_106 (by decide) rfl ?_
        refine J_sub [1, 2, 3, 4, 0, 5] (lv' := [(0, .ref (llAd G 69)), (1, .int v1), (2, .int v2), (4, .int v4), (5, .int s.2.2), (6, .int s.2.2)]) rfl ?_
        exact t_X12_fills_69_j108_b79 hrec s.1 v1 v2 v4 s.2.2 s.2.2
    · refine J_goto (tgt := 222) dX12_fills_97 (by decide) ?_
      refine J_sub [0, 1, 2, 3, 4, 5] (lv' := [(0, .ref (llAd G 69)), (1, .int v1), (2, .int v2), (4, .int v4), (5, .int s.2.1), (6, .int s.2.2)]) rfl ?_
      exact t_X12_fills_69_j222_b79 hrec s.1 v1 v2 v4 s.2.1 s.2.2
def fx_X12_fills_69_l40 (rec : llMem → Int32 → Int32 → Int32 → Int32 → Option (llMem × Unit))  (s : llMem × Int32) : Option ((llMem × Int32) ⊕ (llMem)) := (if (s.1.1 69 41) ≤ s.2 then some (.inr s.1) else gI s.2 12 (gI s.2 12 (lt (llSI s.1 91 (Int32.toNatClampNeg s.2) (rI s.1 90 s.2)) (fun u12 => lt (s.2 + 1) (fun v5_13 => some (.inl (u12, v5_13)))))))
set_option maxRecDepth 20000 in
theorem t_X12_fills_69_l40 {G : llG} {d : Nat} {rec : llMem → Int32 → Int32 → Int32 → Int32 → Option (llMem × Unit)} (hrec : ∀ (u' : llMem) (a0 : Int32) (a1 : Int32) (a2 : Int32) (a3 : Int32), llCt (llL G) (llFx G) yX12_fills cX12_fills 9 none (d + 0) [.ref (llAd G 69), .int a0, .int a1, .int a2, .int a3] u' llVd (rec u' a0 a1 a2 a3))  (s : llMem × Int32) : llJ G RX12 cX12_fills 9 none (d + 1) (Sum.elim (fun s' => llJq G 9 40 [(0, .ref (llAd G 69)), (5, .int s'.2)] [] s'.1) (fun e => llJq G 9 69 [] [] e)) 40 [(0, .ref (llAd G 69)), (5, .int s.2)] [] s.1 (fx_X12_fills_69_l40 rec s) := by
  unfold fx_X12_fills_69_l40
  refine J_iload (j := 1) dX12_fills_40 rfl ?_
  refine J_aload_n (j := 0) dX12_fills_42 rfl rfl ?_
  refine J_getI dX12_fills_43 fl_X12_326 sh_69 rfl ?_
  refine J_icmp_ge (tgt := 69) dX12_fills_46 (by decide) ?_ ?_
  · exact J_cut [] (lv' := []) rfl (fun h => h)
  · refine J_aload_n (j := 0) dX12_fills_49 rfl rfl ?_
    refine J_getR (b := 91) dX12_fills_50 fl_X12_79 sh_69 rfl ?_
    refine J_iload (j := 1) dX12_fills_53 rfl ?_
    refine J_aload_n (j := 0) dX12_fills_55 rfl rfl ?_
    refine J_getR (b := 90) dX12_fills_56 fl_X12_76 sh_69 rfl ?_
    refine J_iload (j := 1) dX12_fills_59 rfl ?_
    refine J_iald dX12_fills_61 sh_90 ?_
    refine J_iast dX12_fills_62 sh_91 (fun u12 => ?_)
    refine J_iinc (j := 1) (b := 1) (fun v5_13 => [(5, .int v5_13), (0, .ref (llAd G 69))]) dX12_fills_63 rfl (by decide) (by decide) (fun _ => rfl) (fun v5_13 => ?_)
    refine J_goto (tgt := 40) dX12_fills_66 (by decide) ?_
    exact J_cut [1, 0] (lv' := [(0, .ref (llAd G 69)), (5, .int v5_13)]) rfl (fun h => h)
def fx_X12_fills_69_j18 (rec : llMem → Int32 → Int32 → Int32 → Int32 → Option (llMem × Unit)) (u : llMem) (v1 : Int32) (v2 : Int32) (v3 : Int32) (v4 : Int32) : Option ((llMem × Unit)) := (if ¬ (v1 * (u.1 69 42)) = (u.1 69 41) then lt (u.1 69 41) (fun v5_1 => (loop (fx_X12_fills_69_l79 rec v1 v2 v4) llFuel (u, v5_1, v3)).bind (fun e10 => some (e10, ()))) else lt (llSI u 69 43 v4) (fun u11 => (loop (fx_X12_fills_69_l40 rec) llFuel (u11, 0)).bind (fun e14 => some (e14, ()))))
set_option maxRecDepth 20000 in
theorem t_X12_fills_69_j18 {G : llG} {d : Nat} {rec : llMem → Int32 → Int32 → Int32 → Int32 → Option (llMem × Unit)} (hrec : ∀ (u' : llMem) (a0 : Int32) (a1 : Int32) (a2 : Int32) (a3 : Int32), llCt (llL G) (llFx G) yX12_fills cX12_fills 9 none (d + 0) [.ref (llAd G 69), .int a0, .int a1, .int a2, .int a3] u' llVd (rec u' a0 a1 a2 a3)) (u : llMem) (v1 : Int32) (v2 : Int32) (v3 : Int32) (v4 : Int32) : llJ G RX12 cX12_fills 9 none (d + 1) (fun r => llRet G (llVd r.2) r.1) 18 [(0, .ref (llAd G 69)), (1, .int v1), (2, .int v2), (3, .int v3), (4, .int v4)] [] u (fx_X12_fills_69_j18 rec u v1 v2 v3 v4) := by
  unfold fx_X12_fills_69_j18
  refine J_iload_n (j := 1) dX12_fills_18 rfl rfl ?_
  refine J_aload_n (j := 0) dX12_fills_19 rfl rfl ?_
  refine J_getI dX12_fills_20 fl_X12_329 sh_69 rfl ?_
  refine J_imul dX12_fills_23 ?_
  refine J_aload_n (j := 0) dX12_fills_24 rfl rfl ?_
  refine J_getI dX12_fills_25 fl_X12_326 sh_69 rfl ?_
  refine J_icmp_ne (tgt := 70) dX12_fills_28 (by decide) ?_ ?_
  · refine J_aload_n (j := 0) dX12_fills_70 rfl rfl ?_
    refine J_getI dX12_fills_71 fl_X12_326 sh_69 rfl ?_
    refine J_istoreL (fun v5_1 => [(5, .int v5_1), (0, .ref (llAd G 69)), (1, .int v1), (2, .int v2), (3, .int v3), (4, .int v4)]) dX12_fills_74 (by decide) (fun _ => rfl) (fun v5_1 => ?_)
    refine J_iload_n (j := 4) dX12_fills_76 rfl rfl ?_
    refine J_istore [(6, .int v3), (5, .int v5_1), (0, .ref (llAd G 69)), (1, .int v1), (2, .int v2), (3, .int v3), (4, .int v4)] dX12_fills_77 (by decide) rfl ?_
    refine J_loopE (fun s' => [(0, .ref (llAd G 69)), (1, .int v1), (2, .int v2), (4, .int v4), (5, .int s'.2.1), (6, .int s'.2.2)]) (fun s' => s'.1) 228 (fun e => []) (fun e => e) (fun z => t_X12_fills_69_l79 hrec v1 v2 v4 z) [2, 3, 4, 6, 1, 0] rfl rfl (fun e10 => ?_)
    exact J_vret dX12_fills_228 (fun h => h)
  · refine J_aload_n (j := 0) dX12_fills_31 rfl rfl ?_
    refine J_iload (j := 4) dX12_fills_32 rfl ?_
    refine J_putI dX12_fills_34 fl_X12_332 sh_69 rfl (fun u11 => ?_)
    refine J_iconst (v := 0) dX12_fills_37 (by decide) ?_
    refine J_istore [(5, .int 0), (0, .ref (llAd G 69)), (1, .int v1), (2, .int v2), (3, .int v3), (4, .int v4)] dX12_fills_38 (by decide) rfl ?_
    refine J_loopE (fun s' => [(0, .ref (llAd G 69)), (5, .int s'.2)]) (fun s' => s'.1) 69 (fun e => []) (fun e => e) (fun z => t_X12_fills_69_l40 hrec z) [1, 0] rfl rfl (fun e14 => ?_)
    exact J_vret dX12_fills_69 (fun h => h)
def fx_X12_fills_69_body (rec : llMem → Int32 → Int32 → Int32 → Int32 → Option (llMem × Unit)) (u : llMem) (a0 : Int32) (a1 : Int32) (a2 : Int32) (a3 : Int32) : Option (llMem × Unit) := (if (u.1 69 43) = ((-1)) then fx_X12_fills_69_j18 rec u a0 a1 a2 a3 else (if a3 < (u.1 69 43) then fx_X12_fills_69_j18 rec u a0 a1 a2 a3 else some (u, ())))
set_option maxRecDepth 20000 in
theorem tj_X12_fills_69 {G : llG} {d : Nat} {rec : llMem → Int32 → Int32 → Int32 → Int32 → Option (llMem × Unit)} (hrec : ∀ (u' : llMem) (a0 : Int32) (a1 : Int32) (a2 : Int32) (a3 : Int32), llCt (llL G) (llFx G) yX12_fills cX12_fills 9 none (d + 0) [.ref (llAd G 69), .int a0, .int a1, .int a2, .int a3] u' llVd (rec u' a0 a1 a2 a3)) (u : llMem) (a0 : Int32) (a1 : Int32) (a2 : Int32) (a3 : Int32) : llJ G RX12 cX12_fills 9 none (d + 1) (fun r => llRet G (llVd r.2) r.1) 0 [(0, .ref (llAd G 69)), (1, .int a0), (2, .int a1), (3, .int a2), (4, .int a3)] [] u (fx_X12_fills_69_body rec u a0 a1 a2 a3) := by
  unfold fx_X12_fills_69_body
  refine J_aload_n (j := 0) dX12_fills_0 rfl rfl ?_
  refine J_getI dX12_fills_1 fl_X12_332 sh_69 rfl ?_
  refine J_iconst (v := (-1)) dX12_fills_4 (by decide) ?_
  refine J_icmp_eq (tgt := 18) dX12_fills_5 (by decide) ?_ ?_
  · refine J_sub [0, 1, 2, 3, 4] (lv' := [(0, .ref (llAd G 69)), (1, .int a0), (2, .int a1), (3, .int a2), (4, .int a3)]) rfl ?_
    exact t_X12_fills_69_j18 hrec u a0 a1 a2 a3
  · refine J_iload (j := 4) dX12_fills_8 rfl ?_
    refine J_aload_n (j := 0) dX12_fills_10 rfl rfl ?_
    refine J_getI dX12_fills_11 fl_X12_332 sh_69 rfl ?_
    refine J_icmp_lt (tgt := 18) dX12_fills_14 (by decide) ?_ ?_
    · refine J_sub [0, 1, 2, 3, 4] (lv' := [(0, .ref (llAd G 69)), (1, .int a0), (2, .int a1), (3, .int a2), (4, .int a3)]) rfl ?_
      exact t_X12_fills_69_j18 hrec u a0 a1 a2 a3
    · exact J_vret dX12_fills_17 (fun h => h)
def fx_X12_fills_69 : Nat → llMem → Int32 → Int32 → Int32 → Int32 → Option (llMem × Unit)
  | 0 => fun _ _ _ _ _ => none
  | n + 1 => fx_X12_fills_69_body (fx_X12_fills_69 n)
theorem t_X12_fills_69 (l : Launch) (F : llFix) (d : Nat) : ∀ (n : Nat) (u : llMem) (a0 : Int32) (a1 : Int32) (a2 : Int32) (a3 : Int32), llCt l F yX12_fills cX12_fills 9 none (d + n + 0) [.ref (F.2.2.1 69), .int a0, .int a1, .int a2, .int a3] u llVd (fx_X12_fills_69 n u a0 a1 a2 a3)
  | 0, u, a0, a1, a2, a3 => fun r h => by cases h
  | n + 1, u, a0, a1, a2, a3 => llCt.of (by decide +kernel) (by exact Nat.le_of_ble_eq_true rfl) (fun G h1 h2 => by subst h1; subst h2; exact tj_X12_fills_69 (d := d + n) (rec := fx_X12_fills_69 n) (fun u' a0 a1 a2 a3 => t_X12_fills_69 (llL G) (llFx G) d n u' a0 a1 a2 a3) u a0 a1 a2 a3)
def fx_X12_laysParts_69 (u : llMem) (a0 : Int32) : Option (llMem × Unit) := lt (llSI u 69 41 0) (fun u1 => (loop (fx_X12_laysParts_69_l7 a0) llFuel (u1, 0)).bind (fun e5 => gI ((4 * a0) + 1) 32 (lt (llSI e5 69 42 (rI e5 70 ((4 * a0) + 1))) (fun u6 => (loop (fx_X12_laysParts_69_l70) llFuel (u6, 0)).bind (fun e12 => (loop (fx_X12_laysParts_69_l129) llFuel (e12, 0)).bind (fun e15 => lt (llSI e15 69 43 ((-1))) (fun u16 => bd (fx_X12_fills_69 40 u16 0 0 0 0) (fun u17 _ => some (u17, ())))))))))
set_option maxRecDepth 20000 in
theorem tj_X12_laysParts_69 {G : llG} {d : Nat} (u : llMem) (a0 : Int32) : llJ G RX12 cX12_laysParts 4 none (d + 41) (fun r => llRet G (llVd r.2) r.1) 0 [(0, .ref (llAd G 69)), (1, .int a0)] [] u (fx_X12_laysParts_69 u a0) := by
  unfold fx_X12_laysParts_69
  refine J_aload_n (j := 0) dX12_laysParts_0 rfl rfl ?_
  refine J_iconst (v := 0) dX12_laysParts_1 (by decide) ?_
  refine J_putI dX12_laysParts_2 fl_X12_326 sh_69 rfl (fun u1 => ?_)
  refine J_iconst (v := 0) dX12_laysParts_5 (by decide) ?_
  refine J_istore_n [(2, .int 0), (0, .ref (llAd G 69)), (1, .int a0)] dX12_laysParts_6 rfl (by decide) rfl ?_
  refine J_loopE (fun s' => [(0, .ref (llAd G 69)), (1, .int a0), (2, .int s'.2)]) (fun s' => s'.1) 54 (fun e => [(0, .ref (llAd G 69)), (1, .int a0)]) (fun e => e) (fun z => t_X12_laysParts_69_l7 a0 z) [1, 2, 0] rfl rfl (fun e5 => ?_)
  refine J_aload_n (j := 0) dX12_laysParts_54 rfl rfl ?_
  refine J_aload_n (j := 0) dX12_laysParts_55 rfl rfl ?_
  refine J_getR (b := 70) dX12_laysParts_56 fl_X12_7 sh_69 rfl ?_
  refine J_iconst (v := 4) dX12_laysParts_59 (by decide) ?_
  refine J_iload_n (j := 1) dX12_laysParts_60 rfl rfl ?_
  refine J_imul dX12_laysParts_61 ?_
  refine J_iconst (v := 1) dX12_laysParts_62 (by decide) ?_
  refine J_iadd dX12_laysParts_63 ?_
  refine J_iald dX12_laysParts_64 sh_70 ?_
  refine J_putI dX12_laysParts_65 fl_X12_329 sh_69 rfl (fun u6 => ?_)
  refine J_iconst (v := 0) dX12_laysParts_68 (by decide) ?_
  refine J_istore_n [(2, .int 0), (0, .ref (llAd G 69)), (1, .int a0)] dX12_laysParts_69 rfl (by decide) rfl ?_
  refine J_loopE (fun s' => [(0, .ref (llAd G 69)), (2, .int s'.2)]) (fun s' => s'.1) 127 (fun e => [(0, .ref (llAd G 69))]) (fun e => e) (fun z => t_X12_laysParts_69_l70 z) [1, 0] rfl rfl (fun e12 => ?_)
  refine J_iconst (v := 0) dX12_laysParts_127 (by decide) ?_
  refine J_istore_n [(2, .int 0), (0, .ref (llAd G 69))] dX12_laysParts_128 rfl (by decide) rfl ?_
  refine J_loopE (fun s' => [(0, .ref (llAd G 69)), (2, .int s'.2)]) (fun s' => s'.1) 150 (fun e => [(0, .ref (llAd G 69))]) (fun e => e) (fun z => t_X12_laysParts_69_l129 z) [1, 0] rfl rfl (fun e15 => ?_)
  refine J_aload_n (j := 0) dX12_laysParts_150 rfl rfl ?_
  refine J_iconst (v := (-1)) dX12_laysParts_151 (by decide) ?_
  refine J_putI dX12_laysParts_152 fl_X12_332 sh_69 rfl (fun u16 => ?_)
  refine J_aload_n (j := 0) dX12_laysParts_155 rfl rfl ?_
  refine J_iconst (v := 0) dX12_laysParts_156 (by decide) ?_
  refine J_iconst (v := 0) dX12_laysParts_157 (by decide) ?_
  refine J_iconst (v := 0) dX12_laysParts_158 (by decide) ?_
  refine J_iconst (v := 0) dX12_laysParts_159 (by decide) ?_
  refine J_callVv4 dX12_laysParts_160 (t_X12_fills_69 (llL G) (llFx G) (d + 0) 40 u16 0 0 0 0) ym_X12_fills wd_1581 sh_69 rfl (Nat.le_of_ble_eq_true rfl) (fun u17 => ?_)
  exact J_vret dX12_laysParts_163 (fun h => h)
theorem t_X12_laysParts_69 (l : Launch) (F : llFix) (d : Nat) (u : llMem) (a0 : Int32) : llCt l F yX12_laysParts cX12_laysParts 4 none (d + 41) [.ref (F.2.2.1 69), .int a0] u llVd (fx_X12_laysParts_69 u a0) := llCt.of (by decide +kernel) (by exact Nat.le_of_ble_eq_true rfl) (fun G h1 h2 => by subst h1; subst h2; exact tj_X12_laysParts_69 u a0)
def fx_X12_close_69_l76_b61 (v1 : Int32) (v2 : Int32) (s : llMem × Int32) : Option ((llMem × Int32) ⊕ (llMem)) := (if (s.1.1 69 41) ≤ s.2 then some (.inr s.1) else gI s.2 12 (gI s.2 12 (gI (rI s.1 88 s.2) 60 (lt (llSI s.1 75 (Int32.toNatClampNeg (rI s.1 88 s.2)) (rI s.1 91 s.2)) (fun u11 => lt (s.2 + 1) (fun v3_12 => some (.inl (u11, v3_12))))))))
set_option maxRecDepth 20000 in
theorem t_X12_close_69_l76_b61 {G : llG} {d : Nat} (v1 : Int32) (v2 : Int32) (s : llMem × Int32) : llJ G RX12 cX12_close 4 (some .int) (d + 42) (Sum.elim (fun s' => llJq G 4 76 [(0, .ref (llAd G 69)), (1, .int v1), (2, .int v2), (3, .int s'.2)] [] s'.1) (fun e => llJq G 4 107 [(0, .ref (llAd G 69)), (1, .int v1), (2, .int v2)] [] e)) 76 [(0, .ref (llAd G 69)), (1, .int v1), (2, .int v2), (3, .int s.2)] [] s.1 (fx_X12_close_69_l76_b61 v1 v2 s) := by
  unfold fx_X12_close_69_l76_b61
  refine J_iload_n (j := 3) dX12_close_76 rfl rfl ?_
  refine J_aload_n (j := 0) dX12_close_77 rfl rfl ?_
  refine J_getI dX12_close_78 fl_X12_326 sh_69 rfl ?_
  refine J_icmp_ge (tgt := 107) dX12_close_81 (by decide) ?_ ?_
  · exact J_cut [0, 1, 2] (lv' := [(0, .ref (llAd G 69)), (1, .int v1), (2, .int v2)]) rfl (fun h => h)
  · refine J_aload_n (j := 0) dX12_close_84 rfl rfl ?_
    refine J_getR (b := 75) dX12_close_85 fl_X12_26 sh_69 rfl ?_
    refine J_aload_n (j := 0) dX12_close_88 rfl rfl ?_
    refine J_getR (b := 88) dX12_close_89 fl_X12_70 sh_69 rfl ?_
    refine J_iload_n (j := 3) dX12_close_92 rfl rfl ?_
    refine J_iald dX12_close_93 sh_88 ?_
    refine J_aload_n (j := 0) dX12_close_94 rfl rfl ?_
    refine J_getR (b := 91) dX12_close_95 fl_X12_79 sh_69 rfl ?_
    refine J_iload_n (j := 3) dX12_close_98 rfl rfl ?_
    refine J_iald dX12_close_99 sh_91 ?_
    refine J_iast dX12_close_100 sh_75 (fun u11 => ?_)
    refine J_iinc (j := 3) (b := 1) (fun v3_12 => [(3, .int v3_12), (0, .ref (llAd G 69)), (1, .int v1), (2, .int v2)]) dX12_close_101 rfl (by decide) (by decide) (fun _ => rfl) (fun v3_12 => ?_)
    refine J_goto (tgt := 76) dX12_close_104 (by decide) ?_
    exact J_cut [1, 2, 3, 0] (lv' := [(0, .ref (llAd G 69)), (1, .int v1), (2, .int v2), (3, .int v3_12)]) rfl (fun h => h)
def fx_X12_close_69_l61 (v1 : Int32) (s : llMem × Int32) : Option ((llMem × Int32) ⊕ (llMem)) := (if (s.1.1 69 1) ≤ s.2 then some (.inr s.1) else bd (fx_X12_laysParts_69 s.1 s.2) (fun u10 _ => (loop (fx_X12_close_69_l76_b61 v1 s.2) llFuel (u10, 0)).bind (fun e13 => lt (s.2 + 1) (fun v2_14 => some (.inl (e13, v2_14))))))
set_option maxRecDepth 20000 in
theorem t_X12_close_69_l61 {G : llG} {d : Nat} (v1 : Int32) (s : llMem × Int32) : llJ G RX12 cX12_close 4 (some .int) (d + 42) (Sum.elim (fun s' => llJq G 4 61 [(0, .ref (llAd G 69)), (1, .int v1), (2, .int s'.2)] [] s'.1) (fun e => llJq G 4 113 [(0, .ref (llAd G 69)), (1, .int v1)] [] e)) 61 [(0, .ref (llAd G 69)), (1, .int v1), (2, .int s.2)] [] s.1 (fx_X12_close_69_l61 v1 s) := by
  unfold fx_X12_close_69_l61
  refine J_iload_n (j := 2) dX12_close_61 rfl rfl ?_
  refine J_aload_n (j := 0) dX12_close_62 rfl rfl ?_
  refine J_getI dX12_close_63 fl_X12_260 sh_69 rfl ?_
  refine J_icmp_ge (tgt := 113) dX12_close_66 (by decide) ?_ ?_
  · exact J_cut [0, 1] (lv' := [(0, .ref (llAd G 69)), (1, .int v1)]) rfl (fun h => h)
  · refine J_aload_n (j := 0) dX12_close_69 rfl rfl ?_
    refine J_iload_n (j := 2) dX12_close_70 rfl rfl ?_
    refine J_callVv1 dX12_close_71 (t_X12_laysParts_69 (llL G) (llFx G) d s.1 s.2) ym_X12_laysParts wd_1573 sh_69 rfl (Nat.le_of_ble_eq_true rfl) (fun u10 => ?_)
    refine J_iconst (v := 0) dX12_close_74 (by decide) ?_
    refine J_istore_n [(3, .int 0), (0, .ref (llAd G 69)), (1, .int v1), (2, .int s.2)] dX12_close_75 rfl (by decide) rfl ?_
    refine J_loopE (fun s' => [(0, .ref (llAd G 69)), (1, .int v1), (2, .int s.2), (3, .int s'.2)]) (fun s' => s'.1) 107 (fun e => [(0, .ref (llAd G 69)), (1, .int v1), (2, .int s.2)]) (fun e => e) (fun z => t_X12_close_69_l76_b61 v1 s.2 z) [1, 2, 3, 0] rfl rfl (fun e13 => ?_)
    refine J_iinc (j := 2) (b := 1) (fun v2_14 => [(2, .int v2_14), (0, .ref (llAd G 69)), (1, .int v1)]) dX12_close_107 rfl (by decide) (by decide) (fun _ => rfl) (fun v2_14 => ?_)
    refine J_goto (tgt := 61) dX12_close_110 (by decide) ?_
    exact J_cut [1, 2, 0] (lv' := [(0, .ref (llAd G 69)), (1, .int v1), (2, .int v2_14)]) rfl (fun h => h)
def fx_X12_close_69 (u : llMem)  : Option (llMem × Int32) := bd (fx_X12_ends_69 u ) (fun u1 r2 => (if ¬ r2 = 0 then (loop (fx_X12_close_69_l13) llFuel (u1, 0, 0)).bind (fun e9 => (loop (fx_X12_close_69_l61 e9.2) llFuel (e9.1, 0)).bind (fun e15 => bd (fx_X12_starts_69 e15 ) (fun u16 _ => lt (llSI u16 69 11 ((u16.1 69 11) + 1)) (fun u17 => some (u17, e9.2))))) else some (u1, (-1))))
set_option maxRecDepth 20000 in
theorem tj_X12_close_69 {G : llG} {d : Nat} (u : llMem)  : llJ G RX12 cX12_close 4 (some .int) (d + 42) (fun r => llRet G (llI r.2) r.1) 0 [(0, .ref (llAd G 69))] [] u (fx_X12_close_69 u ) := by
  unfold fx_X12_close_69
  refine J_aload_n (j := 0) dX12_close_0 rfl rfl ?_
  refine J_callVi0 dX12_close_1 (t_X12_ends_69 (llL G) (llFx G) (d + 34) u ) ym_X12_ends wd_1509 sh_69 rfl (Nat.le_of_ble_eq_true rfl) (fun u1 r2 => ?_)
  refine J_if_ne (tgt := 9) dX12_close_4 (by decide) ?_ ?_
  · refine J_iconst (v := 0) dX12_close_9 (by decide) ?_
    refine J_istore_n [(1, .int 0), (0, .ref (llAd G 69))] dX12_close_10 rfl (by decide) rfl ?_
    refine J_iconst (v := 0) dX12_close_11 (by decide) ?_
    refine J_istore_n [(2, .int 0), (1, .int 0), (0, .ref (llAd G 69))] dX12_close_12 rfl (by decide) rfl ?_
    refine J_loopE (fun s' => [(0, .ref (llAd G 69)), (1, .int s'.2.1), (2, .int s'.2.2)]) (fun s' => s'.1) 59 (fun e => [(0, .ref (llAd G 69)), (1, .int e.2)]) (fun e => e.1) (fun z => t_X12_close_69_l13 z) [2, 1, 0] rfl rfl (fun e9 => ?_)
    refine J_iconst (v := 0) dX12_close_59 (by decide) ?_
    refine J_istore_n [(2, .int 0), (0, .ref (llAd G 69)), (1, .int e9.2)] dX12_close_60 rfl (by decide) rfl ?_
    refine J_loopE (fun s' => [(0, .ref (llAd G 69)), (1, .int e9.2), (2, .int s'.2)]) (fun s' => s'.1) 113 (fun e => [(0, .ref (llAd G 69)), (1, .int e9.2)]) (fun e => e) (fun z => t_X12_close_69_l61 e9.2 z) [1, 2, 0] rfl rfl (fun e15 => ?_)
    refine J_aload_n (j := 0) dX12_close_113 rfl rfl ?_
    refine J_callVv0 dX12_close_114 (t_X12_starts_69 (llL G) (llFx G) (d + 41) e15 ) ym_X12_starts wd_1450 sh_69 rfl (Nat.le_of_ble_eq_true rfl) (fun u16 => ?_)
    refine J_aload_n (j := 0) dX12_close_117 rfl rfl ?_
    refine J_dup dX12_close_118 rfl ?_
    refine J_getI dX12_close_119 fl_X12_266 sh_69 rfl ?_
    refine J_iconst (v := 1) dX12_close_122 (by decide) ?_
    refine J_iadd dX12_close_123 ?_
    refine J_putI dX12_close_124 fl_X12_266 sh_69 rfl (fun u17 => ?_)
    refine J_iload_n (j := 1) dX12_close_127 rfl rfl ?_
    exact J_iret dX12_close_128 (fun h => h)
  · refine J_iconst (v := (-1)) dX12_close_7 (by decide) ?_
    exact J_iret dX12_close_8 (fun h => h)
theorem t_X12_close_69 (l : Launch) (F : llFix) (d : Nat) (u : llMem)  : llCt l F yX12_close cX12_close 4 (some .int) (d + 42) [.ref (F.2.2.1 69)] u llI (fx_X12_close_69 u ) := llCt.of (by decide +kernel) (by exact Nat.le_of_ble_eq_true rfl) (fun G h1 h2 => by subst h1; subst h2; exact tj_X12_close_69 u )
def fx_X2_takeBackOf_26 (u : llMem) (a0 : Int32) (a1 : Int32) (a2 : Int32) : Option (llMem × Unit) := (if a1 = 1 then gI a0 30 (lt (llSI u 18 (Int32.toNatClampNeg a0) 0) (fun u1 => some (u1, ()))) else if a1 = 2 then gI a0 30 (lt (llSI u 19 (Int32.toNatClampNeg a0) 0) (fun u2 => some (u2, ()))) else if a1 = 3 then gI a0 30 (gI a0 30 (lt (llSI u 20 (Int32.toNatClampNeg a0) ((rI u 20 a0) - a2)) (fun u3 => some (u3, ())))) else gI a0 30 (lt (llSI u 11 (Int32.toNatClampNeg a0) a2) (fun u4 => some (u4, ()))))
set_option maxRecDepth 20000 in
theorem tj_X2_takeBackOf_26 {G : llG} {d : Nat} (u : llMem) (a0 : Int32) (a1 : Int32) (a2 : Int32) : llJ G RX2 cX2_takeBackOf 4 none d (fun r => llRet G (llVd r.2) r.1) 0 [(0, .ref (llAd G 26)), (1, .int a0), (2, .int a1), (3, .int a2)] [] u (fx_X2_takeBackOf_26 u a0 a1 a2) := by
  unfold fx_X2_takeBackOf_26
  refine J_iload_n (j := 2) dX2_takeBackOf_0 rfl rfl ?_
  refine J_case (fun hq0 => ?_) (fun hn0 => ?_)
  · refine J_tableIn (tgt := 28) hq0 dX2_takeBackOf_1 (by decide) (by decide) rfl (by decide) ?_
    refine J_aload_n (j := 0) dX2_takeBackOf_28 rfl rfl ?_
    refine J_getR (b := 14) dX2_takeBackOf_29 fl_X2_13 sh_26 rfl ?_
    refine J_getR (b := 18) dX2_takeBackOf_32 fl_X2_53 sh_14 rfl ?_
    refine J_iload_n (j := 1) dX2_takeBackOf_35 rfl rfl ?_
    refine J_iconst (v := 0) dX2_takeBackOf_36 (by decide) ?_
    refine J_iast dX2_takeBackOf_37 sh_18 (fun u1 => ?_)
    refine J_goto (tgt := 80) dX2_takeBackOf_38 (by decide) ?_
    exact J_vret dX2_takeBackOf_80 (fun h => h)
  refine J_case (fun hq1 => ?_) (fun hn1 => ?_)
  · refine J_tableIn (tgt := 41) hq1 dX2_takeBackOf_1 (by decide) (by decide) rfl (by decide) ?_
    refine J_aload_n (j := 0) dX2_takeBackOf_41 rfl rfl ?_
    refine J_getR (b := 14) dX2_takeBackOf_42 fl_X2_13 sh_26 rfl ?_
    refine J_getR (b := 19) dX2_takeBackOf_45 fl_X2_56 sh_14 rfl ?_
    refine J_iload_n (j := 1) dX2_takeBackOf_48 rfl rfl ?_
    refine J_iconst (v := 0) dX2_takeBackOf_49 (by decide) ?_
    refine J_iast dX2_takeBackOf_50 sh_19 (fun u2 => ?_)
    refine J_goto (tgt := 80) dX2_takeBackOf_51 (by decide) ?_
    exact J_vret dX2_takeBackOf_80 (fun h => h)
  refine J_case (fun hq2 => ?_) (fun hn2 => ?_)
  · refine J_tableIn (tgt := 54) hq2 dX2_takeBackOf_1 (by decide) (by decide) rfl (by decide) ?_
    refine J_aload_n (j := 0) dX2_takeBackOf_54 rfl rfl ?_
    refine J_getR (b := 14) dX2_takeBackOf_55 fl_X2_13 sh_26 rfl ?_
    refine J_getR (b := 20) dX2_takeBackOf_58 fl_X2_59 sh_14 rfl ?_
    refine J_iload_n (j := 1) dX2_takeBackOf_61 rfl rfl ?_
    refine J_dup2 dX2_takeBackOf_62 rfl rfl ?_
    refine J_iald dX2_takeBackOf_63 sh_20 ?_
    refine J_iload_n (j := 3) dX2_takeBackOf_64 rfl rfl ?_
    refine J_isub dX2_takeBackOf_65 ?_
    refine J_iast dX2_takeBackOf_66 sh_20 (fun u3 => ?_)
    refine J_goto (tgt := 80) dX2_takeBackOf_67 (by decide) ?_
    exact J_vret dX2_takeBackOf_80 (fun h => h)
  refine J_tableOut (tgt := 70) dX2_takeBackOf_1 (llTabG (by decide) (by decide) (fun k hk1 hk2 => by rcases (show k = 1 ∨ k = 2 ∨ k = 3 by omega) with rfl | rfl | rfl <;> assumption)) (by decide) ?_
  refine J_aload_n (j := 0) dX2_takeBackOf_70 rfl rfl ?_
  refine J_getR (b := 3) dX2_takeBackOf_71 fl_X2_7 sh_26 rfl ?_
  refine J_getR (b := 11) dX2_takeBackOf_74 fl_X2_62 sh_3 rfl ?_
  refine J_iload_n (j := 1) dX2_takeBackOf_77 rfl rfl ?_
  refine J_iload_n (j := 3) dX2_takeBackOf_78 rfl rfl ?_
  refine J_iast dX2_takeBackOf_79 sh_11 (fun u4 => ?_)
  exact J_vret dX2_takeBackOf_80 (fun h => h)
theorem t_X2_takeBackOf_26 (l : Launch) (F : llFix) (d : Nat) (u : llMem) (a0 : Int32) (a1 : Int32) (a2 : Int32) : llCt l F yX2_takeBackOf cX2_takeBackOf 4 none d [.ref (F.2.2.1 26), .int a0, .int a1, .int a2] u llVd (fx_X2_takeBackOf_26 u a0 a1 a2) := llCt.of (by decide +kernel) (by exact Nat.le_of_ble_eq_true rfl) (fun G h1 h2 => by subst h1; subst h2; exact tj_X2_takeBackOf_26 u a0 a1 a2)
def fx_X2_takeBack_26 (u : llMem)  : Option (llMem × Int32) := (if 1 ≤ (u.1 26 2) then lt (llSI u 26 2 ((u.1 26 2) - 1)) (fun u1 => gI (u1.1 26 2) 8 ((if ¬ (rI u1 27 (u1.1 26 2)) = 0 then gI (u1.1 26 2) 8 ((fx_X5_isClub_3 u1 (rI u1 28 (u1.1 26 2))).bind (fun r2 => (if r2 = 0 then gB 1 (some (u1, 1)) else gI (u1.1 26 2) 8 (gI (u1.1 26 2) 8 (gI (u1.1 26 2) 8 (bd (fx_X2_takeBackOf_26 u1 (rI u1 28 (u1.1 26 2)) (rI u1 27 (u1.1 26 2)) (rI u1 29 (u1.1 26 2))) (fun u3 _ => gB 1 (some (u3, 1))))))))) else gI (u1.1 26 2) 8 (bd (fx_X7_keepFirst_14 u1 (rI u1 29 (u1.1 26 2))) (fun u4 _ => gB 1 (some (u4, 1))))))) else gB 0 (some (u, 0)))
set_option maxRecDepth 20000 in
theorem tj_X2_takeBack_26 {G : llG} {d : Nat} (u : llMem)  : llJ G RX2 cX2_takeBack 1 (some .boolean) (d + 3) (fun r => llRet G (llI r.2) r.1) 0 [(0, .ref (llAd G 26))] [] u (fx_X2_takeBack_26 u ) := by
  unfold fx_X2_takeBack_26
  refine J_aload_n (j := 0) dX2_takeBack_0 rfl rfl ?_
  refine J_getI dX2_takeBack_1 fl_X2_27 sh_26 rfl ?_
  refine J_iconst (v := 1) dX2_takeBack_4 (by decide) ?_
  refine J_icmp_ge (tgt := 10) dX2_takeBack_5 (by decide) ?_ ?_
  · refine J_aload_n (j := 0) dX2_takeBack_10 rfl rfl ?_
    refine J_dup dX2_takeBack_11 rfl ?_
    refine J_getI dX2_takeBack_12 fl_X2_27 sh_26 rfl ?_
    refine J_iconst (v := 1) dX2_takeBack_15 (by decide) ?_
    refine J_isub dX2_takeBack_16 ?_
    refine J_putI dX2_takeBack_17 fl_X2_27 sh_26 rfl (fun u1 => ?_)
    refine J_aload_n (j := 0) dX2_takeBack_20 rfl rfl ?_
    refine J_getR (b := 27) dX2_takeBack_21 fl_X2_17 sh_26 rfl ?_
    refine J_aload_n (j := 0) dX2_takeBack_24 rfl rfl ?_
    refine J_getI dX2_takeBack_25 fl_X2_27 sh_26 rfl ?_
    refine J_iald dX2_takeBack_28 sh_27 ?_
    refine J_if_ne (tgt := 51) dX2_takeBack_29 (by decide) ?_ ?_
    · refine J_aload_n (j := 0) dX2_takeBack_51 rfl rfl ?_
      refine J_getR (b := 3) dX2_takeBack_52 fl_X2_7 sh_26 rfl ?_
      refine J_aload_n (j := 0) dX2_takeBack_55 rfl rfl ?_
      refine J_getR (b := 28) dX2_takeBack_56 fl_X2_21 sh_26 rfl ?_
      refine J_aload_n (j := 0) dX2_takeBack_59 rfl rfl ?_
      refine J_getI dX2_takeBack_60 fl_X2_27 sh_26 rfl ?_
      refine J_iald dX2_takeBack_63 sh_28 ?_
      refine J_callVip1 dX2_takeBack_64 (t_X5_isClub_3 (llL G) (llFx G) (d + 2) u1 (rI u1 28 (u1.1 26 2))) ym_X5_isClub wd_894 sh_3 rfl (Nat.le_of_ble_eq_true rfl) (fun r2 => ?_)
      refine J_if_eq (tgt := 101) dX2_takeBack_67 (by decide) ?_ ?_
      · refine J_iconst (v := 1) dX2_takeBack_101 (by decide) ?_
        exact J_zret dX2_takeBack_102 (fun h => h)
      · refine J_aload_n (j := 0) dX2_takeBack_70 rfl rfl ?_
        refine J_aload_n (j := 0) dX2_takeBack_71 rfl rfl ?_
        refine J_getR (b := 28) dX2_takeBack_72 fl_X2_21 sh_26 rfl ?_
        refine J_aload_n (j := 0) dX2_takeBack_75 rfl rfl ?_
        refine J_getI dX2_takeBack_76 fl_X2_27 sh_26 rfl ?_
        refine J_iald dX2_takeBack_79 sh_28 ?_
        refine J_aload_n (j := 0) dX2_takeBack_80 rfl rfl ?_
        refine J_getR (b := 27) dX2_takeBack_81 fl_X2_17 sh_26 rfl ?_
        refine J_aload_n (j := 0) dX2_takeBack_84 rfl rfl ?_
        refine J_getI dX2_takeBack_85 fl_X2_27 sh_26 rfl ?_
        refine J_iald dX2_takeBack_88 sh_27 ?_
        refine J_aload_n (j := 0) dX2_takeBack_89 rfl rfl ?_
        refine J_getR (b := 29) dX2_takeBack_90 fl_X2_24 sh_26 rfl ?_
        refine J_aload_n (j := 0) dX2_takeBack_93 rfl rfl ?_
        refine J_getI dX2_takeBack_94 fl_X2_27 sh_26 rfl ?_
        refine J_iald dX2_takeBack_97 sh_29 ?_
        refine J_callVv3 dX2_takeBack_98 (t_X2_takeBackOf_26 (llL G) (llFx G) (d + 2) u1 (rI u1 28 (u1.1 26 2)) (rI u1 27 (u1.1 26 2)) (rI u1 29 (u1.1 26 2))) ym_X2_takeBackOf wd_895 sh_26 rfl (Nat.le_of_ble_eq_true rfl) (fun u3 => ?_)
        refine J_iconst (v := 1) dX2_takeBack_101 (by decide) ?_
        exact J_zret dX2_takeBack_102 (fun h => h)
    · refine J_aload_n (j := 0) dX2_takeBack_32 rfl rfl ?_
      refine J_getR (b := 14) dX2_takeBack_33 fl_X2_13 sh_26 rfl ?_
      refine J_aload_n (j := 0) dX2_takeBack_36 rfl rfl ?_
      refine J_getR (b := 29) dX2_takeBack_37 fl_X2_24 sh_26 rfl ?_
      refine J_aload_n (j := 0) dX2_takeBack_40 rfl rfl ?_
      refine J_getI dX2_takeBack_41 fl_X2_27 sh_26 rfl ?_
      refine J_iald dX2_takeBack_44 sh_29 ?_
      refine J_callVv1 dX2_takeBack_45 (t_X7_keepFirst_14 (llL G) (llFx G) d u1 (rI u1 29 (u1.1 26 2))) ym_X7_keepFirst wd_893 sh_14 rfl (Nat.le_of_ble_eq_true rfl) (fun u4 => ?_)
      refine J_goto (tgt := 101) dX2_takeBack_48 (by decide) ?_
      refine J_iconst (v := 1) dX2_takeBack_101 (by decide) ?_
      exact J_zret dX2_takeBack_102 (fun h => h)
  · refine J_iconst (v := 0) dX2_takeBack_8 (by decide) ?_
    exact J_zret dX2_takeBack_9 (fun h => h)
theorem t_X2_takeBack_26 (l : Launch) (F : llFix) (d : Nat) (u : llMem)  : llCt l F yX2_takeBack cX2_takeBack 1 (some .boolean) (d + 3) [.ref (F.2.2.1 26)] u llI (fx_X2_takeBack_26 u ) := llCt.of (by decide +kernel) (by exact Nat.le_of_ble_eq_true rfl) (fun G h1 h2 => by subst h1; subst h2; exact tj_X2_takeBack_26 u )
def fx_X11_undo_0 (u : llMem)  : Option (llMem × Int32) := bd (fx_X2_takeBack_26 u ) (fun u1 r2 => gB r2 (some (u1, r2)))
set_option maxRecDepth 20000 in
theorem tj_X11_undo_0 {G : llG} {d : Nat} (u : llMem)  : llJ G RX11 cX11_undo 1 (some .boolean) (d + 4) (fun r => llRet G (llI r.2) r.1) 0 [(0, .ref (llAd G 0))] [] u (fx_X11_undo_0 u ) := by
  unfold fx_X11_undo_0
  refine J_aload_n (j := 0) dX11_undo_0 rfl rfl ?_
  refine J_getR (b := 26) dX11_undo_1 fl_X11_35 sh_0 rfl ?_
  refine J_callVi0 dX11_undo_4 (t_X2_takeBack_26 (llL G) (llFx G) d u ) ym_X2_takeBack wd_889 sh_26 rfl (Nat.le_of_ble_eq_true rfl) (fun u1 r2 => ?_)
  exact J_zret dX11_undo_7 (fun h => h)
theorem t_X11_undo_0 (l : Launch) (F : llFix) (d : Nat) (u : llMem)  : llCt l F yX11_undo cX11_undo 1 (some .boolean) (d + 4) [.ref (F.2.2.1 0)] u llI (fx_X11_undo_0 u ) := llCt.of (by decide +kernel) (by exact Nat.le_of_ble_eq_true rfl) (fun G h1 h2 => by subst h1; subst h2; exact tj_X11_undo_0 u )
def fx_X12_undo_69_l21  (s : llMem × Int32) : Option ((llMem × Int32) ⊕ (llMem)) := (if 1020 ≤ s.2 then some (.inr s.1) else gI ((1020 * (s.1.1 69 14)) + s.2) 8160 (gI s.2 1020 (lt (llSI s.1 77 (Int32.toNatClampNeg s.2) (rI s.1 78 ((1020 * (s.1.1 69 14)) + s.2))) (fun u2 => lt (s.2 + 1) (fun v1_3 => some (.inl (u2, v1_3)))))))
set_option maxRecDepth 20000 in
theorem t_X12_undo_69_l21 {G : llG} {d : Nat}  (s : llMem × Int32) : llJ G RX12 cX12_undo 2 (some .boolean) d (Sum.elim (fun s' => llJq G 2 21 [(0, .ref (llAd G 69)), (1, .int s'.2)] [] s'.1) (fun e => llJq G 2 55 [] [] e)) 21 [(0, .ref (llAd G 69)), (1, .int s.2)] [] s.1 (fx_X12_undo_69_l21 s) := by
  unfold fx_X12_undo_69_l21
  refine J_iload_n (j := 1) dX12_undo_21 rfl rfl ?_
  refine J_sipush (v := 1020) dX12_undo_22 (by decide) ?_
  refine J_icmp_ge (tgt := 55) dX12_undo_25 (by decide) ?_ ?_
  · exact J_cut [] (lv' := []) rfl (fun h => h)
  · refine J_aload_n (j := 0) dX12_undo_28 rfl rfl ?_
    refine J_getR (b := 77) dX12_undo_29 fl_X12_32 sh_69 rfl ?_
    refine J_iload_n (j := 1) dX12_undo_32 rfl rfl ?_
    refine J_aload_n (j := 0) dX12_undo_33 rfl rfl ?_
    refine J_getR (b := 78) dX12_undo_34 fl_X12_35 sh_69 rfl ?_
    refine J_sipush (v := 1020) dX12_undo_37 (by decide) ?_
    refine J_aload_n (j := 0) dX12_undo_40 rfl rfl ?_
    refine J_getI dX12_undo_41 fl_X12_110 sh_69 rfl ?_
    refine J_imul dX12_undo_44 ?_
    refine J_iload_n (j := 1) dX12_undo_45 rfl rfl ?_
    refine J_iadd dX12_undo_46 ?_
    refine J_iald dX12_undo_47 sh_78 ?_
    refine J_iast dX12_undo_48 sh_77 (fun u2 => ?_)
    refine J_iinc (j := 1) (b := 1) (fun v1_3 => [(1, .int v1_3), (0, .ref (llAd G 69))]) dX12_undo_49 rfl (by decide) (by decide) (fun _ => rfl) (fun v1_3 => ?_)
    refine J_goto (tgt := 21) dX12_undo_52 (by decide) ?_
    exact J_cut [1, 0] (lv' := [(0, .ref (llAd G 69)), (1, .int v1_3)]) rfl (fun h => h)
def fx_X12_undo_69 (u : llMem)  : Option (llMem × Int32) := (if ¬ (u.1 69 14) = 0 then lt (llSI u 69 14 ((u.1 69 14) - 1)) (fun u1 => (loop (fx_X12_undo_69_l21) llFuel (u1, 0)).bind (fun e4 => gB 1 (some (e4, 1)))) else gB 0 (some (u, 0)))
set_option maxRecDepth 20000 in
theorem tj_X12_undo_69 {G : llG} {d : Nat} (u : llMem)  : llJ G RX12 cX12_undo 2 (some .boolean) d (fun r => llRet G (llI r.2) r.1) 0 [(0, .ref (llAd G 69))] [] u (fx_X12_undo_69 u ) := by
  unfold fx_X12_undo_69
  refine J_aload_n (j := 0) dX12_undo_0 rfl rfl ?_
  refine J_getI dX12_undo_1 fl_X12_110 sh_69 rfl ?_
  refine J_if_ne (tgt := 9) dX12_undo_4 (by decide) ?_ ?_
  · refine J_aload_n (j := 0) dX12_undo_9 rfl rfl ?_
    refine J_dup dX12_undo_10 rfl ?_
    refine J_getI dX12_undo_11 fl_X12_110 sh_69 rfl ?_
    refine J_iconst (v := 1) dX12_undo_14 (by decide) ?_
    refine J_isub dX12_undo_15 ?_
    refine J_putI dX12_undo_16 fl_X12_110 sh_69 rfl (fun u1 => ?_)
    refine J_iconst (v := 0) dX12_undo_19 (by decide) ?_
    refine J_istore_n [(1, .int 0), (0, .ref (llAd G 69))] dX12_undo_20 rfl (by decide) rfl ?_
    refine J_loopE (fun s' => [(0, .ref (llAd G 69)), (1, .int s'.2)]) (fun s' => s'.1) 55 (fun e => []) (fun e => e) (fun z => t_X12_undo_69_l21 z) [1, 0] rfl rfl (fun e4 => ?_)
    refine J_iconst (v := 1) dX12_undo_55 (by decide) ?_
    exact J_zret dX12_undo_56 (fun h => h)
  · refine J_iconst (v := 0) dX12_undo_7 (by decide) ?_
    exact J_zret dX12_undo_8 (fun h => h)
theorem t_X12_undo_69 (l : Launch) (F : llFix) (d : Nat) (u : llMem)  : llCt l F yX12_undo cX12_undo 2 (some .boolean) d [.ref (F.2.2.1 69)] u llI (fx_X12_undo_69 u ) := llCt.of (by decide +kernel) (by exact Nat.le_of_ble_eq_true rfl) (fun G h1 h2 => by subst h1; subst h2; exact tj_X12_undo_69 u )
def fx_X11_club_0 (u : llMem) (a0 : Int32) (a1 : Int32) : Option Int32 := (fx_X5_isClub_3 u a0).bind (fun r1 => (if ¬ r1 = 0 then (if a1 = 0 then gI a0 30 (some (rI u 9 a0)) else if a1 = 1 then gI a0 30 (some (rI u 10 a0)) else if a1 = 2 then gI a0 30 (some (rI u 11 a0)) else if a1 = 3 then gI a0 30 (some (rI u 12 a0)) else if a1 = 4 then gI a0 30 (some (rI u 13 a0)) else if a1 = 5 then gI a0 30 (some (rI u 18 a0)) else if a1 = 6 then gI a0 30 (some (rI u 19 a0)) else if a1 = 7 then gI a0 30 (some (rI u 20 a0)) else some ((-3))) else some ((-3))))
set_option maxRecDepth 20000 in
theorem tj_X11_club_0 {G : llG} {d : Nat} (u : llMem) (a0 : Int32) (a1 : Int32) : llJ G RX11 cX11_club 3 (some .int) (d + 1) (fun r => llRet G (llI r) u) 0 [(0, .ref (llAd G 0)), (1, .int a0), (2, .int a1)] [] u (fx_X11_club_0 u a0 a1) := by
  unfold fx_X11_club_0
  refine J_aload_n (j := 0) dX11_club_0 rfl rfl ?_
  refine J_getR (b := 3) dX11_club_1 fl_X11_19 sh_0 rfl ?_
  refine J_iload_n (j := 1) dX11_club_4 rfl rfl ?_
  refine J_callVip1 dX11_club_5 (t_X5_isClub_3 (llL G) (llFx G) d u a0) ym_X5_isClub wd_738 sh_3 rfl (Nat.le_of_ble_eq_true rfl) (fun r1 => ?_)
  refine J_if_ne (tgt := 14) dX11_club_8 (by decide) ?_ ?_
  · refine J_iload_n (j := 2) dX11_club_14 rfl rfl ?_
    refine J_case (fun hq0 => ?_) (fun hn0 => ?_)
    · refine J_tableIn (tgt := 60) hq0 dX11_club_15 (by decide) (by decide) rfl (by decide) ?_
      refine J_aload_n (j := 0) dX11_club_60 rfl rfl ?_
      refine J_getR (b := 3) dX11_club_61 fl_X11_19 sh_0 rfl ?_
      refine J_getR (b := 9) dX11_club_64 fl_X11_205 sh_3 rfl ?_
      refine J_iload_n (j := 1) dX11_club_67 rfl rfl ?_
      refine J_iald dX11_club_68 sh_9 ?_
      exact J_iret dX11_club_69 (fun h => h)
    refine J_case (fun hq1 => ?_) (fun hn1 => ?_)
    · refine J_tableIn (tgt := 70) hq1 dX11_club_15 (by decide) (by decide) rfl (by decide) ?_
      refine J_aload_n (j := 0) dX11_club_70 rfl rfl ?_
      refine J_getR (b := 3) dX11_club_71 fl_X11_19 sh_0 rfl ?_
      refine J_getR (b := 10) dX11_club_74 fl_X11_208 sh_3 rfl ?_
      refine J_iload_n (j := 1) dX11_club_77 rfl rfl ?_
      refine J_iald dX11_club_78 sh_10 ?_
      exact J_iret dX11_club_79 (fun h => h)
    refine J_case (fun hq2 => ?_) (fun hn2 => ?_)
    · refine J_tableIn (tgt := 80) hq2 dX11_club_15 (by decide) (by decide) rfl (by decide) ?_
      refine J_aload_n (j := 0) dX11_club_80 rfl rfl ?_
      refine J_getR (b := 3) dX11_club_81 fl_X11_19 sh_0 rfl ?_
      refine J_getR (b := 11) dX11_club_84 fl_X11_179 sh_3 rfl ?_
      refine J_iload_n (j := 1) dX11_club_87 rfl rfl ?_
      refine J_iald dX11_club_88 sh_11 ?_
      exact J_iret dX11_club_89 (fun h => h)
    refine J_case (fun hq3 => ?_) (fun hn3 => ?_)
    · refine J_tableIn (tgt := 90) hq3 dX11_club_15 (by decide) (by decide) rfl (by decide) ?_
      refine J_aload_n (j := 0) dX11_club_90 rfl rfl ?_
      refine J_getR (b := 3) dX11_club_91 fl_X11_19 sh_0 rfl ?_
      refine J_getR (b := 12) dX11_club_94 fl_X11_176 sh_3 rfl ?_
      refine J_iload_n (j := 1) dX11_club_97 rfl rfl ?_
      refine J_iald dX11_club_98 sh_12 ?_
      exact J_iret dX11_club_99 (fun h => h)
    refine J_case (fun hq4 => ?_) (fun hn4 => ?_)
    · refine J_tableIn (tgt := 100) hq4 dX11_club_15 (by decide) (by decide) rfl (by decide) ?_
      refine J_aload_n (j := 0) dX11_club_100 rfl rfl ?_
      refine J_getR (b := 3) dX11_club_101 fl_X11_19 sh_0 rfl ?_
      refine J_getR (b := 13) dX11_club_104 fl_X11_211 sh_3 rfl ?_
      refine J_iload_n (j := 1) dX11_club_107 rfl rfl ?_
      refine J_iald dX11_club_108 sh_13 ?_
      exact J_iret dX11_club_109 (fun h => h)
    refine J_case (fun hq5 => ?_) (fun hn5 => ?_)
    · refine J_tableIn (tgt := 110) hq5 dX11_club_15 (by decide) (by decide) rfl (by decide) ?_
      refine J_aload_n (j := 0) dX11_club_110 rfl rfl ?_
      refine J_getR (b := 14) dX11_club_111 fl_X11_26 sh_0 rfl ?_
      refine J_getR (b := 18) dX11_club_114 fl_X11_163 sh_14 rfl ?_
      refine J_iload_n (j := 1) dX11_club_117 rfl rfl ?_
      refine J_iald dX11_club_118 sh_18 ?_
      exact J_iret dX11_club_119 (fun h => h)
    refine J_case (fun hq6 => ?_) (fun hn6 => ?_)
    · refine J_tableIn (tgt := 120) hq6 dX11_club_15 (by decide) (by decide) rfl (by decide) ?_
      refine J_aload_n (j := 0) dX11_club_120 rfl rfl ?_
      refine J_getR (b := 14) dX11_club_121 fl_X11_26 sh_0 rfl ?_
      refine J_getR (b := 19) dX11_club_124 fl_X11_167 sh_14 rfl ?_
      refine J_iload_n (j := 1) dX11_club_127 rfl rfl ?_
      refine J_iald dX11_club_128 sh_19 ?_
      exact J_iret dX11_club_129 (fun h => h)
    refine J_case (fun hq7 => ?_) (fun hn7 => ?_)
    · refine J_tableIn (tgt := 130) hq7 dX11_club_15 (by decide) (by decide) rfl (by decide) ?_
      refine J_aload_n (j := 0) dX11_club_130 rfl rfl ?_
      refine J_getR (b := 14) dX11_club_131 fl_X11_26 sh_0 rfl ?_
      refine J_getR (b := 20) dX11_club_134 fl_X11_170 sh_14 rfl ?_
      refine J_iload_n (j := 1) dX11_club_137 rfl rfl ?_
      refine J_iald dX11_club_138 sh_20 ?_
      exact J_iret dX11_club_139 (fun h => h)
    refine J_tableOut (tgt := 140) dX11_club_15 (llTabG (by decide) (by decide) (fun k hk1 hk2 => by rcases (show k = 0 ∨ k = 1 ∨ k = 2 ∨ k = 3 ∨ k = 4 ∨ k = 5 ∨ k = 6 ∨ k = 7 by omega) with rfl | rfl | rfl | rfl | rfl | rfl | rfl | rfl <;> assumption)) (by decide) ?_
    refine J_bipush (v := (-3)) dX11_club_140 (by decide) ?_
    exact J_iret dX11_club_142 (fun h => h)
  · refine J_bipush (v := (-3)) dX11_club_11 (by decide) ?_
    exact J_iret dX11_club_13 (fun h => h)
theorem t_X11_club_0 (l : Launch) (F : llFix) (d : Nat) (u : llMem) (a0 : Int32) (a1 : Int32) : llCp l F yX11_club cX11_club 3 (some .int) (d + 1) [.ref (F.2.2.1 0), .int a0, .int a1] u llI (fx_X11_club_0 u a0 a1) := llCp.of (by decide +kernel) (by exact Nat.le_of_ble_eq_true rfl) (fun G h1 h2 => by subst h1; subst h2; exact tj_X11_club_0 u a0 a1)
def fx_X12_club_69 (u : llMem) (a0 : Int32) (a1 : Int32) : Option Int32 := (fx_X12_isClub_69 u a0).bind (fun r1 => (if ¬ r1 = 0 then (if a1 = 0 then gI a0 60 (some (rI u 72 a0)) else if a1 = 1 then gI a0 60 (some (rI u 73 a0)) else if a1 = 2 then gI (0 + a0) 1020 (some (rI u 77 (0 + a0))) else if a1 = 3 then gI a0 60 (some (rI u 74 a0)) else if a1 = 4 then gI a0 60 (some (rI u 75 a0)) else if a1 = 5 then gI (30 + a0) 1020 (some (rI u 77 (30 + a0))) else if a1 = 6 then gI (60 + a0) 1020 (some (rI u 77 (60 + a0))) else if a1 = 7 then gI (90 + a0) 1020 (some (rI u 77 (90 + a0))) else some ((-3))) else some ((-3))))
set_option maxRecDepth 20000 in
theorem tj_X12_club_69 {G : llG} {d : Nat} (u : llMem) (a0 : Int32) (a1 : Int32) : llJ G RX12 cX12_club 3 (some .int) (d + 2) (fun r => llRet G (llI r) u) 0 [(0, .ref (llAd G 69)), (1, .int a0), (2, .int a1)] [] u (fx_X12_club_69 u a0 a1) := by
  unfold fx_X12_club_69
  refine J_aload_n (j := 0) dX12_club_0 rfl rfl ?_
  refine J_iload_n (j := 1) dX12_club_1 rfl rfl ?_
  refine J_callVip1 dX12_club_2 (t_X12_isClub_69 (llL G) (llFx G) d u a0) ym_X12_isClub wd_1471 sh_69 rfl (Nat.le_of_ble_eq_true rfl) (fun r1 => ?_)
  refine J_if_ne (tgt := 11) dX12_club_5 (by decide) ?_ ?_
  · refine J_iload_n (j := 2) dX12_club_11 rfl rfl ?_
    refine J_case (fun hq0 => ?_) (fun hn0 => ?_)
    · refine J_tableIn (tgt := 60) hq0 dX12_club_12 (by decide) (by decide) rfl (by decide) ?_
      refine J_aload_n (j := 0) dX12_club_60 rfl rfl ?_
      refine J_getR (b := 72) dX12_club_61 fl_X12_17 sh_69 rfl ?_
      refine J_iload_n (j := 1) dX12_club_64 rfl rfl ?_
      refine J_iald dX12_club_65 sh_72 ?_
      exact J_iret dX12_club_66 (fun h => h)
    refine J_case (fun hq1 => ?_) (fun hn1 => ?_)
    · refine J_tableIn (tgt := 67) hq1 dX12_club_12 (by decide) (by decide) rfl (by decide) ?_
      refine J_aload_n (j := 0) dX12_club_67 rfl rfl ?_
      refine J_getR (b := 73) dX12_club_68 fl_X12_20 sh_69 rfl ?_
      refine J_iload_n (j := 1) dX12_club_71 rfl rfl ?_
      refine J_iald dX12_club_72 sh_73 ?_
      exact J_iret dX12_club_73 (fun h => h)
    refine J_case (fun hq2 => ?_) (fun hn2 => ?_)
    · refine J_tableIn (tgt := 74) hq2 dX12_club_12 (by decide) (by decide) rfl (by decide) ?_
      refine J_aload_n (j := 0) dX12_club_74 rfl rfl ?_
      refine J_getR (b := 77) dX12_club_75 fl_X12_32 sh_69 rfl ?_
      refine J_iconst (v := 0) dX12_club_78 (by decide) ?_
      refine J_iload_n (j := 1) dX12_club_79 rfl rfl ?_
      refine J_iadd dX12_club_80 ?_
      refine J_iald dX12_club_81 sh_77 ?_
      exact J_iret dX12_club_82 (fun h => h)
    refine J_case (fun hq3 => ?_) (fun hn3 => ?_)
    · refine J_tableIn (tgt := 83) hq3 dX12_club_12 (by decide) (by decide) rfl (by decide) ?_
      refine J_aload_n (j := 0) dX12_club_83 rfl rfl ?_
      refine J_getR (b := 74) dX12_club_84 fl_X12_23 sh_69 rfl ?_
      refine J_iload_n (j := 1) dX12_club_87 rfl rfl ?_
      refine J_iald dX12_club_88 sh_74 ?_
      exact J_iret dX12_club_89 (fun h => h)
    refine J_case (fun hq4 => ?_) (fun hn4 => ?_)
    · refine J_tableIn (tgt := 90) hq4 dX12_club_12 (by decide) (by decide) rfl (by decide) ?_
      refine J_aload_n (j := 0) dX12_club_90 rfl rfl ?_
      refine J_getR (b := 75) dX12_club_91 fl_X12_26 sh_69 rfl ?_
      refine J_iload_n (j := 1) dX12_club_94 rfl rfl ?_
      refine J_iald dX12_club_95 sh_75 ?_
      exact J_iret dX12_club_96 (fun h => h)
    refine J_case (fun hq5 => ?_) (fun hn5 => ?_)
    · refine J_tableIn (tgt := 97) hq5 dX12_club_12 (by decide) (by decide) rfl (by decide) ?_
      refine J_aload_n (j := 0) dX12_club_97 rfl rfl ?_
      refine J_getR (b := 77) dX12_club_98 fl_X12_32 sh_69 rfl ?_
      refine J_bipush (v := 30) dX12_club_101 (by decide) ?_
      refine J_iload_n (j := 1) dX12_club_103 rfl rfl ?_
      refine J_iadd dX12_club_104 ?_
      refine J_iald dX12_club_105 sh_77 ?_
      exact J_iret dX12_club_106 (fun h => h)
    refine J_case (fun hq6 => ?_) (fun hn6 => ?_)
    · refine J_tableIn (tgt := 107) hq6 dX12_club_12 (by decide) (by decide) rfl (by decide) ?_
      refine J_aload_n (j := 0) dX12_club_107 rfl rfl ?_
      refine J_getR (b := 77) dX12_club_108 fl_X12_32 sh_69 rfl ?_
      refine J_bipush (v := 60) dX12_club_111 (by decide) ?_
      refine J_iload_n (j := 1) dX12_club_113 rfl rfl ?_
      refine J_iadd dX12_club_114 ?_
      refine J_iald dX12_club_115 sh_77 ?_
      exact J_iret dX12_club_116 (fun h => h)
    refine J_case (fun hq7 => ?_) (fun hn7 => ?_)
    · refine J_tableIn (tgt := 117) hq7 dX12_club_12 (by decide) (by decide) rfl (by decide) ?_
      refine J_aload_n (j := 0) dX12_club_117 rfl rfl ?_
      refine J_getR (b := 77) dX12_club_118 fl_X12_32 sh_69 rfl ?_
      refine J_bipush (v := 90) dX12_club_121 (by decide) ?_
      refine J_iload_n (j := 1) dX12_club_123 rfl rfl ?_
      refine J_iadd dX12_club_124 ?_
      refine J_iald dX12_club_125 sh_77 ?_
      exact J_iret dX12_club_126 (fun h => h)
    refine J_tableOut (tgt := 127) dX12_club_12 (llTabG (by decide) (by decide) (fun k hk1 hk2 => by rcases (show k = 0 ∨ k = 1 ∨ k = 2 ∨ k = 3 ∨ k = 4 ∨ k = 5 ∨ k = 6 ∨ k = 7 by omega) with rfl | rfl | rfl | rfl | rfl | rfl | rfl | rfl <;> assumption)) (by decide) ?_
    refine J_bipush (v := (-3)) dX12_club_127 (by decide) ?_
    exact J_iret dX12_club_129 (fun h => h)
  · refine J_bipush (v := (-3)) dX12_club_8 (by decide) ?_
    exact J_iret dX12_club_10 (fun h => h)
theorem t_X12_club_69 (l : Launch) (F : llFix) (d : Nat) (u : llMem) (a0 : Int32) (a1 : Int32) : llCp l F yX12_club cX12_club 3 (some .int) (d + 2) [.ref (F.2.2.1 69), .int a0, .int a1] u llI (fx_X12_club_69 u a0 a1) := llCp.of (by decide +kernel) (by exact Nat.le_of_ble_eq_true rfl) (fun G h1 h2 => by subst h1; subst h2; exact tj_X12_club_69 u a0 a1)
def fx_X8_placeOf_43_l2 (u : llMem) (v1 : Int32) (s : Int32) : Option ((Int32) ⊕ ((Unit) ⊕ (Int32))) := (if (u.1 43 2) ≤ s then some (.inr (.inl ())) else gI s 12 ((if ¬ (rI u 44 s) = v1 then lt (s + 1) (fun v2_1 => some (.inl v2_1)) else some (.inr (.inr s)))))
set_option maxRecDepth 20000 in
theorem t_X8_placeOf_43_l2 {G : llG} {d : Nat} (u : llMem) (v1 : Int32) (s : Int32) : llJ G RX8 cX8_placeOf 3 (some .int) d (Sum.elim (fun s' => llJq G 3 2 [(0, .ref (llAd G 43)), (1, .int v1), (2, .int s')] [] u) (Sum.elim (fun e => llJq G 3 28 [] [] u) (fun v => llRet G (llI v) u))) 2 [(0, .ref (llAd G 43)), (1, .int v1), (2, .int s)] [] u (fx_X8_placeOf_43_l2 u v1 s) := by
  unfold fx_X8_placeOf_43_l2
  refine J_iload_n (j := 2) dX8_placeOf_2 rfl rfl ?_
  refine J_aload_n (j := 0) dX8_placeOf_3 rfl rfl ?_
  refine J_getI dX8_placeOf_4 fl_X8_38 sh_43 rfl ?_
  refine J_icmp_ge (tgt := 28) dX8_placeOf_7 (by decide) ?_ ?_
  · exact J_cut [] (lv' := []) rfl (fun h => h)
  · refine J_aload_n (j := 0) dX8_placeOf_10 rfl rfl ?_
    refine J_getR (b := 44) dX8_placeOf_11 fl_X8_19 sh_43 rfl ?_
    refine J_iload_n (j := 2) dX8_placeOf_14 rfl rfl ?_
    refine J_iald dX8_placeOf_15 sh_44 ?_
    refine J_iload_n (j := 1) dX8_placeOf_16 rfl rfl ?_
    refine J_icmp_ne (tgt := 22) dX8_placeOf_17 (by decide) ?_ ?_
    · refine J_iinc (j := 2) (b := 1) (fun v2_1 => [(2, .int v2_1), (0, .ref (llAd G 43)), (1, .int v1)]) dX8_placeOf_22 rfl (by decide) (by decide) (fun _ => rfl) (fun v2_1 => ?_)
      refine J_goto (tgt := 2) dX8_placeOf_25 (by decide) ?_
      exact J_cut [1, 2, 0] (lv' := [(0, .ref (llAd G 43)), (1, .int v1), (2, .int v2_1)]) rfl (fun h => h)
    · refine J_iload_n (j := 2) dX8_placeOf_20 rfl rfl ?_
      exact J_iret dX8_placeOf_21 (fun h => h)
def fx_X8_placeOf_43 (u : llMem) (a0 : Int32) : Option Int32 := (loop (fx_X8_placeOf_43_l2 u a0) llFuel 0).bind (Sum.elim (fun e2 => some ((-1))) (fun v => some ((fun v => v) v)))
set_option maxRecDepth 20000 in
theorem tj_X8_placeOf_43 {G : llG} {d : Nat} (u : llMem) (a0 : Int32) : llJ G RX8 cX8_placeOf 3 (some .int) d (fun r => llRet G (llI r) u) 0 [(0, .ref (llAd G 43)), (1, .int a0)] [] u (fx_X8_placeOf_43 u a0) := by
  unfold fx_X8_placeOf_43
  refine J_iconst (v := 0) dX8_placeOf_0 (by decide) ?_
  refine J_istore_n [(2, .int 0), (0, .ref (llAd G 43)), (1, .int a0)] dX8_placeOf_1 rfl (by decide) rfl ?_
  refine J_loopR (wr := (fun v => v)) (fun s' => [(0, .ref (llAd G 43)), (1, .int a0), (2, .int s')]) (fun s' => u) 28 (fun e => []) (fun e => u) (fun v => llRet G (llI v) u) (fun z => t_X8_placeOf_43_l2 u a0 z) [1, 2, 0] rfl rfl (fun v h => h) (fun e2 => ?_)
  refine J_iconst (v := (-1)) dX8_placeOf_28 (by decide) ?_
  exact J_iret dX8_placeOf_29 (fun h => h)
theorem t_X8_placeOf_43 (l : Launch) (F : llFix) (d : Nat) (u : llMem) (a0 : Int32) : llCp l F yX8_placeOf cX8_placeOf 3 (some .int) d [.ref (F.2.2.1 43), .int a0] u llI (fx_X8_placeOf_43 u a0) := llCp.of (by decide +kernel) (by exact Nat.le_of_ble_eq_true rfl) (fun G h1 h2 => by subst h1; subst h2; exact tj_X8_placeOf_43 u a0)
def fx_X10_toDivision_48_j44_b6 (u : llMem) (v1 : Int32) (v2 : Int32) (v3 : Int32) (v4 : Int32) (v5 : Int32) : Option ((Int32 × Int32) ⊕ (Int32)) := lt (v5 + 1) (fun v5_2 => some (.inl (v4, v5_2)))
set_option maxRecDepth 20000 in
theorem t_X10_toDivision_48_j44_b6 {G : llG} {d : Nat} (u : llMem) (v1 : Int32) (v2 : Int32) (v3 : Int32) (v4 : Int32) (v5 : Int32) : llJ G RX10 cX10_toDivision 6 (some .int) (d + 1) (Sum.elim (fun s' => llJq G 6 6 [(0, .ref (llAd G 48)), (1, .int v1), (2, .int v2), (3, .int v3), (4, .int s'.1), (5, .int s'.2)] [] u) (fun e => llJq G 6 50 [(4, .int e)] [] u)) 44 [(0, .ref (llAd G 48)), (1, .int v1), (2, .int v2), (3, .int v3), (4, .int v4), (5, .int v5)] [] u (fx_X10_toDivision_48_j44_b6 u v1 v2 v3 v4 v5) := by
  unfold fx_X10_toDivision_48_j44_b6
  refine J_iinc (j := 5) (b := 1) (fun v5_2 => [(5, .int v5_2), (0, .ref (llAd G 48)), (1, .int v1), (2, .int v2), (3, .int v3), (4, .int v4)]) dX10_toDivision_44 rfl (by decide) (by decide) (fun _ => rfl) (fun v5_2 => ?_)
  refine J_goto (tgt := 6) dX10_toDivision_47 (by decide) ?_
  exact J_cut [1, 2, 3, 4, 5, 0] (lv' := [(0, .ref (llAd G 48)), (1, .int v1), (2, .int v2), (3, .int v3), (4, .int v4), (5, .int v5_2)]) rfl (fun h => h)
def fx_X10_toDivision_48_l6 (u : llMem) (v1 : Int32) (v2 : Int32) (v3 : Int32) (s : Int32 × Int32) : Option ((Int32 × Int32) ⊕ (Int32)) := (if (u.1 3 5) ≤ s.2 then some (.inr s.1) else (fx_X5_standsIn_3 u s.2 v2 v3).bind (fun r1 => (if r1 = 0 then fx_X10_toDivision_48_j44_b6 u v1 v2 v3 s.1 s.2 else (fx_X10_between_48 u v1 s.2).bind (fun r3 => lt (s.1 + r3) (fun v4_4 => fx_X10_toDivision_48_j44_b6 u v1 v2 v3 v4_4 s.2)))))
set_option maxRecDepth 20000 in
theorem t_X10_toDivision_48_l6 {G : llG} {d : Nat} (u : llMem) (v1 : Int32) (v2 : Int32) (v3 : Int32) (s : Int32 × Int32) : llJ G RX10 cX10_toDivision 6 (some .int) (d + 1) (Sum.elim (fun s' => llJq G 6 6 [(0, .ref (llAd G 48)), (1, .int v1), (2, .int v2), (3, .int v3), (4, .int s'.1), (5, .int s'.2)] [] u) (fun e => llJq G 6 50 [(4, .int e)] [] u)) 6 [(0, .ref (llAd G 48)), (1, .int v1), (2, .int v2), (3, .int v3), (4, .int s.1), (5, .int s.2)] [] u (fx_X10_toDivision_48_l6 u v1 v2 v3 s) := by
  unfold fx_X10_toDivision_48_l6
  refine J_iload (j := 5) dX10_toDivision_6 rfl ?_
  refine J_aload_n (j := 0) dX10_toDivision_8 rfl rfl ?_
  refine J_getR (b := 3) dX10_toDivision_9 fl_X10_9 sh_48 rfl ?_
  refine J_getI dX10_toDivision_12 fl_X10_25 sh_3 rfl ?_
  refine J_icmp_ge (tgt := 50) dX10_toDivision_15 (by decide) ?_ ?_
  · exact J_cut [4] (lv' := [(4, .int s.1)]) rfl (fun h => h)
  · refine J_aload_n (j := 0) dX10_toDivision_18 rfl rfl ?_
    refine J_getR (b := 3) dX10_toDivision_19 fl_X10_9 sh_48 rfl ?_
    refine J_iload (j := 5) dX10_toDivision_22 rfl ?_
    refine J_iload_n (j := 2) dX10_toDivision_24 rfl rfl ?_
    refine J_iload_n (j := 3) dX10_toDivision_25 rfl rfl ?_
    refine J_callVip3 dX10_toDivision_26 (t_X5_standsIn_3 (llL G) (llFx G) d u s.2 v2 v3) ym_X5_standsIn wd_916 sh_3 rfl (Nat.le_of_ble_eq_true rfl) (fun r1 => ?_)
    refine J_if_eq (tgt := 44) dX10_toDivision_29 (by decide) ?_ ?_
    · refine J_sub [0, 1, 2, 3, 4, 5] (lv' := [(0, .ref (llAd G 48)), (1, .int v1), (2, .int v2), (3, .int v3), (4, .int s.1), (5, .int s.2)]) rfl ?_
      exact t_X10_toDivision_48_j44_b6 u v1 v2 v3 s.1 s.2
    · refine J_iload (j := 4) dX10_toDivision_32 rfl ?_
      refine J_aload_n (j := 0) dX10_toDivision_34 rfl rfl ?_
      refine J_iload_n (j := 1) dX10_toDivision_35 rfl rfl ?_
      refine J_iload (j := 5) dX10_toDivision_36 rfl ?_
      refine J_callVip2 dX10_toDivision_38 (t_X10_between_48 (llL G) (llFx G) d u v1 s.2) ym_X10_between wd_917 sh_48 rfl (Nat.le_of_ble_eq_true rfl) (fun r3 => ?_)
      refine J_iadd dX10_toDivision_41 ?_
      refine J_istoreL (fun v4_4 => [(4, .int v4_4), (0, .ref (llAd G 48)), (1, .int v1), (2, .int v2), (3, .int v3), (5, .int s.2)]) dX10_toDivision_42 (by decide) (fun _ => rfl) (fun v4_4 => ?_)
      refine J_sub [1, 2, 3, 4, 0, 5] (lv' := [(0, .ref (llAd G 48)), (1, .int v1), (2, .int v2), (3, .int v3), (4, .int v4_4), (5, .int s.2)]) rfl ?_
      exact t_X10_toDivision_48_j44_b6 u v1 v2 v3 v4_4 s.2
def fx_X10_toDivision_48 (u : llMem) (a0 : Int32) (a1 : Int32) (a2 : Int32) : Option Int32 := (loop (fx_X10_toDivision_48_l6 u a0 a1 a2) llFuel (0, 0)).bind (fun e5 => some e5)
set_option maxRecDepth 20000 in
theorem tj_X10_toDivision_48 {G : llG} {d : Nat} (u : llMem) (a0 : Int32) (a1 : Int32) (a2 : Int32) : llJ G RX10 cX10_toDivision 6 (some .int) (d + 1) (fun r => llRet G (llI r) u) 0 [(0, .ref (llAd G 48)), (1, .int a0), (2, .int a1), (3, .int a2)] [] u (fx_X10_toDivision_48 u a0 a1 a2) := by
  unfold fx_X10_toDivision_48
  refine J_iconst (v := 0) dX10_toDivision_0 (by decide) ?_
  refine J_istore [(4, .int 0), (0, .ref (llAd G 48)), (1, .int a0), (2, .int a1), (3, .int a2)] dX10_toDivision_1 (by decide) rfl ?_
  refine J_iconst (v := 0) dX10_toDivision_3 (by decide) ?_
  refine J_istore [(5, .int 0), (4, .int 0), (0, .ref (llAd G 48)), (1, .int a0), (2, .int a1), (3, .int a2)] dX10_toDivision_4 (by decide) rfl ?_
  refine J_loopE (fun s' => [(0, .ref (llAd G 48)), (1, .int a0), (2, .int a1), (3, .int a2), (4, .int s'.1), (5, .int s'.2)]) (fun s' => u) 50 (fun e => [(4, .int e)]) (fun e => u) (fun z => t_X10_toDivision_48_l6 u a0 a1 a2 z) [2, 3, 4, 5, 1, 0] rfl rfl (fun e5 => ?_)
  refine J_iload (j := 0) dX10_toDivision_50 rfl ?_
  exact J_iret dX10_toDivision_52 (fun h => h)
theorem t_X10_toDivision_48 (l : Launch) (F : llFix) (d : Nat) (u : llMem) (a0 : Int32) (a1 : Int32) (a2 : Int32) : llCp l F yX10_toDivision cX10_toDivision 6 (some .int) (d + 1) [.ref (F.2.2.1 48), .int a0, .int a1, .int a2] u llI (fx_X10_toDivision_48 u a0 a1 a2) := llCp.of (by decide +kernel) (by exact Nat.le_of_ble_eq_true rfl) (fun G h1 h2 => by subst h1; subst h2; exact tj_X10_toDivision_48 u a0 a1 a2)
def fx_X11_of_0 (u : llMem) (a0 : Int32) (a1 : Int32) : Option (llMem × Int32) := (fx_X5_plays_3 u a0).bind (fun r1 => (if ¬ r1 = 0 then (if a1 = 0 then gI a0 30 (some (u, rI u 21 a0)) else if a1 = 1 then gI a0 30 (some (u, rI u 22 a0)) else if a1 = 2 then gI a0 30 (some (u, rI u 23 a0)) else if a1 = 3 then gI a0 30 (some (u, rI u 24 a0)) else if a1 = 4 then gI a0 30 (some (u, rI u 25 a0)) else if a1 = 5 then gI a0 30 (bd (fx_X8_arrange_43 u (rI u 12 a0)) (fun u2 _ => gI a0 30 (some (u2, rI u2 45 a0)))) else if a1 = 6 then gI a0 30 (bd (fx_X8_arrange_43 u (rI u 12 a0)) (fun u3 _ => (fx_X8_placeOf_43 u3 a0).bind (fun r4 => some (u3, r4)))) else if a1 = 7 then gI a0 30 (gI a0 30 ((fx_X10_toDivision_48 u a0 (rI u 12 a0) (rI u 13 a0)).bind (fun r5 => some (u, r5)))) else some (u, (-1))) else some (u, (-1))))
set_option maxRecDepth 20000 in
theorem tj_X11_of_0 {G : llG} {d : Nat} (u : llMem) (a0 : Int32) (a1 : Int32) : llJ G RX11 cX11_of 3 (some .int) (d + 4) (fun r => llRet G (llI r.2) r.1) 0 [(0, .ref (llAd G 0)), (1, .int a0), (2, .int a1)] [] u (fx_X11_of_0 u a0 a1) := by
  unfold fx_X11_of_0
  refine J_aload_n (j := 0) dX11_of_0 rfl rfl ?_
  refine J_getR (b := 3) dX11_of_1 fl_X11_19 sh_0 rfl ?_
  refine J_iload_n (j := 1) dX11_of_4 rfl rfl ?_
  refine J_callVip1 dX11_of_5 (t_X5_plays_3 (llL G) (llFx G) (d + 2) u a0) ym_X5_plays wd_725 sh_3 rfl (Nat.le_of_ble_eq_true rfl) (fun r1 => ?_)
  refine J_if_ne (tgt := 13) dX11_of_8 (by decide) ?_ ?_
  · refine J_iload_n (j := 2) dX11_of_13 rfl rfl ?_
    refine J_case (fun hq0 => ?_) (fun hn0 => ?_)
    · refine J_tableIn (tgt := 60) hq0 dX11_of_14 (by decide) (by decide) rfl (by decide) ?_
      refine J_aload_n (j := 0) dX11_of_60 rfl rfl ?_
      refine J_getR (b := 14) dX11_of_61 fl_X11_26 sh_0 rfl ?_
      refine J_getR (b := 21) dX11_of_64 fl_X11_214 sh_14 rfl ?_
      refine J_iload_n (j := 1) dX11_of_67 rfl rfl ?_
      refine J_iald dX11_of_68 sh_21 ?_
      exact J_iret dX11_of_69 (fun h => h)
    refine J_case (fun hq1 => ?_) (fun hn1 => ?_)
    · refine J_tableIn (tgt := 70) hq1 dX11_of_14 (by decide) (by decide) rfl (by decide) ?_
      refine J_aload_n (j := 0) dX11_of_70 rfl rfl ?_
      refine J_getR (b := 14) dX11_of_71 fl_X11_26 sh_0 rfl ?_
      refine J_getR (b := 22) dX11_of_74 fl_X11_217 sh_14 rfl ?_
      refine J_iload_n (j := 1) dX11_of_77 rfl rfl ?_
      refine J_iald dX11_of_78 sh_22 ?_
      exact J_iret dX11_of_79 (fun h => h)
    refine J_case (fun hq2 => ?_) (fun hn2 => ?_)
    · refine J_tableIn (tgt := 80) hq2 dX11_of_14 (by decide) (by decide) rfl (by decide) ?_
      refine J_aload_n (j := 0) dX11_of_80 rfl rfl ?_
      refine J_getR (b := 14) dX11_of_81 fl_X11_26 sh_0 rfl ?_
      refine J_getR (b := 23) dX11_of_84 fl_X11_220 sh_14 rfl ?_
      refine J_iload_n (j := 1) dX11_of_87 rfl rfl ?_
      refine J_iald dX11_of_88 sh_23 ?_
      exact J_iret dX11_of_89 (fun h => h)
    refine J_case (fun hq3 => ?_) (fun hn3 => ?_)
    · refine J_tableIn (tgt := 90) hq3 dX11_of_14 (by decide) (by decide) rfl (by decide) ?_
      refine J_aload_n (j := 0) dX11_of_90 rfl rfl ?_
      refine J_getR (b := 14) dX11_of_91 fl_X11_26 sh_0 rfl ?_
      refine J_getR (b := 24) dX11_of_94 fl_X11_223 sh_14 rfl ?_
      refine J_iload_n (j := 1) dX11_of_97 rfl rfl ?_
      refine J_iald dX11_of_98 sh_24 ?_
      exact J_iret dX11_of_99 (fun h => h)
    refine J_case (fun hq4 => ?_) (fun hn4 => ?_)
    · refine J_tableIn (tgt := 100) hq4 dX11_of_14 (by decide) (by decide) rfl (by decide) ?_
      refine J_aload_n (j := 0) dX11_of_100 rfl rfl ?_
      refine J_getR (b := 14) dX11_of_101 fl_X11_26 sh_0 rfl ?_
      refine J_getR (b := 25) dX11_of_104 fl_X11_226 sh_14 rfl ?_
      refine J_iload_n (j := 1) dX11_of_107 rfl rfl ?_
      refine J_iald dX11_of_108 sh_25 ?_
      exact J_iret dX11_of_109 (fun h => h)
    refine J_case (fun hq5 => ?_) (fun hn5 => ?_)
    · refine J_tableIn (tgt := 110) hq5 dX11_of_14 (by decide) (by decide) rfl (by decide) ?_
      refine J_aload_n (j := 0) dX11_of_110 rfl rfl ?_
      refine J_getR (b := 43) dX11_of_111 fl_X11_60 sh_0 rfl ?_
      refine J_aload_n (j := 0) dX11_of_114 rfl rfl ?_
      refine J_getR (b := 3) dX11_of_115 fl_X11_19 sh_0 rfl ?_
      refine J_getR (b := 12) dX11_of_118 fl_X11_176 sh_3 rfl ?_
      refine J_iload_n (j := 1) dX11_of_121 rfl rfl ?_
      refine J_iald dX11_of_122 sh_12 ?_
      refine J_callVv1 dX11_of_123 (t_X8_arrange_43 (llL G) (llFx G) d u (rI u 12 a0)) ym_X8_arrange wd_907 sh_43 rfl (Nat.le_of_ble_eq_true rfl) (fun u2 => ?_)
      refine J_aload_n (j := 0) dX11_of_126 rfl rfl ?_
      refine J_getR (b := 43) dX11_of_127 fl_X11_60 sh_0 rfl ?_
      refine J_getR (b := 45) dX11_of_130 fl_X11_232 sh_43 rfl ?_
      refine J_iload_n (j := 1) dX11_of_133 rfl rfl ?_
      refine J_iald dX11_of_134 sh_45 ?_
      exact J_iret dX11_of_135 (fun h => h)
    refine J_case (fun hq6 => ?_) (fun hn6 => ?_)
    · refine J_tableIn (tgt := 136) hq6 dX11_of_14 (by decide) (by decide) rfl (by decide) ?_
      refine J_aload_n (j := 0) dX11_of_136 rfl rfl ?_
      refine J_getR (b := 43) dX11_of_137 fl_X11_60 sh_0 rfl ?_
      refine J_aload_n (j := 0) dX11_of_140 rfl rfl ?_
      refine J_getR (b := 3) dX11_of_141 fl_X11_19 sh_0 rfl ?_
      refine J_getR (b := 12) dX11_of_144 fl_X11_176 sh_3 rfl ?_
      refine J_iload_n (j := 1) dX11_of_147 rfl rfl ?_
      refine J_iald dX11_of_148 sh_12 ?_
      refine J_callVv1 dX11_of_149 (t_X8_arrange_43 (llL G) (llFx G) d u (rI u 12 a0)) ym_X8_arrange wd_907 sh_43 rfl (Nat.le_of_ble_eq_true rfl) (fun u3 => ?_)
      refine J_aload_n (j := 0) dX11_of_152 rfl rfl ?_
      refine J_getR (b := 43) dX11_of_153 fl_X11_60 sh_0 rfl ?_
      refine J_iload_n (j := 1) dX11_of_156 rfl rfl ?_
      refine J_callVip1 dX11_of_157 (t_X8_placeOf_43 (llL G) (llFx G) (d + 3) u3 a0) ym_X8_placeOf wd_908 sh_43 rfl (Nat.le_of_ble_eq_true rfl) (fun r4 => ?_)
      exact J_iret dX11_of_160 (fun h => h)
    refine J_case (fun hq7 => ?_) (fun hn7 => ?_)
    · refine J_tableIn (tgt := 161) hq7 dX11_of_14 (by decide) (by decide) rfl (by decide) ?_
      refine J_aload_n (j := 0) dX11_of_161 rfl rfl ?_
      refine J_getR (b := 48) dX11_of_162 fl_X11_69 sh_0 rfl ?_
      refine J_iload_n (j := 1) dX11_of_165 rfl rfl ?_
      refine J_aload_n (j := 0) dX11_of_166 rfl rfl ?_
      refine J_getR (b := 3) dX11_of_167 fl_X11_19 sh_0 rfl ?_
      refine J_getR (b := 12) dX11_of_170 fl_X11_176 sh_3 rfl ?_
      refine J_iload_n (j := 1) dX11_of_173 rfl rfl ?_
      refine J_iald dX11_of_174 sh_12 ?_
      refine J_aload_n (j := 0) dX11_of_175 rfl rfl ?_
      refine J_getR (b := 3) dX11_of_176 fl_X11_19 sh_0 rfl ?_
      refine J_getR (b := 13) dX11_of_179 fl_X11_211 sh_3 rfl ?_
      refine J_iload_n (j := 1) dX11_of_182 rfl rfl ?_
      refine J_iald dX11_of_183 sh_13 ?_
      refine J_callVip3 dX11_of_184 (t_X10_toDivision_48 (llL G) (llFx G) (d + 2) u a0 (rI u 12 a0) (rI u 13 a0)) ym_X10_toDivision wd_912 sh_48 rfl (Nat.le_of_ble_eq_true rfl) (fun r5 => ?_)
      exact J_iret dX11_of_187 (fun h => h)
    refine J_tableOut (tgt := 188) dX11_of_14 (llTabG (by decide) (by decide) (fun k hk1 hk2 => by rcases (show k = 0 ∨ k = 1 ∨ k = 2 ∨ k = 3 ∨ k = 4 ∨ k = 5 ∨ k = 6 ∨ k = 7 by omega) with rfl | rfl | rfl | rfl | rfl | rfl | rfl | rfl <;> assumption)) (by decide) ?_
    refine J_iconst (v := (-1)) dX11_of_188 (by decide) ?_
    exact J_iret dX11_of_189 (fun h => h)
  · refine J_iconst (v := (-1)) dX11_of_11 (by decide) ?_
    exact J_iret dX11_of_12 (fun h => h)
theorem t_X11_of_0 (l : Launch) (F : llFix) (d : Nat) (u : llMem) (a0 : Int32) (a1 : Int32) : llCt l F yX11_of cX11_of 3 (some .int) (d + 4) [.ref (F.2.2.1 0), .int a0, .int a1] u llI (fx_X11_of_0 u a0 a1) := llCt.of (by decide +kernel) (by exact Nat.le_of_ble_eq_true rfl) (fun G h1 h2 => by subst h1; subst h2; exact tj_X11_of_0 u a0 a1)
def fx_X12_of_69_l76 (u : llMem) (v1 : Int32) (s : Int32) : Option ((Int32) ⊕ (Int32)) := gI v1 60 (gI ((12 * (rI u 74 v1)) + s) 48 ((if (rI u 86 ((12 * (rI u 74 v1)) + s)) = v1 then some (.inr s) else lt (s + 1) (fun v3_4 => some (.inl v3_4)))))
set_option maxRecDepth 20000 in
theorem t_X12_of_69_l76 {G : llG} {d : Nat} (u : llMem) (v1 : Int32) (s : Int32) : llJ G RX12 cX12_of 4 (some .int) (d + 7) (Sum.elim (fun s' => llJq G 4 76 [(0, .ref (llAd G 69)), (1, .int v1), (3, .int s')] [] u) (fun e => llJq G 4 102 [(3, .int e)] [] u)) 76 [(0, .ref (llAd G 69)), (1, .int v1), (3, .int s)] [] u (fx_X12_of_69_l76 u v1 s) := by
  unfold fx_X12_of_69_l76
  refine J_aload_n (j := 0) dX12_of_76 rfl rfl ?_
  refine J_getR (b := 86) dX12_of_77 fl_X12_64 sh_69 rfl ?_
  refine J_bipush (v := 12) dX12_of_80 (by decide) ?_
  refine J_aload_n (j := 0) dX12_of_82 rfl rfl ?_
  refine J_getR (b := 74) dX12_of_83 fl_X12_23 sh_69 rfl ?_
  refine J_iload_n (j := 1) dX12_of_86 rfl rfl ?_
  refine J_iald dX12_of_87 sh_74 ?_
  refine J_imul dX12_of_88 ?_
  refine J_iload_n (j := 2) dX12_of_89 rfl rfl ?_
  refine J_iadd dX12_of_90 ?_
  refine J_iald dX12_of_91 sh_86 ?_
  refine J_iload_n (j := 1) dX12_of_92 rfl rfl ?_
  refine J_icmp_eq (tgt := 102) dX12_of_93 (by decide) ?_ ?_
  · exact J_cut [2] (lv' := [(3, .int s)]) rfl (fun h => h)
  · refine J_iinc (j := 2) (b := 1) (fun v3_4 => [(3, .int v3_4), (0, .ref (llAd G 69)), (1, .int v1)]) dX12_of_96 rfl (by decide) (by decide) (fun _ => rfl) (fun v3_4 => ?_)
    refine J_goto (tgt := 76) dX12_of_99 (by decide) ?_
    exact J_cut [1, 2, 0] (lv' := [(0, .ref (llAd G 69)), (1, .int v1), (3, .int v3_4)]) rfl (fun h => h)
def fx_X12_milesIn_69_j50_b6 (u : llMem) (v1 : Int32) (v2 : Int32) (v3 : Int32) (v5 : Int32) (t0 : Int32) (t1 : Int32) : Option ((Int32 × Int32) ⊕ (Int32)) := lt (t0 + t1) (fun v4_1 => lt (v5 + 1) (fun v5_2 => some (.inl (v4_1, v5_2))))
set_option maxRecDepth 20000 in
theorem t_X12_milesIn_69_j50_b6 {G : llG} {d : Nat} (u : llMem) (v1 : Int32) (v2 : Int32) (v3 : Int32) (v5 : Int32) (t0 : Int32) (t1 : Int32) : llJ G RX12 cX12_milesIn 6 (some .int) (d + 1) (Sum.elim (fun s' => llJq G 6 6 [(0, .ref (llAd G 69)), (1, .int v1), (2, .int v2), (3, .int v3), (4, .int s'.1), (5, .int s'.2)] [] u) (fun e => llJq G 6 59 [(4, .int e)] [] u)) 50 [(0, .ref (llAd G 69)), (1, .int v1), (2, .int v2), (3, .int v3), (5, .int v5)] [.int t1, .int t0] u (fx_X12_milesIn_69_j50_b6 u v1 v2 v3 v5 t0 t1) := by
  unfold fx_X12_milesIn_69_j50_b6
  refine J_iadd dX12_milesIn_50 ?_
  refine J_istoreL (fun v4_1 => [(4, .int v4_1), (0, .ref (llAd G 69)), (1, .int v1), (2, .int v2), (3, .int v3), (5, .int v5)]) dX12_milesIn_51 (by decide) (fun _ => rfl) (fun v4_1 => ?_)
  refine J_iinc (j := 5) (b := 1) (fun v5_2 => [(5, .int v5_2), (4, .int v4_1), (0, .ref (llAd G 69)), (1, .int v1), (2, .int v2), (3, .int v3)]) dX12_milesIn_53 rfl (by decide) (by decide) (fun _ => rfl) (fun v5_2 => ?_)
  refine J_goto (tgt := 6) dX12_milesIn_56 (by decide) ?_
  exact J_cut [2, 3, 4, 5, 1, 0] (lv' := [(0, .ref (llAd G 69)), (1, .int v1), (2, .int v2), (3, .int v3), (4, .int v4_1), (5, .int v5_2)]) rfl (fun h => h)
def fx_X12_milesIn_69_j49_b6 (u : llMem) (v1 : Int32) (v2 : Int32) (v3 : Int32) (v5 : Int32) (t0 : Int32) : Option ((Int32 × Int32) ⊕ (Int32)) := fx_X12_milesIn_69_j50_b6 u v1 v2 v3 v5 t0 0
set_option maxRecDepth 20000 in
theorem t_X12_milesIn_69_j49_b6 {G : llG} {d : Nat} (u : llMem) (v1 : Int32) (v2 : Int32) (v3 : Int32) (v5 : Int32) (t0 : Int32) : llJ G RX12 cX12_milesIn 6 (some .int) (d + 1) (Sum.elim (fun s' => llJq G 6 6 [(0, .ref (llAd G 69)), (1, .int v1), (2, .int v2), (3, .int v3), (4, .int s'.1), (5, .int s'.2)] [] u) (fun e => llJq G 6 59 [(4, .int e)] [] u)) 49 [(0, .ref (llAd G 69)), (1, .int v1), (2, .int v2), (3, .int v3), (5, .int v5)] [.int t0] u (fx_X12_milesIn_69_j49_b6 u v1 v2 v3 v5 t0) := by
  unfold fx_X12_milesIn_69_j49_b6
  refine J_iconst (v := 0) dX12_milesIn_49 (by decide) ?_
  refine J_sub [0, 1, 2, 3, 4] (lv' := [(0, .ref (llAd G 69)), (1, .int v1), (2, .int v2), (3, .int v3), (5, .int v5)]) rfl ?_
  exact t_X12_milesIn_69_j50_b6 u v1 v2 v3 v5 t0 0
def fx_X12_milesIn_69_l6 (u : llMem) (v1 : Int32) (v2 : Int32) (v3 : Int32) (s : Int32 × Int32) : Option ((Int32 × Int32) ⊕ (Int32)) := (if (u.1 69 9) ≤ s.2 then some (.inr s.1) else gI s.2 60 ((if ¬ (rI u 74 s.2) = v2 then fx_X12_milesIn_69_j49_b6 u v1 v2 v3 s.2 s.1 else gI s.2 60 ((if ¬ (rI u 75 s.2) = v3 then fx_X12_milesIn_69_j49_b6 u v1 v2 v3 s.2 s.1 else (fx_X12_miles_69 u v1 s.2).bind (fun r3 => fx_X12_milesIn_69_j50_b6 u v1 v2 v3 s.2 s.1 r3))))))
set_option maxRecDepth 20000 in
theorem t_X12_milesIn_69_l6 {G : llG} {d : Nat} (u : llMem) (v1 : Int32) (v2 : Int32) (v3 : Int32) (s : Int32 × Int32) : llJ G RX12 cX12_milesIn 6 (some .int) (d + 1) (Sum.elim (fun s' => llJq G 6 6 [(0, .ref (llAd G 69)), (1, .int v1), (2, .int v2), (3, .int v3), (4, .int s'.1), (5, .int s'.2)] [] u) (fun e => llJq G 6 59 [(4, .int e)] [] u)) 6 [(0, .ref (llAd G 69)), (1, .int v1), (2, .int v2), (3, .int v3), (4, .int s.1), (5, .int s.2)] [] u (fx_X12_milesIn_69_l6 u v1 v2 v3 s) := by
  unfold fx_X12_milesIn_69_l6
  refine J_iload (j := 5) dX12_milesIn_6 rfl ?_
  refine J_aload_n (j := 0) dX12_milesIn_8 rfl rfl ?_
  refine J_getI dX12_milesIn_9 fl_X12_263 sh_69 rfl ?_
  refine J_icmp_ge (tgt := 59) dX12_milesIn_12 (by decide) ?_ ?_
  · exact J_cut [4] (lv' := [(4, .int s.1)]) rfl (fun h => h)
  · refine J_iload (j := 4) dX12_milesIn_15 rfl ?_
    refine J_aload_n (j := 0) dX12_milesIn_17 rfl rfl ?_
    refine J_getR (b := 74) dX12_milesIn_18 fl_X12_23 sh_69 rfl ?_
    refine J_iload (j := 5) dX12_milesIn_21 rfl ?_
    refine J_iald dX12_milesIn_23 sh_74 ?_
    refine J_iload_n (j := 2) dX12_milesIn_24 rfl rfl ?_
    refine J_icmp_ne (tgt := 49) dX12_milesIn_25 (by decide) ?_ ?_
    · refine J_sub [0, 1, 2, 3, 5] (lv' := [(0, .ref (llAd G 69)), (1, .int v1), (2, .int v2), (3, .int v3), (5, .int s.2)]) rfl ?_
      exact t_X12_milesIn_69_j49_b6 u v1 v2 v3 s.2 s.1
    · refine J_aload_n (j := 0) dX12_milesIn_28 rfl rfl ?_
      refine J_getR (b := 75) dX12_milesIn_29 fl_X12_26 sh_69 rfl ?_
      refine J_iload (j := 5) dX12_milesIn_32 rfl ?_
      refine J_iald dX12_milesIn_34 sh_75 ?_
      refine J_iload_n (j := 3) dX12_milesIn_35 rfl rfl ?_
      refine J_icmp_ne (tgt := 49) dX12_milesIn_36 (by decide) ?_ ?_
      · refine J_sub [0, 1, 2, 3, 5] (lv' := [(0, .ref (llAd G 69)), (1, .int v1), (2, .int v2), (3, .int v3), (5, .int s.2)]) rfl ?_
        exact t_X12_milesIn_69_j49_b6 u v1 v2 v3 s.2 s.1
      · refine J_aload_n (j := 0) dX12_milesIn_39 rfl rfl ?_
        refine J_iload_n (j := 1) dX12_milesIn_40 rfl rfl ?_
        refine J_iload (j := 5) dX12_milesIn_41 rfl ?_
        refine J_callVip2 dX12_milesIn_43 (t_X12_miles_69 (llL G) (llFx G) d u v1 s.2) ym_X12_miles wd_1577 sh_69 rfl (Nat.le_of_ble_eq_true rfl) (fun r3 => ?_)
        refine J_goto (tgt := 50) dX12_milesIn_46 (by decide) ?_
        refine J_sub [0, 1, 2, 3, 5] (lv' := [(0, .ref (llAd G 69)), (1, .int v1), (2, .int v2), (3, .int v3), (5, .int s.2)]) rfl ?_
        exact t_X12_milesIn_69_j50_b6 u v1 v2 v3 s.2 s.1 r3
def fx_X12_milesIn_69 (u : llMem) (a0 : Int32) (a1 : Int32) (a2 : Int32) : Option Int32 := (loop (fx_X12_milesIn_69_l6 u a0 a1 a2) llFuel (0, 0)).bind (fun e4 => some e4)
set_option maxRecDepth 20000 in
theorem tj_X12_milesIn_69 {G : llG} {d : Nat} (u : llMem) (a0 : Int32) (a1 : Int32) (a2 : Int32) : llJ G RX12 cX12_milesIn 6 (some .int) (d + 1) (fun r => llRet G (llI r) u) 0 [(0, .ref (llAd G 69)), (1, .int a0), (2, .int a1), (3, .int a2)] [] u (fx_X12_milesIn_69 u a0 a1 a2) := by
  unfold fx_X12_milesIn_69
  refine J_iconst (v := 0) dX12_milesIn_0 (by decide) ?_
  refine J_istore [(4, .int 0), (0, .ref (llAd G 69)), (1, .int a0), (2, .int a1), (3, .int a2)] dX12_milesIn_1 (by decide) rfl ?_
  refine J_iconst (v := 0) dX12_milesIn_3 (by decide) ?_
  refine J_istore [(5, .int 0), (4, .int 0), (0, .ref (llAd G 69)), (1, .int a0), (2, .int a1), (3, .int a2)] dX12_milesIn_4 (by decide) rfl ?_
  refine J_loopE (fun s' => [(0, .ref (llAd G 69)), (1, .int a0), (2, .int a1), (3, .int a2), (4, .int s'.1), (5, .int s'.2)]) (fun s' => u) 59 (fun e => [(4, .int e)]) (fun e => u) (fun z => t_X12_milesIn_69_l6 u a0 a1 a2 z) [2, 3, 4, 5, 1, 0] rfl rfl (fun e4 => ?_)
  refine J_iload (j := 0) dX12_milesIn_59 rfl ?_
  exact J_iret dX12_milesIn_61 (fun h => h)
theorem t_X12_milesIn_69 (l : Launch) (F : llFix) (d : Nat) (u : llMem) (a0 : Int32) (a1 : Int32) (a2 : Int32) : llCp l F yX12_milesIn cX12_milesIn 6 (some .int) (d + 1) [.ref (F.2.2.1 69), .int a0, .int a1, .int a2] u llI (fx_X12_milesIn_69 u a0 a1 a2) := llCp.of (by decide +kernel) (by exact Nat.le_of_ble_eq_true rfl) (fun G h1 h2 => by subst h1; subst h2; exact tj_X12_milesIn_69 u a0 a1 a2)
def fx_X12_of_69 (u : llMem) (a0 : Int32) (a1 : Int32) : Option (llMem × Int32) := (fx_X12_plays_69 u a0).bind (fun r1 => (if r1 = 0 then some (u, (-1)) else (fx_X12_isIn u (Int32.toInt64 a1) 0 7).bind (fun r2 => (if ¬ r2 = 0 then (if 5 ≤ a1 then (if ¬ a1 = 7 then bd (fx_X12_laysOrders_69 u ) (fun u3 _ => (if ¬ a1 = 5 then (loop (fx_X12_of_69_l76 u3 a0) llFuel 0).bind (fun e5 => some (u3, e5)) else gI a0 30 (some (u3, rI u3 84 a0)))) else gI a0 60 (gI a0 60 ((fx_X12_milesIn_69 u a0 (rI u 74 a0) (rI u 75 a0)).bind (fun r6 => some (u, r6))))) else (fx_X12_sumOf_69 u a0 a1).bind (fun r7 => some (u, r7))) else some (u, (-1))))))
set_option maxRecDepth 20000 in
theorem tj_X12_of_69 {G : llG} {d : Nat} (u : llMem) (a0 : Int32) (a1 : Int32) : llJ G RX12 cX12_of 4 (some .int) (d + 7) (fun r => llRet G (llI r.2) r.1) 0 [(0, .ref (llAd G 69)), (1, .int a0), (2, .int a1)] [] u (fx_X12_of_69 u a0 a1) := by
  unfold fx_X12_of_69
  refine J_aload_n (j := 0) dX12_of_0 rfl rfl ?_
  refine J_iload_n (j := 1) dX12_of_1 rfl rfl ?_
  refine J_callVip1 dX12_of_2 (t_X12_plays_69 (llL G) (llFx G) (d + 4) u a0) ym_X12_plays wd_1467 sh_69 rfl (Nat.le_of_ble_eq_true rfl) (fun r1 => ?_)
  refine J_if_eq (tgt := 20) dX12_of_5 (by decide) ?_ ?_
  · refine J_iconst (v := (-1)) dX12_of_20 (by decide) ?_
    exact J_iret dX12_of_21 (fun h => h)
  · refine J_iload_n (j := 2) dX12_of_8 rfl rfl ?_
    refine J_i2l dX12_of_9 ?_
    refine J_lconst (v := 0) dX12_of_10 (by decide) ?_
    refine J_ldc2 (v := 7) dX12_of_11 wd_1593 ?_
    refine J_callSip3 dX12_of_14 (t_X12_isIn (llL G) (llFx G) (d + 6) u (Int32.toInt64 a1) 0 7) ym_X12_isIn wd_1313 (Nat.le_of_ble_eq_true rfl) (fun r2 => ?_)
    refine J_if_ne (tgt := 22) dX12_of_17 (by decide) ?_ ?_
    · refine J_iload_n (j := 2) dX12_of_22 rfl rfl ?_
      refine J_iconst (v := 5) dX12_of_23 (by decide) ?_
      refine J_icmp_ge (tgt := 34) dX12_of_24 (by decide) ?_ ?_
      · refine J_iload_n (j := 2) dX12_of_34 rfl rfl ?_
        refine J_bipush (v := 7) dX12_of_35 (by decide) ?_
        refine J_icmp_ne (tgt := 58) dX12_of_37 (by decide) ?_ ?_
        · refine J_aload_n (j := 0) dX12_of_58 rfl rfl ?_
          refine J_callVv0 dX12_of_59 (t_X12_laysOrders_69 (llL G) (llFx G) d u ) ym_X12_laysOrders wd_1513 sh_69 rfl (Nat.le_of_ble_eq_true rfl) (fun u3 => ?_)
          refine J_iload_n (j := 2) dX12_of_62 rfl rfl ?_
          refine J_iconst (v := 5) dX12_of_63 (by decide) ?_
          refine J_icmp_ne (tgt := 74) dX12_of_64 (by decide) ?_ ?_
          · refine J_iconst (v := 0) dX12_of_74 (by decide) ?_
            refine J_istore_n [(3, .int 0), (0, .ref (llAd G 69)), (1, .int a0), (2, .int a1)] dX12_of_75 rfl (by decide) rfl ?_
            refine J_loopE (fun s' => [(0, .ref (llAd G 69)), (1, .int a0), (3, .int s')]) (fun s' => u3) 102 (fun e => [(3, .int e)]) (fun e => u3) (fun z => t_X12_of_69_l76 u3 a0 z) [1, 2, 0] rfl rfl (fun e5 => ?_)
            refine J_iload_n (j := 0) dX12_of_102 rfl rfl ?_
            exact J_iret dX12_of_103 (fun h => h)
          · refine J_aload_n (j := 0) dX12_of_67 rfl rfl ?_
            refine J_getR (b := 84) dX12_of_68 fl_X12_57 sh_69 rfl ?_
            refine J_iload_n (j := 1) dX12_of_71 rfl rfl ?_
            refine J_iald dX12_of_72 sh_84 ?_
            exact J_iret dX12_of_73 (fun h => h)
        · refine J_aload_n (j := 0) dX12_of_40 rfl rfl ?_
          refine J_iload_n (j := 1) dX12_of_41 rfl rfl ?_
          refine J_aload_n (j := 0) dX12_of_42 rfl rfl ?_
          refine J_getR (b := 74) dX12_of_43 fl_X12_23 sh_69 rfl ?_
          refine J_iload_n (j := 1) dX12_of_46 rfl rfl ?_
          refine J_iald dX12_of_47 sh_74 ?_
          refine J_aload_n (j := 0) dX12_of_48 rfl rfl ?_
          refine J_getR (b := 75) dX12_of_49 fl_X12_26 sh_69 rfl ?_
          refine J_iload_n (j := 1) dX12_of_52 rfl rfl ?_
          refine J_iald dX12_of_53 sh_75 ?_
          refine J_callVip3 dX12_of_54 (t_X12_milesIn_69 (llL G) (llFx G) (d + 5) u a0 (rI u 74 a0) (rI u 75 a0)) ym_X12_milesIn wd_1594 sh_69 rfl (Nat.le_of_ble_eq_true rfl) (fun r6 => ?_)
          exact J_iret dX12_of_57 (fun h => h)
      · refine J_aload_n (j := 0) dX12_of_27 rfl rfl ?_
        refine J_iload_n (j := 1) dX12_of_28 rfl rfl ?_
        refine J_iload_n (j := 2) dX12_of_29 rfl rfl ?_
        refine J_callVip2 dX12_of_30 (t_X12_sumOf_69 (llL G) (llFx G) (d + 4) u a0 a1) ym_X12_sumOf wd_1525 sh_69 rfl (Nat.le_of_ble_eq_true rfl) (fun r7 => ?_)
        exact J_iret dX12_of_33 (fun h => h)
    · refine J_iconst (v := (-1)) dX12_of_20 (by decide) ?_
      exact J_iret dX12_of_21 (fun h => h)
theorem t_X12_of_69 (l : Launch) (F : llFix) (d : Nat) (u : llMem) (a0 : Int32) (a1 : Int32) : llCt l F yX12_of cX12_of 4 (some .int) (d + 7) [.ref (F.2.2.1 69), .int a0, .int a1] u llI (fx_X12_of_69 u a0 a1) := llCt.of (by decide +kernel) (by exact Nat.le_of_ble_eq_true rfl) (fun G h1 h2 => by subst h1; subst h2; exact tj_X12_of_69 u a0 a1)
def fx_X11_points_0 (u : llMem) (a0 : Int32) : Option Int32 := (fx_X5_plays_3 u a0).bind (fun r1 => (if r1 = 0 then some ((-2147483648)) else (fx_X7_pointsOf_14 u a0).bind (fun r2 => some r2)))
set_option maxRecDepth 20000 in
theorem tj_X11_points_0 {G : llG} {d : Nat} (u : llMem) (a0 : Int32) : llJ G RX11 cX11_points 2 (some .int) (d + 2) (fun r => llRet G (llI r) u) 0 [(0, .ref (llAd G 0)), (1, .int a0)] [] u (fx_X11_points_0 u a0) := by
  unfold fx_X11_points_0
  refine J_aload_n (j := 0) dX11_points_0 rfl rfl ?_
  refine J_getR (b := 3) dX11_points_1 fl_X11_19 sh_0 rfl ?_
  refine J_iload_n (j := 1) dX11_points_4 rfl rfl ?_
  refine J_callVip1 dX11_points_5 (t_X5_plays_3 (llL G) (llFx G) d u a0) ym_X5_plays wd_725 sh_3 rfl (Nat.le_of_ble_eq_true rfl) (fun r1 => ?_)
  refine J_if_eq (tgt := 22) dX11_points_8 (by decide) ?_ ?_
  · refine J_ldc (v := (-2147483648)) dX11_points_22 wd_923 ?_
    exact J_iret dX11_points_24 (fun h => h)
  · refine J_aload_n (j := 0) dX11_points_11 rfl rfl ?_
    refine J_getR (b := 14) dX11_points_12 fl_X11_26 sh_0 rfl ?_
    refine J_iload_n (j := 1) dX11_points_15 rfl rfl ?_
    refine J_callVip1 dX11_points_16 (t_X7_pointsOf_14 (llL G) (llFx G) (d + 1) u a0) ym_X7_pointsOf wd_922 sh_14 rfl (Nat.le_of_ble_eq_true rfl) (fun r2 => ?_)
    refine J_goto (tgt := 24) dX11_points_19 (by decide) ?_
    exact J_iret dX11_points_24 (fun h => h)
theorem t_X11_points_0 (l : Launch) (F : llFix) (d : Nat) (u : llMem) (a0 : Int32) : llCp l F yX11_points cX11_points 2 (some .int) (d + 2) [.ref (F.2.2.1 0), .int a0] u llI (fx_X11_points_0 u a0) := llCp.of (by decide +kernel) (by exact Nat.le_of_ble_eq_true rfl) (fun G h1 h2 => by subst h1; subst h2; exact tj_X11_points_0 u a0)
def fx_X12_points_69 (u : llMem) (a0 : Int32) : Option Int32 := (fx_X12_plays_69 u a0).bind (fun r1 => (if r1 = 0 then some ((-2147483648)) else (fx_X12_pointsOf_69 u a0).bind (fun r2 => some r2)))
set_option maxRecDepth 20000 in
theorem tj_X12_points_69 {G : llG} {d : Nat} (u : llMem) (a0 : Int32) : llJ G RX12 cX12_points 2 (some .int) (d + 4) (fun r => llRet G (llI r) u) 0 [(0, .ref (llAd G 69)), (1, .int a0)] [] u (fx_X12_points_69 u a0) := by
  unfold fx_X12_points_69
  refine J_aload_n (j := 0) dX12_points_0 rfl rfl ?_
  refine J_iload_n (j := 1) dX12_points_1 rfl rfl ?_
  refine J_callVip1 dX12_points_2 (t_X12_plays_69 (llL G) (llFx G) (d + 1) u a0) ym_X12_plays wd_1467 sh_69 rfl (Nat.le_of_ble_eq_true rfl) (fun r1 => ?_)
  refine J_if_eq (tgt := 16) dX12_points_5 (by decide) ?_ ?_
  · refine J_ldcw (v := (-2147483648)) dX12_points_16 wd_1602 ?_
    exact J_iret dX12_points_19 (fun h => h)
  · refine J_aload_n (j := 0) dX12_points_8 rfl rfl ?_
    refine J_iload_n (j := 1) dX12_points_9 rfl rfl ?_
    refine J_callVip1 dX12_points_10 (t_X12_pointsOf_69 (llL G) (llFx G) d u a0) ym_X12_pointsOf wd_1521 sh_69 rfl (Nat.le_of_ble_eq_true rfl) (fun r2 => ?_)
    refine J_goto (tgt := 19) dX12_points_13 (by decide) ?_
    exact J_iret dX12_points_19 (fun h => h)
theorem t_X12_points_69 (l : Launch) (F : llFix) (d : Nat) (u : llMem) (a0 : Int32) : llCp l F yX12_points cX12_points 2 (some .int) (d + 4) [.ref (F.2.2.1 69), .int a0] u llI (fx_X12_points_69 u a0) := llCp.of (by decide +kernel) (by exact Nat.le_of_ble_eq_true rfl) (fun G h1 h2 => by subst h1; subst h2; exact tj_X12_points_69 u a0)
def fx_X0_ofDouble_l24 (u : llMem) (v0 : UInt64) (s : UInt64 × Int32) : Option ((UInt64 × Int32) ⊕ (UInt64 × Int32)) := (if (Op.cmpValue (FP.dcmp s.1 4611686018427387904) CmpOp.l) < 0 then some (.inr (s.1, s.2)) else (if 1023 ≤ s.2 then some (.inr (s.1, s.2)) else g64 (FP.ddiv s.1 4611686018427387904) (lt (FP.ddiv s.1 4611686018427387904) (fun v2_1 => lt (s.2 + 1) (fun v4_2 => some (.inl (v2_1, v4_2)))))))
set_option maxRecDepth 20000 in
theorem t_X0_ofDouble_l24 {G : llG} {d : Nat} (u : llMem) (v0 : UInt64) (s : UInt64 × Int32) : llJ G RX0 cX0_ofDouble 7 (some .long) d (Sum.elim (fun s' => llJq G 7 24 [(0, .double v0), (2, .double s'.1), (4, .int s'.2)] [] u) (fun e => llJq G 7 52 [(0, .double v0), (2, .double e.1), (4, .int e.2)] [] u)) 24 [(0, .double v0), (2, .double s.1), (4, .int s.2)] [] u (fx_X0_ofDouble_l24 u v0 s) := by
  unfold fx_X0_ofDouble_l24
  refine J_dload_n (j := 1) dX0_ofDouble_24 rfl rfl ?_
  refine J_ldc2d (v := 4611686018427387904) dX0_ofDouble_25 wd_934 ?_
  refine J_dcmp dX0_ofDouble_28 ?_
  refine J_if_lt (tgt := 52) dX0_ofDouble_29 (by decide) ?_ ?_
  · exact J_cut [0, 1, 2] (lv' := [(0, .double v0), (2, .double s.1), (4, .int s.2)]) rfl (fun h => h)
  · refine J_iload (j := 2) dX0_ofDouble_32 rfl ?_
    refine J_sipush (v := 1023) dX0_ofDouble_34 (by decide) ?_
    refine J_icmp_ge (tgt := 52) dX0_ofDouble_37 (by decide) ?_ ?_
    · exact J_cut [0, 1, 2] (lv' := [(0, .double v0), (2, .double s.1), (4, .int s.2)]) rfl (fun h => h)
    · refine J_dload_n (j := 1) dX0_ofDouble_40 rfl rfl ?_
      refine J_ldc2d (v := 4611686018427387904) dX0_ofDouble_41 wd_934 ?_
      refine J_ddiv dX0_ofDouble_44 ?_
      refine J_dstore_nL (fun v2_1 => [(2, .double v2_1), (0, .double v0), (4, .int s.2)]) dX0_ofDouble_45 rfl (by decide) (fun _ => rfl) (fun v2_1 => ?_)
      refine J_iinc (j := 2) (b := 1) (fun v4_2 => [(4, .int v4_2), (2, .double v2_1), (0, .double v0)]) dX0_ofDouble_46 rfl (by decide) (by decide) (fun _ => rfl) (fun v4_2 => ?_)
      refine J_goto (tgt := 24) dX0_ofDouble_49 (by decide) ?_
      exact J_cut [2, 1, 0] (lv' := [(0, .double v0), (2, .double v2_1), (4, .int v4_2)]) rfl (fun h => h)
def fx_X0_ofDouble_l52 (u : llMem) (v0 : UInt64) (s : UInt64 × Int32) : Option ((UInt64 × Int32) ⊕ (UInt64 × Int32)) := (if 0 ≤ (Op.cmpValue (FP.dcmp s.1 FP.dconst1) CmpOp.g) then some (.inr (s.1, s.2)) else (if s.2 ≤ ((-1022)) then some (.inr (s.1, s.2)) else g64 (FP.dmul s.1 4611686018427387904) (lt (FP.dmul s.1 4611686018427387904) (fun v2_4 => lt (s.2 + (-1)) (fun v4_5 => some (.inl (v2_4, v4_5)))))))
set_option maxRecDepth 20000 in
theorem t_X0_ofDouble_l52 {G : llG} {d : Nat} (u : llMem) (v0 : UInt64) (s : UInt64 × Int32) : llJ G RX0 cX0_ofDouble 7 (some .long) d (Sum.elim (fun s' => llJq G 7 52 [(0, .double v0), (2, .double s'.1), (4, .int s'.2)] [] u) (fun e => llJq G 7 78 [(0, .double v0), (2, .double e.1), (4, .int e.2)] [] u)) 52 [(0, .double v0), (2, .double s.1), (4, .int s.2)] [] u (fx_X0_ofDouble_l52 u v0 s) := by
  unfold fx_X0_ofDouble_l52
  refine J_dload_n (j := 1) dX0_ofDouble_52 rfl rfl ?_
  refine J_dconst1 dX0_ofDouble_53 ?_
  refine J_dcmp dX0_ofDouble_54 ?_
  refine J_if_ge (tgt := 78) dX0_ofDouble_55 (by decide) ?_ ?_
  · exact J_cut [0, 1, 2] (lv' := [(0, .double v0), (2, .double s.1), (4, .int s.2)]) rfl (fun h => h)
  · refine J_iload (j := 2) dX0_ofDouble_58 rfl ?_
    refine J_sipush (v := (-1022)) dX0_ofDouble_60 (by decide) ?_
    refine J_icmp_le (tgt := 78) dX0_ofDouble_63 (by decide) ?_ ?_
    · exact J_cut [0, 1, 2] (lv' := [(0, .double v0), (2, .double s.1), (4, .int s.2)]) rfl (fun h => h)
    · refine J_dload_n (j := 1) dX0_ofDouble_66 rfl rfl ?_
      refine J_ldc2d (v := 4611686018427387904) dX0_ofDouble_67 wd_934 ?_
      refine J_dmul dX0_ofDouble_70 ?_
      refine J_dstore_nL (fun v2_4 => [(2, .double v2_4), (0, .double v0), (4, .int s.2)]) dX0_ofDouble_71 rfl (by decide) (fun _ => rfl) (fun v2_4 => ?_)
      refine J_iinc (j := 2) (b := (-1)) (fun v4_5 => [(4, .int v4_5), (2, .double v2_4), (0, .double v0)]) dX0_ofDouble_72 rfl (by decide) (by decide) (fun _ => rfl) (fun v4_5 => ?_)
      refine J_goto (tgt := 52) dX0_ofDouble_75 (by decide) ?_
      exact J_cut [2, 1, 0] (lv' := [(0, .double v0), (2, .double v2_4), (4, .int v4_5)]) rfl (fun h => h)
def fx_X0_ofDouble_j20 (u : llMem) (v0 : UInt64) (t0 : UInt64) : Option Int64 := (loop (fx_X0_ofDouble_l24 u v0) llFuel (t0, 0)).bind (fun e3 => (loop (fx_X0_ofDouble_l52 u v0) llFuel (e3.1, e3.2)).bind (fun e6 => g64 (FP.dsub e6.1 FP.dconst1) (g64 (FP.dmul (FP.dsub e6.1 FP.dconst1) 4841369599423283200) (lt (((Int32.toInt64 (e6.2 + 1023)) <<< (Int32.toInt64 52 &&& 63)) ||| (FP.d2l (FP.dmul (FP.dsub e6.1 FP.dconst1) 4841369599423283200))) (fun v5_7 => (if 0 ≤ (Op.cmpValue (FP.dcmp v0 FP.dconst0) CmpOp.g) then some v5_7 else some (v5_7 ||| ((-9223372036854775808)))))))))
set_option maxRecDepth 20000 in
theorem t_X0_ofDouble_j20 {G : llG} {d : Nat} (u : llMem) (v0 : UInt64) (t0 : UInt64) : llJ G RX0 cX0_ofDouble 7 (some .long) d (fun r => llRet G (llLg r) u) 20 [(0, .double v0)] [.double t0] u (fx_X0_ofDouble_j20 u v0 t0) := by
  unfold fx_X0_ofDouble_j20
  refine J_dstore_n [(2, .double t0), (0, .double v0)] dX0_ofDouble_20 rfl (by decide) rfl ?_
  refine J_iconst (v := 0) dX0_ofDouble_21 (by decide) ?_
  refine J_istore [(4, .int 0), (2, .double t0), (0, .double v0)] dX0_ofDouble_22 (by decide) rfl ?_
  refine J_loopE (fun s' => [(0, .double v0), (2, .double s'.1), (4, .int s'.2)]) (fun s' => u) 52 (fun e => [(0, .double v0), (2, .double e.1), (4, .int e.2)]) (fun e => u) (fun z => t_X0_ofDouble_l24 u v0 z) [2, 1, 0] rfl rfl (fun e3 => ?_)
  refine J_loopE (fun s' => [(0, .double v0), (2, .double s'.1), (4, .int s'.2)]) (fun s' => u) 78 (fun e => [(0, .double v0), (2, .double e.1), (4, .int e.2)]) (fun e => u) (fun z => t_X0_ofDouble_l52 u v0 z) [0, 1, 2] rfl rfl (fun e6 => ?_)
  refine J_iload (j := 2) dX0_ofDouble_78 rfl ?_
  refine J_sipush (v := 1023) dX0_ofDouble_80 (by decide) ?_
  refine J_iadd dX0_ofDouble_83 ?_
  refine J_i2l dX0_ofDouble_84 ?_
  refine J_bipush (v := 52) dX0_ofDouble_85 (by decide) ?_
  refine J_lshl dX0_ofDouble_87 ?_
  refine J_dload_n (j := 1) dX0_ofDouble_88 rfl rfl ?_
  refine J_dconst1 dX0_ofDouble_89 ?_
  refine J_dsub dX0_ofDouble_90 ?_
  refine J_ldc2d (v := 4841369599423283200) dX0_ofDouble_91 wd_935 ?_
  refine J_dmul dX0_ofDouble_94 ?_
  refine J_d2l dX0_ofDouble_95 ?_
  refine J_lor dX0_ofDouble_96 ?_
  refine J_lstoreL (fun v5_7 => [(5, .long v5_7), (0, .double v0), (2, .double e6.1), (4, .int e6.2)]) dX0_ofDouble_97 (by decide) (fun _ => rfl) (fun v5_7 => ?_)
  refine J_dload_n (j := 1) dX0_ofDouble_99 rfl rfl ?_
  refine J_dconst0 dX0_ofDouble_100 ?_
  refine J_dcmp dX0_ofDouble_101 ?_
  refine J_if_ge (tgt := 114) dX0_ofDouble_102 (by decide) ?_ ?_
  · refine J_lload (j := 0) dX0_ofDouble_114 rfl ?_
    exact J_lret dX0_ofDouble_116 (fun h => h)
  · refine J_lload (j := 0) dX0_ofDouble_105 rfl ?_
    refine J_ldc2 (v := (-9223372036854775808)) dX0_ofDouble_107 wd_936 ?_
    refine J_lor dX0_ofDouble_110 ?_
    refine J_goto (tgt := 116) dX0_ofDouble_111 (by decide) ?_
    exact J_lret dX0_ofDouble_116 (fun h => h)
def fx_X0_ofDouble (u : llMem) (a0 : UInt64) : Option Int64 := (if ¬ (Op.cmpValue (FP.dcmp a0 FP.dconst0) CmpOp.l) = 0 then (if 0 ≤ (Op.cmpValue (FP.dcmp a0 FP.dconst0) CmpOp.g) then fx_X0_ofDouble_j20 u a0 a0 else fx_X0_ofDouble_j20 u a0 (FP.dneg a0)) else some 0)
set_option maxRecDepth 20000 in
theorem tj_X0_ofDouble {G : llG} {d : Nat} (u : llMem) (a0 : UInt64) : llJ G RX0 cX0_ofDouble 7 (some .long) d (fun r => llRet G (llLg r) u) 0 [(0, .double a0)] [] u (fx_X0_ofDouble u a0) := by
  unfold fx_X0_ofDouble
  refine J_dload_n (j := 0) dX0_ofDouble_0 rfl rfl ?_
  refine J_dconst0 dX0_ofDouble_1 ?_
  refine J_dcmp dX0_ofDouble_2 ?_
  refine J_if_ne (tgt := 8) dX0_ofDouble_3 (by decide) ?_ ?_
  · refine J_dload_n (j := 0) dX0_ofDouble_8 rfl rfl ?_
    refine J_dconst0 dX0_ofDouble_9 ?_
    refine J_dcmp dX0_ofDouble_10 ?_
    refine J_if_ge (tgt := 19) dX0_ofDouble_11 (by decide) ?_ ?_
    · refine J_dload_n (j := 0) dX0_ofDouble_19 rfl rfl ?_
      refine J_sub [0] (lv' := [(0, .double a0)]) rfl ?_
      exact t_X0_ofDouble_j20 u a0 a0
    · refine J_dload_n (j := 0) dX0_ofDouble_14 rfl rfl ?_
      refine J_dneg dX0_ofDouble_15 ?_
      refine J_goto (tgt := 20) dX0_ofDouble_16 (by decide) ?_
      refine J_sub [0] (lv' := [(0, .double a0)]) rfl ?_
      exact t_X0_ofDouble_j20 u a0 (FP.dneg a0)
  · refine J_lconst (v := 0) dX0_ofDouble_6 (by decide) ?_
    exact J_lret dX0_ofDouble_7 (fun h => h)
theorem t_X0_ofDouble (l : Launch) (F : llFix) (d : Nat) (u : llMem) (a0 : UInt64) : llCp l F yX0_ofDouble cX0_ofDouble 7 (some .long) d [.double a0] u llLg (fx_X0_ofDouble u a0) := llCp.of (by decide +kernel) (by exact Nat.le_of_ble_eq_true rfl) (fun G h1 h2 => by subst h1; subst h2; exact tj_X0_ofDouble u a0)
def fx_X0_ofFloat_j26 (u : llMem) (v1 : Int64) (t0 : Int32) : Option Int32 := lt (((Int64.toInt32 (((Int64.toUInt64 v1 >>> (Int64.toUInt64 (Int32.toInt64 52) &&& Int64.toUInt64 63)).toInt64) &&& 2047)) - 1023) + 127) (fun v4_2 => some ((t0 ||| (v4_2 <<< (23 &&& 31))) ||| (Int64.toInt32 (((Int64.toUInt64 v1 >>> (Int64.toUInt64 (Int32.toInt64 29) &&& Int64.toUInt64 63)).toInt64) &&& 8388607))))
set_option maxRecDepth 20000 in
theorem t_X0_ofFloat_j26 {G : llG} {d : Nat} (u : llMem) (v1 : Int64) (t0 : Int32) : llJ G RX0 cX0_ofFloat 5 (some .int) (d + 1) (fun r => llRet G (llI r) u) 26 [(1, .long v1)] [.int t0] u (fx_X0_ofFloat_j26 u v1 t0) := by
  unfold fx_X0_ofFloat_j26
  refine J_istore_n [(3, .int t0), (1, .long v1)] dX0_ofFloat_26 rfl (by decide) rfl ?_
  refine J_lload_n (j := 1) dX0_ofFloat_27 rfl rfl ?_
  refine J_bipush (v := 52) dX0_ofFloat_28 (by decide) ?_
  refine J_lushr dX0_ofFloat_30 ?_
  refine J_ldc2 (v := 2047) dX0_ofFloat_31 wd_938 ?_
  refine J_land dX0_ofFloat_34 ?_
  refine J_l2i dX0_ofFloat_35 ?_
  refine J_sipush (v := 1023) dX0_ofFloat_36 (by decide) ?_
  refine J_isub dX0_ofFloat_39 ?_
  refine J_bipush (v := 127) dX0_ofFloat_40 (by decide) ?_
  refine J_iadd dX0_ofFloat_42 ?_
  refine J_istoreL (fun v4_2 => [(4, .int v4_2), (3, .int t0), (1, .long v1)]) dX0_ofFloat_43 (by decide) (fun _ => rfl) (fun v4_2 => ?_)
  refine J_iload_n (j := 1) dX0_ofFloat_45 rfl rfl ?_
  refine J_iload (j := 0) dX0_ofFloat_46 rfl ?_
  refine J_bipush (v := 23) dX0_ofFloat_48 (by decide) ?_
  refine J_ishl dX0_ofFloat_50 ?_
  refine J_ior dX0_ofFloat_51 ?_
  refine J_lload_n (j := 2) dX0_ofFloat_52 rfl rfl ?_
  refine J_bipush (v := 29) dX0_ofFloat_53 (by decide) ?_
  refine J_lushr dX0_ofFloat_55 ?_
  refine J_ldc2 (v := 8388607) dX0_ofFloat_56 wd_939 ?_
  refine J_land dX0_ofFloat_59 ?_
  refine J_l2i dX0_ofFloat_60 ?_
  refine J_ior dX0_ofFloat_61 ?_
  exact J_iret dX0_ofFloat_62 (fun h => h)
def fx_X0_ofFloat (u : llMem) (a0 : UInt32) : Option Int32 := (if ¬ (Op.cmpValue (FP.fcmp a0 FP.fconst0) CmpOp.l) = 0 then g64 (FP.f2d a0) ((fx_X0_ofDouble u (FP.f2d a0)).bind (fun r1 => (if 0 ≤ (lg_cmp r1 0) then fx_X0_ofFloat_j26 u r1 0 else fx_X0_ofFloat_j26 u r1 ((-2147483648))))) else some 0)
set_option maxRecDepth 20000 in
theorem tj_X0_ofFloat {G : llG} {d : Nat} (u : llMem) (a0 : UInt32) : llJ G RX0 cX0_ofFloat 5 (some .int) (d + 1) (fun r => llRet G (llI r) u) 0 [(0, .float a0)] [] u (fx_X0_ofFloat u a0) := by
  unfold fx_X0_ofFloat
  refine J_fload_n (j := 0) dX0_ofFloat_0 rfl rfl ?_
  refine J_fconst0 dX0_ofFloat_1 ?_
  refine J_fcmp dX0_ofFloat_2 ?_
  refine J_if_ne (tgt := 8) dX0_ofFloat_3 (by decide) ?_ ?_
  · refine J_fload_n (j := 0) dX0_ofFloat_8 rfl rfl ?_
    refine J_f2d dX0_ofFloat_9 ?_
    refine J_callSlp1 dX0_ofFloat_10 (t_X0_ofDouble (llL G) (llFx G) d u (FP.f2d a0)) ym_X0_ofDouble wd_931 (Nat.le_of_ble_eq_true rfl) (fun r1 => ?_)
    refine J_lstore_n [(1, .long r1), (0, .float a0)] dX0_ofFloat_13 rfl (by decide) rfl ?_
    refine J_lload_n (j := 0) dX0_ofFloat_14 rfl rfl ?_
    refine J_lconst (v := 0) dX0_ofFloat_15 (by decide) ?_
    refine J_lcmp dX0_ofFloat_16 ?_
    refine J_if_ge (tgt := 25) dX0_ofFloat_17 (by decide) ?_ ?_
    · refine J_iconst (v := 0) dX0_ofFloat_25 (by decide) ?_
      refine J_sub [0] (lv' := [(1, .long r1)]) rfl ?_
      exact t_X0_ofFloat_j26 u r1 0
    · refine J_ldc (v := (-2147483648)) dX0_ofFloat_20 wd_937 ?_
      refine J_goto (tgt := 26) dX0_ofFloat_22 (by decide) ?_
      refine J_sub [0] (lv' := [(1, .long r1)]) rfl ?_
      exact t_X0_ofFloat_j26 u r1 ((-2147483648))
  · refine J_iconst (v := 0) dX0_ofFloat_6 (by decide) ?_
    exact J_iret dX0_ofFloat_7 (fun h => h)
theorem t_X0_ofFloat (l : Launch) (F : llFix) (d : Nat) (u : llMem) (a0 : UInt32) : llCp l F yX0_ofFloat cX0_ofFloat 5 (some .int) (d + 1) [.float a0] u llI (fx_X0_ofFloat u a0) := llCp.of (by decide +kernel) (by exact Nat.le_of_ble_eq_true rfl) (fun G h1 h2 => by subst h1; subst h2; exact tj_X0_ofFloat u a0)
def fx_X11_average_0 (u : llMem) (a0 : Int32) : Option Int32 := (fx_X5_plays_3 u a0).bind (fun r1 => (if ¬ r1 = 0 then gI a0 30 (lt (rI u 21 a0) (fun v2_2 => (if 1 ≤ v2_2 then (fx_X7_pointsOf_14 u a0).bind (fun r3 => g32 (FP.fdiv (FP.i2f r3) (FP.i2f v2_2)) ((fx_X0_ofFloat u (FP.fdiv (FP.i2f r3) (FP.i2f v2_2))).bind (fun r4 => some r4))) else some 0))) else some ((-1))))
set_option maxRecDepth 20000 in
theorem tj_X11_average_0 {G : llG} {d : Nat} (u : llMem) (a0 : Int32) : llJ G RX11 cX11_average 3 (some .int) (d + 2) (fun r => llRet G (llI r) u) 0 [(0, .ref (llAd G 0)), (1, .int a0)] [] u (fx_X11_average_0 u a0) := by
  unfold fx_X11_average_0
  refine J_aload_n (j := 0) dX11_average_0 rfl rfl ?_
  refine J_getR (b := 3) dX11_average_1 fl_X11_19 sh_0 rfl ?_
  refine J_iload_n (j := 1) dX11_average_4 rfl rfl ?_
  refine J_callVip1 dX11_average_5 (t_X5_plays_3 (llL G) (llFx G) d u a0) ym_X5_plays wd_725 sh_3 rfl (Nat.le_of_ble_eq_true rfl) (fun r1 => ?_)
  refine J_if_ne (tgt := 13) dX11_average_8 (by decide) ?_ ?_
  · refine J_aload_n (j := 0) dX11_average_13 rfl rfl ?_
    refine J_getR (b := 14) dX11_average_14 fl_X11_26 sh_0 rfl ?_
    refine J_getR (b := 21) dX11_average_17 fl_X11_214 sh_14 rfl ?_
    refine J_iload_n (j := 1) dX11_average_20 rfl rfl ?_
    refine J_iald dX11_average_21 sh_21 ?_
    refine J_istore_nL (fun v2_2 => [(2, .int v2_2), (0, .ref (llAd G 0)), (1, .int a0)]) dX11_average_22 rfl (by decide) (fun _ => rfl) (fun v2_2 => ?_)
    refine J_iload_n (j := 0) dX11_average_23 rfl rfl ?_
    refine J_iconst (v := 1) dX11_average_24 (by decide) ?_
    refine J_icmp_ge (tgt := 30) dX11_average_25 (by decide) ?_ ?_
    · refine J_aload_n (j := 1) dX11_average_30 rfl rfl ?_
      refine J_getR (b := 14) dX11_average_31 fl_X11_26 sh_0 rfl ?_
      refine J_iload_n (j := 2) dX11_average_34 rfl rfl ?_
      refine J_callVip1 dX11_average_35 (t_X7_pointsOf_14 (llL G) (llFx G) (d + 1) u a0) ym_X7_pointsOf wd_922 sh_14 rfl (Nat.le_of_ble_eq_true rfl) (fun r3 => ?_)
      refine J_i2f dX11_average_38 ?_
      refine J_iload_n (j := 0) dX11_average_39 rfl rfl ?_
      refine J_i2f dX11_average_40 ?_
      refine J_fdiv dX11_average_41 ?_
      refine J_callSip1 dX11_average_42 (t_X0_ofFloat (llL G) (llFx G) d u (FP.fdiv (FP.i2f r3) (FP.i2f v2_2))) ym_X0_ofFloat wd_928 (Nat.le_of_ble_eq_true rfl) (fun r4 => ?_)
      exact J_iret dX11_average_45 (fun h => h)
    · refine J_iconst (v := 0) dX11_average_28 (by decide) ?_
      exact J_iret dX11_average_29 (fun h => h)
  · refine J_iconst (v := (-1)) dX11_average_11 (by decide) ?_
    exact J_iret dX11_average_12 (fun h => h)
theorem t_X11_average_0 (l : Launch) (F : llFix) (d : Nat) (u : llMem) (a0 : Int32) : llCp l F yX11_average cX11_average 3 (some .int) (d + 2) [.ref (F.2.2.1 0), .int a0] u llI (fx_X11_average_0 u a0) := llCp.of (by decide +kernel) (by exact Nat.le_of_ble_eq_true rfl) (fun G h1 h2 => by subst h1; subst h2; exact tj_X11_average_0 u a0)
def fx_Jxf58ca_isNaN_12338 (u : llMem) (a0 : UInt32) : Option Int32 := (if (Op.cmpValue (FP.fcmp a0 a0) CmpOp.l) = 0 then gB 0 (some 0) else gB 1 (some 1))
set_option maxRecDepth 20000 in
theorem tj_Jxf58ca_isNaN_12338 {G : llG} {d : Nat} (u : llMem) (a0 : UInt32) : llJ G RJxf58ca cJxf58ca_isNaN_12338 1 (some .boolean) d (fun r => llRet G (llI r) u) 0 [(0, .float a0)] [] u (fx_Jxf58ca_isNaN_12338 u a0) := by
  unfold fx_Jxf58ca_isNaN_12338
  refine J_fload_n (j := 0) dJxf58ca_isNaN_12338_0 rfl rfl ?_
  refine J_fload_n (j := 0) dJxf58ca_isNaN_12338_1 rfl rfl ?_
  refine J_fcmp dJxf58ca_isNaN_12338_2 ?_
  refine J_if_eq (tgt := 10) dJxf58ca_isNaN_12338_3 (by decide) ?_ ?_
  · refine J_iconst (v := 0) dJxf58ca_isNaN_12338_10 (by decide) ?_
    exact J_zret dJxf58ca_isNaN_12338_11 (fun h => h)
  · refine J_iconst (v := 1) dJxf58ca_isNaN_12338_6 (by decide) ?_
    refine J_goto (tgt := 11) dJxf58ca_isNaN_12338_7 (by decide) ?_
    exact J_zret dJxf58ca_isNaN_12338_11 (fun h => h)
theorem t_Jxf58ca_isNaN_12338 (l : Launch) (F : llFix) (d : Nat) (u : llMem) (a0 : UInt32) : llCp l F yJxf58ca_isNaN_12338 cJxf58ca_isNaN_12338 1 (some .boolean) d [.float a0] u llI (fx_Jxf58ca_isNaN_12338 u a0) := llCp.of (by decide +kernel) (by exact Nat.le_of_ble_eq_true rfl) (fun G h1 h2 => by subst h1; subst h2; exact tj_Jxf58ca_isNaN_12338 u a0)
def fx_Jxf58ca_floatToIntBits_5c35a (u : llMem) (a0 : UInt32) : Option Int32 := (fx_Jxf58ca_isNaN_12338 u a0).bind (fun r1 => (if ¬ r1 = 0 then some 2143289344 else some (UInt32.toInt32 a0)))
set_option maxRecDepth 20000 in
theorem tj_Jxf58ca_floatToIntBits_5c35a {G : llG} {d : Nat} (u : llMem) (a0 : UInt32) : llJ G RJxf58ca cJxf58ca_floatToIntBits_5c35a 1 (some .int) (d + 1) (fun r => llRet G (llI r) u) 0 [(0, .float a0)] [] u (fx_Jxf58ca_floatToIntBits_5c35a u a0) := by
  unfold fx_Jxf58ca_floatToIntBits_5c35a
  refine J_fload_n (j := 0) dJxf58ca_floatToIntBits_5c35a_0 rfl rfl ?_
  refine J_callSip1 dJxf58ca_floatToIntBits_5c35a_1 (t_Jxf58ca_isNaN_12338 (llL G) (llFx G) d u a0) ym_Jxf58ca_isNaN_12338 wd_1610 (Nat.le_of_ble_eq_true rfl) (fun r1 => ?_)
  refine J_if_ne (tgt := 12) dJxf58ca_floatToIntBits_5c35a_4 (by decide) ?_ ?_
  · refine J_ldc (v := 2143289344) dJxf58ca_floatToIntBits_5c35a_12 wd_1616 ?_
    exact J_iret dJxf58ca_floatToIntBits_5c35a_14 (fun h => h)
  · refine J_fload_n (j := 0) dJxf58ca_floatToIntBits_5c35a_7 rfl rfl ?_
    refine J_f2i dJxf58ca_floatToIntBits_5c35a_8 wd_1613 wd_1615 wd_1614 wd_23 (Nat.le_of_ble_eq_true rfl) ?_
    exact J_iret dJxf58ca_floatToIntBits_5c35a_11 (fun h => h)
theorem t_Jxf58ca_floatToIntBits_5c35a (l : Launch) (F : llFix) (d : Nat) (u : llMem) (a0 : UInt32) : llCp l F yJxf58ca_floatToIntBits_5c35a cJxf58ca_floatToIntBits_5c35a 1 (some .int) (d + 1) [.float a0] u llI (fx_Jxf58ca_floatToIntBits_5c35a u a0) := llCp.of (by decide +kernel) (by exact Nat.le_of_ble_eq_true rfl) (fun G h1 h2 => by subst h1; subst h2; exact tj_Jxf58ca_floatToIntBits_5c35a u a0)
def fx_X12_average_69 (u : llMem) (a0 : Int32) : Option Int32 := (fx_X12_plays_69 u a0).bind (fun r1 => (if r1 = 0 then some ((-1)) else (fx_X12_averageOf_69 u a0).bind (fun r2 => (fx_Jxf58ca_floatToIntBits_5c35a u r2).bind (fun r3 => some r3))))
set_option maxRecDepth 20000 in
theorem tj_X12_average_69 {G : llG} {d : Nat} (u : llMem) (a0 : Int32) : llJ G RX12 cX12_average 2 (some .int) (d + 5) (fun r => llRet G (llI r) u) 0 [(0, .ref (llAd G 69)), (1, .int a0)] [] u (fx_X12_average_69 u a0) := by
  unfold fx_X12_average_69
  refine J_aload_n (j := 0) dX12_average_0 rfl rfl ?_
  refine J_iload_n (j := 1) dX12_average_1 rfl rfl ?_
  refine J_callVip1 dX12_average_2 (t_X12_plays_69 (llL G) (llFx G) (d + 2) u a0) ym_X12_plays wd_1467 sh_69 rfl (Nat.le_of_ble_eq_true rfl) (fun r1 => ?_)
  refine J_if_eq (tgt := 19) dX12_average_5 (by decide) ?_ ?_
  · refine J_iconst (v := (-1)) dX12_average_19 (by decide) ?_
    exact J_iret dX12_average_20 (fun h => h)
  · refine J_aload_n (j := 0) dX12_average_8 rfl rfl ?_
    refine J_iload_n (j := 1) dX12_average_9 rfl rfl ?_
    refine J_callVfp1 dX12_average_10 (t_X12_averageOf_69 (llL G) (llFx G) d u a0) ym_X12_averageOf wd_1536 sh_69 rfl (Nat.le_of_ble_eq_true rfl) (fun r2 => ?_)
    refine J_callSip1 dX12_average_13 (t_Jxf58ca_floatToIntBits_5c35a (llL G) (llFx G) (d + 3) u r2) ym_Jxf58ca_floatToIntBits_5c35a wd_1607 (Nat.le_of_ble_eq_true rfl) (fun r3 => ?_)
    refine J_goto (tgt := 20) dX12_average_16 (by decide) ?_
    exact J_iret dX12_average_20 (fun h => h)
theorem t_X12_average_69 (l : Launch) (F : llFix) (d : Nat) (u : llMem) (a0 : Int32) : llCp l F yX12_average cX12_average 2 (some .int) (d + 5) [.ref (F.2.2.1 69), .int a0] u llI (fx_X12_average_69 u a0) := llCp.of (by decide +kernel) (by exact Nat.le_of_ble_eq_true rfl) (fun G h1 h2 => by subst h1; subst h2; exact tj_X12_average_69 u a0)
def fx_X5_hasDivision_3 (u : llMem) (a0 : Int32) (a1 : Int32) : Option Int32 := (fx_X5_hasLevel_3 u a0).bind (fun r1 => (if r1 = 0 then gB 0 (some 0) else (if a1 < 0 then gB 0 (some 0) else gI a0 4 ((if (rI u 4 a0) ≤ a1 then gB 0 (some 0) else gB 1 (some 1))))))
set_option maxRecDepth 20000 in
theorem tj_X5_hasDivision_3 {G : llG} {d : Nat} (u : llMem) (a0 : Int32) (a1 : Int32) : llJ G RX5 cX5_hasDivision 3 (some .boolean) (d + 1) (fun r => llRet G (llI r) u) 0 [(0, .ref (llAd G 3)), (1, .int a0), (2, .int a1)] [] u (fx_X5_hasDivision_3 u a0 a1) := by
  unfold fx_X5_hasDivision_3
  refine J_aload_n (j := 0) dX5_hasDivision_0 rfl rfl ?_
  refine J_iload_n (j := 1) dX5_hasDivision_1 rfl rfl ?_
  refine J_callVip1 dX5_hasDivision_2 (t_X5_hasLevel_3 (llL G) (llFx G) d u a0) ym_X5_hasLevel wd_695 sh_3 rfl (Nat.le_of_ble_eq_true rfl) (fun r1 => ?_)
  refine J_if_eq (tgt := 26) dX5_hasDivision_5 (by decide) ?_ ?_
  · refine J_iconst (v := 0) dX5_hasDivision_26 (by decide) ?_
    exact J_zret dX5_hasDivision_27 (fun h => h)
  · refine J_iload_n (j := 2) dX5_hasDivision_8 rfl rfl ?_
    refine J_if_lt (tgt := 26) dX5_hasDivision_9 (by decide) ?_ ?_
    · refine J_iconst (v := 0) dX5_hasDivision_26 (by decide) ?_
      exact J_zret dX5_hasDivision_27 (fun h => h)
    · refine J_iload_n (j := 2) dX5_hasDivision_12 rfl rfl ?_
      refine J_aload_n (j := 0) dX5_hasDivision_13 rfl rfl ?_
      refine J_getR (b := 4) dX5_hasDivision_14 fl_X5_9 sh_3 rfl ?_
      refine J_iload_n (j := 1) dX5_hasDivision_17 rfl rfl ?_
      refine J_iald dX5_hasDivision_18 sh_4 ?_
      refine J_icmp_ge (tgt := 26) dX5_hasDivision_19 (by decide) ?_ ?_
      · refine J_iconst (v := 0) dX5_hasDivision_26 (by decide) ?_
        exact J_zret dX5_hasDivision_27 (fun h => h)
      · refine J_iconst (v := 1) dX5_hasDivision_22 (by decide) ?_
        refine J_goto (tgt := 27) dX5_hasDivision_23 (by decide) ?_
        exact J_zret dX5_hasDivision_27 (fun h => h)
theorem t_X5_hasDivision_3 (l : Launch) (F : llFix) (d : Nat) (u : llMem) (a0 : Int32) (a1 : Int32) : llCp l F yX5_hasDivision cX5_hasDivision 3 (some .boolean) (d + 1) [.ref (F.2.2.1 3), .int a0, .int a1] u llI (fx_X5_hasDivision_3 u a0 a1) := llCp.of (by decide +kernel) (by exact Nat.le_of_ble_eq_true rfl) (fun G h1 h2 => by subst h1; subst h2; exact tj_X5_hasDivision_3 u a0 a1)
def fx_X8_atRank_43_j50_b2 (u : llMem) (v1 : Int32) (v2 : Int32) (v3 : Int32) : Option ((Int32) ⊕ ((Unit) ⊕ (Int32))) := lt (v3 + 1) (fun v3_1 => some (.inl v3_1))
set_option maxRecDepth 20000 in
theorem t_X8_atRank_43_j50_b2 {G : llG} {d : Nat} (u : llMem) (v1 : Int32) (v2 : Int32) (v3 : Int32) : llJ G RX8 cX8_atRank 4 (some .int) d (Sum.elim (fun s' => llJq G 4 2 [(0, .ref (llAd G 43)), (1, .int v1), (2, .int v2), (3, .int s')] [] u) (Sum.elim (fun e => llJq G 4 56 [] [] u) (fun v => llRet G (llI v) u))) 50 [(0, .ref (llAd G 43)), (1, .int v1), (2, .int v2), (3, .int v3)] [] u (fx_X8_atRank_43_j50_b2 u v1 v2 v3) := by
  unfold fx_X8_atRank_43_j50_b2
  refine J_iinc (j := 3) (b := 1) (fun v3_1 => [(3, .int v3_1), (0, .ref (llAd G 43)), (1, .int v1), (2, .int v2)]) dX8_atRank_50 rfl (by decide) (by decide) (fun _ => rfl) (fun v3_1 => ?_)
  refine J_goto (tgt := 2) dX8_atRank_53 (by decide) ?_
  exact J_cut [1, 2, 3, 0] (lv' := [(0, .ref (llAd G 43)), (1, .int v1), (2, .int v2), (3, .int v3_1)]) rfl (fun h => h)
def fx_X8_atRank_43_l2 (u : llMem) (v1 : Int32) (v2 : Int32) (s : Int32) : Option ((Int32) ⊕ ((Unit) ⊕ (Int32))) := (if (u.1 43 2) ≤ s then some (.inr (.inl ())) else gI s 12 (gI (rI u 44 s) 30 ((if ¬ (rI u 13 (rI u 44 s)) = v1 then fx_X8_atRank_43_j50_b2 u v1 v2 s else gI s 12 (gI (rI u 44 s) 30 ((if ¬ (rI u 45 (rI u 44 s)) = v2 then fx_X8_atRank_43_j50_b2 u v1 v2 s else gI s 12 (some (.inr (.inr (rI u 44 s)))))))))))
set_option maxRecDepth 20000 in
theorem t_X8_atRank_43_l2 {G : llG} {d : Nat} (u : llMem) (v1 : Int32) (v2 : Int32) (s : Int32) : llJ G RX8 cX8_atRank 4 (some .int) d (Sum.elim (fun s' => llJq G 4 2 [(0, .ref (llAd G 43)), (1, .int v1), (2, .int v2), (3, .int s')] [] u) (Sum.elim (fun e => llJq G 4 56 [] [] u) (fun v => llRet G (llI v) u))) 2 [(0, .ref (llAd G 43)), (1, .int v1), (2, .int v2), (3, .int s)] [] u (fx_X8_atRank_43_l2 u v1 v2 s) := by
  unfold fx_X8_atRank_43_l2
  refine J_iload_n (j := 3) dX8_atRank_2 rfl rfl ?_
  refine J_aload_n (j := 0) dX8_atRank_3 rfl rfl ?_
  refine J_getI dX8_atRank_4 fl_X8_38 sh_43 rfl ?_
  refine J_icmp_ge (tgt := 56) dX8_atRank_7 (by decide) ?_ ?_
  · exact J_cut [] (lv' := []) rfl (fun h => h)
  · refine J_aload_n (j := 0) dX8_atRank_10 rfl rfl ?_
    refine J_getR (b := 3) dX8_atRank_11 fl_X8_9 sh_43 rfl ?_
    refine J_getR (b := 13) dX8_atRank_14 fl_X8_55 sh_3 rfl ?_
    refine J_aload_n (j := 0) dX8_atRank_17 rfl rfl ?_
    refine J_getR (b := 44) dX8_atRank_18 fl_X8_19 sh_43 rfl ?_
    refine J_iload_n (j := 3) dX8_atRank_21 rfl rfl ?_
    refine J_iald dX8_atRank_22 sh_44 ?_
    refine J_iald dX8_atRank_23 sh_13 ?_
    refine J_iload_n (j := 1) dX8_atRank_24 rfl rfl ?_
    refine J_icmp_ne (tgt := 50) dX8_atRank_25 (by decide) ?_ ?_
    · refine J_sub [0, 1, 2, 3] (lv' := [(0, .ref (llAd G 43)), (1, .int v1), (2, .int v2), (3, .int s)]) rfl ?_
      exact t_X8_atRank_43_j50_b2 u v1 v2 s
    · refine J_aload_n (j := 0) dX8_atRank_28 rfl rfl ?_
      refine J_getR (b := 45) dX8_atRank_29 fl_X8_23 sh_43 rfl ?_
      refine J_aload_n (j := 0) dX8_atRank_32 rfl rfl ?_
      refine J_getR (b := 44) dX8_atRank_33 fl_X8_19 sh_43 rfl ?_
      refine J_iload_n (j := 3) dX8_atRank_36 rfl rfl ?_
      refine J_iald dX8_atRank_37 sh_44 ?_
      refine J_iald dX8_atRank_38 sh_45 ?_
      refine J_iload_n (j := 2) dX8_atRank_39 rfl rfl ?_
      refine J_icmp_ne (tgt := 50) dX8_atRank_40 (by decide) ?_ ?_
      · refine J_sub [0, 1, 2, 3] (lv' := [(0, .ref (llAd G 43)), (1, .int v1), (2, .int v2), (3, .int s)]) rfl ?_
        exact t_X8_atRank_43_j50_b2 u v1 v2 s
      · refine J_aload_n (j := 0) dX8_atRank_43 rfl rfl ?_
        refine J_getR (b := 44) dX8_atRank_44 fl_X8_19 sh_43 rfl ?_
        refine J_iload_n (j := 3) dX8_atRank_47 rfl rfl ?_
        refine J_iald dX8_atRank_48 sh_44 ?_
        exact J_iret dX8_atRank_49 (fun h => h)
def fx_X8_atRank_43 (u : llMem) (a0 : Int32) (a1 : Int32) : Option Int32 := (loop (fx_X8_atRank_43_l2 u a0 a1) llFuel 0).bind (Sum.elim (fun e2 => some ((-1))) (fun v => some ((fun v => v) v)))
set_option maxRecDepth 20000 in
theorem tj_X8_atRank_43 {G : llG} {d : Nat} (u : llMem) (a0 : Int32) (a1 : Int32) : llJ G RX8 cX8_atRank 4 (some .int) d (fun r => llRet G (llI r) u) 0 [(0, .ref (llAd G 43)), (1, .int a0), (2, .int a1)] [] u (fx_X8_atRank_43 u a0 a1) := by
  unfold fx_X8_atRank_43
  refine J_iconst (v := 0) dX8_atRank_0 (by decide) ?_
  refine J_istore_n [(3, .int 0), (0, .ref (llAd G 43)), (1, .int a0), (2, .int a1)] dX8_atRank_1 rfl (by decide) rfl ?_
  refine J_loopR (wr := (fun v => v)) (fun s' => [(0, .ref (llAd G 43)), (1, .int a0), (2, .int a1), (3, .int s')]) (fun s' => u) 56 (fun e => []) (fun e => u) (fun v => llRet G (llI v) u) (fun z => t_X8_atRank_43_l2 u a0 a1 z) [1, 2, 3, 0] rfl rfl (fun v h => h) (fun e2 => ?_)
  refine J_iconst (v := (-1)) dX8_atRank_56 (by decide) ?_
  exact J_iret dX8_atRank_57 (fun h => h)
theorem t_X8_atRank_43 (l : Launch) (F : llFix) (d : Nat) (u : llMem) (a0 : Int32) (a1 : Int32) : llCp l F yX8_atRank cX8_atRank 4 (some .int) d [.ref (F.2.2.1 43), .int a0, .int a1] u llI (fx_X8_atRank_43 u a0 a1) := llCp.of (by decide +kernel) (by exact Nat.le_of_ble_eq_true rfl) (fun G h1 h2 => by subst h1; subst h2; exact tj_X8_atRank_43 u a0 a1)
def fx_X11_ranked_0 (u : llMem) (a0 : Int32) (a1 : Int32) (a2 : Int32) : Option (llMem × Int32) := (fx_X5_hasDivision_3 u a0 a1).bind (fun r1 => (if ¬ r1 = 0 then bd (fx_X8_arrange_43 u a0) (fun u2 _ => (fx_X8_atRank_43 u2 a1 a2).bind (fun r3 => some (u2, r3))) else some (u, (-1))))
set_option maxRecDepth 20000 in
theorem tj_X11_ranked_0 {G : llG} {d : Nat} (u : llMem) (a0 : Int32) (a1 : Int32) (a2 : Int32) : llJ G RX11 cX11_ranked 4 (some .int) (d + 4) (fun r => llRet G (llI r.2) r.1) 0 [(0, .ref (llAd G 0)), (1, .int a0), (2, .int a1), (3, .int a2)] [] u (fx_X11_ranked_0 u a0 a1 a2) := by
  unfold fx_X11_ranked_0
  refine J_aload_n (j := 0) dX11_ranked_0 rfl rfl ?_
  refine J_getR (b := 3) dX11_ranked_1 fl_X11_19 sh_0 rfl ?_
  refine J_iload_n (j := 1) dX11_ranked_4 rfl rfl ?_
  refine J_iload_n (j := 2) dX11_ranked_5 rfl rfl ?_
  refine J_callVip2 dX11_ranked_6 (t_X5_hasDivision_3 (llL G) (llFx G) (d + 2) u a0 a1) ym_X5_hasDivision wd_944 sh_3 rfl (Nat.le_of_ble_eq_true rfl) (fun r1 => ?_)
  refine J_if_ne (tgt := 14) dX11_ranked_9 (by decide) ?_ ?_
  · refine J_aload_n (j := 0) dX11_ranked_14 rfl rfl ?_
    refine J_getR (b := 43) dX11_ranked_15 fl_X11_60 sh_0 rfl ?_
    refine J_iload_n (j := 1) dX11_ranked_18 rfl rfl ?_
    refine J_callVv1 dX11_ranked_19 (t_X8_arrange_43 (llL G) (llFx G) d u a0) ym_X8_arrange wd_907 sh_43 rfl (Nat.le_of_ble_eq_true rfl) (fun u2 => ?_)
    refine J_aload_n (j := 0) dX11_ranked_22 rfl rfl ?_
    refine J_getR (b := 43) dX11_ranked_23 fl_X11_60 sh_0 rfl ?_
    refine J_iload_n (j := 2) dX11_ranked_26 rfl rfl ?_
    refine J_iload_n (j := 3) dX11_ranked_27 rfl rfl ?_
    refine J_callVip2 dX11_ranked_28 (t_X8_atRank_43 (llL G) (llFx G) (d + 3) u2 a1 a2) ym_X8_atRank wd_948 sh_43 rfl (Nat.le_of_ble_eq_true rfl) (fun r3 => ?_)
    exact J_iret dX11_ranked_31 (fun h => h)
  · refine J_iconst (v := (-1)) dX11_ranked_12 (by decide) ?_
    exact J_iret dX11_ranked_13 (fun h => h)
theorem t_X11_ranked_0 (l : Launch) (F : llFix) (d : Nat) (u : llMem) (a0 : Int32) (a1 : Int32) (a2 : Int32) : llCt l F yX11_ranked cX11_ranked 4 (some .int) (d + 4) [.ref (F.2.2.1 0), .int a0, .int a1, .int a2] u llI (fx_X11_ranked_0 u a0 a1 a2) := llCt.of (by decide +kernel) (by exact Nat.le_of_ble_eq_true rfl) (fun G h1 h2 => by subst h1; subst h2; exact tj_X11_ranked_0 u a0 a1 a2)
def fx_X12_isLevel_69 (u : llMem) (a0 : Int32) : Option Int32 := (fx_X12_isIn u (Int32.toInt64 a0) 0 (Int32.toInt64 ((u.1 69 1) - 1))).bind (fun r1 => gB r1 (some r1))
set_option maxRecDepth 20000 in
theorem tj_X12_isLevel_69 {G : llG} {d : Nat} (u : llMem) (a0 : Int32) : llJ G RX12 cX12_isLevel 2 (some .boolean) (d + 1) (fun r => llRet G (llI r) u) 0 [(0, .ref (llAd G 69)), (1, .int a0)] [] u (fx_X12_isLevel_69 u a0) := by
  unfold fx_X12_isLevel_69
  refine J_iload_n (j := 1) dX12_isLevel_0 rfl rfl ?_
  refine J_i2l dX12_isLevel_1 ?_
  refine J_lconst (v := 0) dX12_isLevel_2 (by decide) ?_
  refine J_aload_n (j := 0) dX12_isLevel_3 rfl rfl ?_
  refine J_getI dX12_isLevel_4 fl_X12_260 sh_69 rfl ?_
  refine J_iconst (v := 1) dX12_isLevel_7 (by decide) ?_
  refine J_isub dX12_isLevel_8 ?_
  refine J_i2l dX12_isLevel_9 ?_
  refine J_callSip3 dX12_isLevel_10 (t_X12_isIn (llL G) (llFx G) d u (Int32.toInt64 a0) 0 (Int32.toInt64 ((u.1 69 1) - 1))) ym_X12_isIn wd_1313 (Nat.le_of_ble_eq_true rfl) (fun r1 => ?_)
  exact J_zret dX12_isLevel_13 (fun h => h)
theorem t_X12_isLevel_69 (l : Launch) (F : llFix) (d : Nat) (u : llMem) (a0 : Int32) : llCp l F yX12_isLevel cX12_isLevel 2 (some .boolean) (d + 1) [.ref (F.2.2.1 69), .int a0] u llI (fx_X12_isLevel_69 u a0) := llCp.of (by decide +kernel) (by exact Nat.le_of_ble_eq_true rfl) (fun G h1 h2 => by subst h1; subst h2; exact tj_X12_isLevel_69 u a0)
def fx_X12_isDivision_69 (u : llMem) (a0 : Int32) (a1 : Int32) : Option Int32 := (fx_X12_isLevel_69 u a0).bind (fun r1 => (if r1 = 0 then gB 0 (some 0) else gI ((4 * a0) + 0) 32 ((fx_X12_isIn u (Int32.toInt64 a1) 0 (Int32.toInt64 ((rI u 70 ((4 * a0) + 0)) - 1))).bind (fun r2 => (if r2 = 0 then gB 0 (some 0) else gB 1 (some 1))))))
set_option maxRecDepth 20000 in
theorem tj_X12_isDivision_69 {G : llG} {d : Nat} (u : llMem) (a0 : Int32) (a1 : Int32) : llJ G RX12 cX12_isDivision 3 (some .boolean) (d + 2) (fun r => llRet G (llI r) u) 0 [(0, .ref (llAd G 69)), (1, .int a0), (2, .int a1)] [] u (fx_X12_isDivision_69 u a0 a1) := by
  unfold fx_X12_isDivision_69
  refine J_aload_n (j := 0) dX12_isDivision_0 rfl rfl ?_
  refine J_iload_n (j := 1) dX12_isDivision_1 rfl rfl ?_
  refine J_callVip1 dX12_isDivision_2 (t_X12_isLevel_69 (llL G) (llFx G) d u a0) ym_X12_isLevel wd_1625 sh_69 rfl (Nat.le_of_ble_eq_true rfl) (fun r1 => ?_)
  refine J_if_eq (tgt := 34) dX12_isDivision_5 (by decide) ?_ ?_
  · refine J_iconst (v := 0) dX12_isDivision_34 (by decide) ?_
    exact J_zret dX12_isDivision_35 (fun h => h)
  · refine J_iload_n (j := 2) dX12_isDivision_8 rfl rfl ?_
    refine J_i2l dX12_isDivision_9 ?_
    refine J_lconst (v := 0) dX12_isDivision_10 (by decide) ?_
    refine J_aload_n (j := 0) dX12_isDivision_11 rfl rfl ?_
    refine J_getR (b := 70) dX12_isDivision_12 fl_X12_7 sh_69 rfl ?_
    refine J_iconst (v := 4) dX12_isDivision_15 (by decide) ?_
    refine J_iload_n (j := 1) dX12_isDivision_16 rfl rfl ?_
    refine J_imul dX12_isDivision_17 ?_
    refine J_iconst (v := 0) dX12_isDivision_18 (by decide) ?_
    refine J_iadd dX12_isDivision_19 ?_
    refine J_iald dX12_isDivision_20 sh_70 ?_
    refine J_iconst (v := 1) dX12_isDivision_21 (by decide) ?_
    refine J_isub dX12_isDivision_22 ?_
    refine J_i2l dX12_isDivision_23 ?_
    refine J_callSip3 dX12_isDivision_24 (t_X12_isIn (llL G) (llFx G) (d + 1) u (Int32.toInt64 a1) 0 (Int32.toInt64 ((rI u 70 ((4 * a0) + 0)) - 1))) ym_X12_isIn wd_1313 (Nat.le_of_ble_eq_true rfl) (fun r2 => ?_)
    refine J_if_eq (tgt := 34) dX12_isDivision_27 (by decide) ?_ ?_
    · refine J_iconst (v := 0) dX12_isDivision_34 (by decide) ?_
      exact J_zret dX12_isDivision_35 (fun h => h)
    · refine J_iconst (v := 1) dX12_isDivision_30 (by decide) ?_
      refine J_goto (tgt := 35) dX12_isDivision_31 (by decide) ?_
      exact J_zret dX12_isDivision_35 (fun h => h)
theorem t_X12_isDivision_69 (l : Launch) (F : llFix) (d : Nat) (u : llMem) (a0 : Int32) (a1 : Int32) : llCp l F yX12_isDivision cX12_isDivision 3 (some .boolean) (d + 2) [.ref (F.2.2.1 69), .int a0, .int a1] u llI (fx_X12_isDivision_69 u a0 a1) := llCp.of (by decide +kernel) (by exact Nat.le_of_ble_eq_true rfl) (fun G h1 h2 => by subst h1; subst h2; exact tj_X12_isDivision_69 u a0 a1)
