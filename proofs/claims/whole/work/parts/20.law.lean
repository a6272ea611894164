/-- the script's cell -/
def llScr (G : llG) (b L : Nat) (xs : Nat → Int32) : Prop := match G with
  | (_, _, _, _, s, _, _, _, _, _, _, _, _, F) => va_X b L xs s s.heap ∧ b < s.heap.size ∧ ¬ llA F.2.2.1 b
section
variable {ρ : Type} {G : llG} {own : String} {cc : ByteArray} {nL : Nat} {ret : Option FieldType} {d : Nat} {K : ρ → Prop} {pc : Nat} {lv : List (Nat × Value)} {rest : List Value} {u : llMem} {x : Option ρ} {b L : Nat} {xs : Nat → Int32}
theorem J_scr {i : Int32} (hX : llScr G b L xs) (hd : decode cc pc = .ok (.iaload, 1)) (k : llJ G own cc nL ret d K (pc + 1) lv (.int (xs i.toNatClampNeg) :: rest) u x) : llJ G own cc nL ret d K pc lv (.int i :: .ref b :: rest) u (gI i L x) := by
  obtain ⟨p, l, e, R, s, m, args, below, meth, c0, cells, slots, Z, F⟩ := G
  intro ok r hr hK H locs ls hP hS hl
  obtain ⟨hg, hr⟩ := gI_some hr
  exact va_sld ok.1 ok.2.1 hX.1 hX.2.1 hX.2.2 hS hg hd (k ok r hr hK H locs ls hP hS hl)
theorem J_scrlen (hX : llScr G b L xs) (hd : decode cc pc = .ok (.arraylength, 1)) (k : llJ G own cc nL ret d K (pc + 1) lv (.int (Int32.ofNat L) :: rest) u x) : llJ G own cc nL ret d K pc lv (.ref b :: rest) u x := by
  obtain ⟨p, l, e, R, s, m, args, below, meth, c0, cells, slots, Z, F⟩ := G
  intro ok r hr hK H locs ls hP hS hl
  exact va_slen ok.1 ok.2.1 hX.1 hX.2.1 hX.2.2 hS hd (k ok r hr hK H locs ls hP hS hl)
end
set_option maxRecDepth 100000 in
theorem wd_491 : (Cond.methodLink "LeagueLevelsLaw" (13 : Nat) ({ cls := "LeagueLevels", name := "feed", desc := "(IIIII)I" } : MethodName)) ∈ llTb := llTb_of (List.mem_append_right _ (List.mem_of_getElem? (i := 491) (by decide +kernel))) (by decide)
set_option maxRecDepth 100000 in
theorem wd_499 : (Cond.methodLink "LeagueLevelsLaw" (18 : Nat) ({ cls := "LeagueLevels", name := "end", desc := "(I)Z" } : MethodName)) ∈ llTb := llTb_of (List.mem_append_right _ (List.mem_of_getElem? (i := 499) (by decide +kernel))) (by decide)
set_option maxRecDepth 100000 in
theorem wd_503 : (Cond.methodLink "LeagueLevelsLaw" (23 : Nat) ({ cls := "LeagueLevels", name := "pyramid", desc := "()I" } : MethodName)) ∈ llTb := llTb_of (List.mem_append_right _ (List.mem_of_getElem? (i := 503) (by decide +kernel))) (by decide)
set_option maxRecDepth 100000 in
theorem wd_660 : (Cond.methodLink "LeagueLevelsLaw" (28 : Nat) ({ cls := "LeagueLevels", name := "day", desc := "()I" } : MethodName)) ∈ llTb := llTb_of (List.mem_append_right _ (List.mem_of_getElem? (i := 660) (by decide +kernel))) (by decide)
set_option maxRecDepth 100000 in
theorem wd_707 : (Cond.methodLink "LeagueLevelsLaw" (32 : Nat) ({ cls := "LeagueLevels", name := "fault", desc := "(I)I" } : MethodName)) ∈ llTb := llTb_of (List.mem_append_right _ (List.mem_of_getElem? (i := 707) (by decide +kernel))) (by decide)
set_option maxRecDepth 100000 in
theorem wd_711 : (Cond.methodLink "LeagueLevelsLaw" (37 : Nat) ({ cls := "LeagueLevels", name := "named", desc := "()I" } : MethodName)) ∈ llTb := llTb_of (List.mem_append_right _ (List.mem_of_getElem? (i := 711) (by decide +kernel))) (by decide)
set_option maxRecDepth 100000 in
theorem wd_721 : (Cond.methodLink "LeagueLevelsLaw" (41 : Nat) ({ cls := "LeagueLevels", name := "resign", desc := "(I)Z" } : MethodName)) ∈ llTb := llTb_of (List.mem_append_right _ (List.mem_of_getElem? (i := 721) (by decide +kernel))) (by decide)
set_option maxRecDepth 100000 in
theorem wd_726 : (Cond.methodLink "LeagueLevelsLaw" (45 : Nat) ({ cls := "LeagueLevels", name := "refuse", desc := "(I)Z" } : MethodName)) ∈ llTb := llTb_of (List.mem_append_right _ (List.mem_of_getElem? (i := 726) (by decide +kernel))) (by decide)
set_option maxRecDepth 100000 in
theorem wd_730 : (Cond.methodLink "LeagueLevelsLaw" (49 : Nat) ({ cls := "LeagueLevels", name := "deduct", desc := "(II)Z" } : MethodName)) ∈ llTb := llTb_of (List.mem_append_right _ (List.mem_of_getElem? (i := 730) (by decide +kernel))) (by decide)
set_option maxRecDepth 100000 in
theorem wd_734 : (Cond.methodLink "LeagueLevelsLaw" (54 : Nat) ({ cls := "LeagueLevels", name := "grade", desc := "(II)Z" } : MethodName)) ∈ llTb := llTb_of (List.mem_append_right _ (List.mem_of_getElem? (i := 734) (by decide +kernel))) (by decide)
set_option maxRecDepth 100000 in
theorem wd_739 : (Cond.methodLink "LeagueLevelsLaw" (58 : Nat) ({ cls := "LeagueLevels", name := "close", desc := "()I" } : MethodName)) ∈ llTb := llTb_of (List.mem_append_right _ (List.mem_of_getElem? (i := 739) (by decide +kernel))) (by decide)
set_option maxRecDepth 100000 in
theorem wd_885 : (Cond.methodLink "LeagueLevelsLaw" (62 : Nat) ({ cls := "LeagueLevels", name := "undo", desc := "()Z" } : MethodName)) ∈ llTb := llTb_of (List.mem_append_right _ (List.mem_of_getElem? (i := 885) (by decide +kernel))) (by decide)
set_option maxRecDepth 100000 in
theorem wd_899 : (Cond.methodLink "LeagueLevelsLaw" (67 : Nat) ({ cls := "LeagueLevels", name := "club", desc := "(II)I" } : MethodName)) ∈ llTb := llTb_of (List.mem_append_right _ (List.mem_of_getElem? (i := 899) (by decide +kernel))) (by decide)
set_option maxRecDepth 100000 in
theorem wd_903 : (Cond.methodLink "LeagueLevelsLaw" (72 : Nat) ({ cls := "LeagueLevels", name := "of", desc := "(II)I" } : MethodName)) ∈ llTb := llTb_of (List.mem_append_right _ (List.mem_of_getElem? (i := 903) (by decide +kernel))) (by decide)
set_option maxRecDepth 100000 in
theorem wd_918 : (Cond.methodLink "LeagueLevelsLaw" (76 : Nat) ({ cls := "LeagueLevels", name := "points", desc := "(I)I" } : MethodName)) ∈ llTb := llTb_of (List.mem_append_right _ (List.mem_of_getElem? (i := 918) (by decide +kernel))) (by decide)
set_option maxRecDepth 100000 in
theorem wd_924 : (Cond.methodLink "LeagueLevelsLaw" (80 : Nat) ({ cls := "LeagueLevels", name := "average", desc := "(I)I" } : MethodName)) ∈ llTb := llTb_of (List.mem_append_right _ (List.mem_of_getElem? (i := 924) (by decide +kernel))) (by decide)
set_option maxRecDepth 100000 in
theorem wd_940 : (Cond.methodLink "LeagueLevelsLaw" (84 : Nat) ({ cls := "LeagueLevels", name := "ranked", desc := "(III)I" } : MethodName)) ∈ llTb := llTb_of (List.mem_append_right _ (List.mem_of_getElem? (i := 940) (by decide +kernel))) (by decide)
set_option maxRecDepth 100000 in
theorem wd_952 : (Cond.methodLink "LeagueLevelsLaw" (89 : Nat) ({ cls := "LeagueLevels", name := "order", desc := "(II)I" } : MethodName)) ∈ llTb := llTb_of (List.mem_append_right _ (List.mem_of_getElem? (i := 952) (by decide +kernel))) (by decide)
set_option maxRecDepth 100000 in
theorem wd_957 : (Cond.methodLink "LeagueLevelsLaw" (93 : Nat) ({ cls := "LeagueLevels", name := "level", desc := "(II)I" } : MethodName)) ∈ llTb := llTb_of (List.mem_append_right _ (List.mem_of_getElem? (i := 957) (by decide +kernel))) (by decide)
set_option maxRecDepth 100000 in
theorem wd_973 : (Cond.methodLink "LeagueLevelsLaw" (97 : Nat) ({ cls := "LeagueLevels", name := "moves", desc := "(III)I" } : MethodName)) ∈ llTb := llTb_of (List.mem_append_right _ (List.mem_of_getElem? (i := 973) (by decide +kernel))) (by decide)
set_option maxRecDepth 100000 in
theorem wd_982 : (Cond.methodLink "LeagueLevelsLaw" (101 : Nat) ({ cls := "LeagueLevels", name := "would", desc := "(I)I" } : MethodName)) ∈ llTb := llTb_of (List.mem_append_right _ (List.mem_of_getElem? (i := 982) (by decide +kernel))) (by decide)
set_option maxRecDepth 100000 in
theorem wd_986 : (Cond.methodLink "LeagueLevelsLaw" (105 : Nat) ({ cls := "LeagueLevels", name := "needs", desc := "(I)I" } : MethodName)) ∈ llTb := llTb_of (List.mem_append_right _ (List.mem_of_getElem? (i := 986) (by decide +kernel))) (by decide)
set_option maxRecDepth 100000 in
theorem wd_995 : (Cond.methodLink "LeagueLevelsLaw" (109 : Nat) ({ cls := "LeagueLevels", name := "parted", desc := "(I)I" } : MethodName)) ∈ llTb := llTb_of (List.mem_append_right _ (List.mem_of_getElem? (i := 995) (by decide +kernel))) (by decide)
set_option maxRecDepth 100000 in
theorem wd_999 : (Cond.methodLink "LeagueLevelsLaw" (113 : Nat) ({ cls := "LeagueLevels", name := "swap", desc := "(II)I" } : MethodName)) ∈ llTb := llTb_of (List.mem_append_right _ (List.mem_of_getElem? (i := 999) (by decide +kernel))) (by decide)
set_option maxRecDepth 100000 in
theorem wd_1024 : (Cond.methodLink "LeagueLevelsLaw" (117 : Nat) ({ cls := "LeagueLevels", name := "middle", desc := "(I)I" } : MethodName)) ∈ llTb := llTb_of (List.mem_append_right _ (List.mem_of_getElem? (i := 1024) (by decide +kernel))) (by decide)
set_option maxRecDepth 100000 in
theorem wd_1033 : (Cond.methodLink "LeagueLevelsLaw" (121 : Nat) ({ cls := "LeagueLevels", name := "rest", desc := "(II)J" } : MethodName)) ∈ llTb := llTb_of (List.mem_append_right _ (List.mem_of_getElem? (i := 1033) (by decide +kernel))) (by decide)
set_option maxRecDepth 100000 in
theorem wd_1045 : (Cond.methodLink "LeagueLevelsLaw" (126 : Nat) ({ cls := "LeagueLevels", name := "match", desc := "(III)I" } : MethodName)) ∈ llTb := llTb_of (List.mem_append_right _ (List.mem_of_getElem? (i := 1045) (by decide +kernel))) (by decide)
set_option maxRecDepth 100000 in
theorem wd_1051 : (Cond.methodLink "LeagueLevelsLaw" (130 : Nat) ({ cls := "LeagueLevels", name := "above", desc := "(I)I" } : MethodName)) ∈ llTb := llTb_of (List.mem_append_right _ (List.mem_of_getElem? (i := 1051) (by decide +kernel))) (by decide)
set_option maxRecDepth 100000 in
theorem wd_1060 : (Cond.methodLink "LeagueLevelsLaw" (134 : Nat) ({ cls := "LeagueLevels", name := "journeys", desc := "(I)I" } : MethodName)) ∈ llTb := llTb_of (List.mem_append_right _ (List.mem_of_getElem? (i := 1060) (by decide +kernel))) (by decide)
set_option maxRecDepth 100000 in
theorem wd_1065 : (Cond.methodLink "LeagueLevelsLaw" (138 : Nat) ({ cls := "LeagueLevels", name := "nearest", desc := "(I)I" } : MethodName)) ∈ llTb := llTb_of (List.mem_append_right _ (List.mem_of_getElem? (i := 1065) (by decide +kernel))) (by decide)
set_option maxRecDepth 100000 in
theorem wd_1074 : (Cond.methodLink "LeagueLevelsLaw" (142 : Nat) ({ cls := "LeagueLevels", name := "versus", desc := "(II)I" } : MethodName)) ∈ llTb := llTb_of (List.mem_append_right _ (List.mem_of_getElem? (i := 1074) (by decide +kernel))) (by decide)
set_option maxRecDepth 100000 in
theorem wd_1085 : (Cond.methodLink "LeagueLevelsLaw" (146 : Nat) ({ cls := "LeagueLevels", name := "strangers", desc := "(I)I" } : MethodName)) ∈ llTb := llTb_of (List.mem_append_right _ (List.mem_of_getElem? (i := 1085) (by decide +kernel))) (by decide)
set_option maxRecDepth 100000 in
theorem wd_1093 : (Cond.methodLink "LeagueLevelsLaw" (150 : Nat) ({ cls := "LeagueLevels", name := "show", desc := "(II)I" } : MethodName)) ∈ llTb := llTb_of (List.mem_append_right _ (List.mem_of_getElem? (i := 1093) (by decide +kernel))) (by decide)
set_option maxRecDepth 100000 in
theorem wd_1117 : (Cond.methodLink "LeagueLevelsLaw" (154 : Nat) ({ cls := "LeagueLevels", name := "out", desc := "(I)I" } : MethodName)) ∈ llTb := llTb_of (List.mem_append_right _ (List.mem_of_getElem? (i := 1117) (by decide +kernel))) (by decide)
set_option maxRecDepth 100000 in
theorem wd_1121 : (Cond.methodLink "LeagueLevelsLaw" (158 : Nat) ({ cls := "LeagueLevels", name := "look", desc := "(I)I" } : MethodName)) ∈ llTb := llTb_of (List.mem_append_right _ (List.mem_of_getElem? (i := 1121) (by decide +kernel))) (by decide)
set_option maxRecDepth 100000 in
theorem wd_1297 : (Cond.methodLink "LeagueLevelsLaw" (66 : Nat) ({ cls := "LeagueLevelsModel", name := "undo", desc := "()Z" } : MethodName)) ∈ llTb := llTb_of (List.mem_append_right _ (List.mem_of_getElem? (i := 1297) (by decide +kernel))) (by decide)
set_option maxRecDepth 100000 in
theorem wd_1301 : (Cond.methodLink "LeagueLevelsLaw" (17 : Nat) ({ cls := "LeagueLevelsModel", name := "feed", desc := "(IIIII)I" } : MethodName)) ∈ llTb := llTb_of (List.mem_append_right _ (List.mem_of_getElem? (i := 1301) (by decide +kernel))) (by decide)
set_option maxRecDepth 100000 in
theorem wd_1309 : (Cond.methodLink "LeagueLevelsLaw" (22 : Nat) ({ cls := "LeagueLevelsModel", name := "end", desc := "(I)Z" } : MethodName)) ∈ llTb := llTb_of (List.mem_append_right _ (List.mem_of_getElem? (i := 1309) (by decide +kernel))) (by decide)
set_option maxRecDepth 100000 in
theorem wd_1316 : (Cond.methodLink "LeagueLevelsLaw" (27 : Nat) ({ cls := "LeagueLevelsModel", name := "pyramid", desc := "()I" } : MethodName)) ∈ llTb := llTb_of (List.mem_append_right _ (List.mem_of_getElem? (i := 1316) (by decide +kernel))) (by decide)
set_option maxRecDepth 100000 in
theorem wd_1455 : (Cond.methodLink "LeagueLevelsLaw" (31 : Nat) ({ cls := "LeagueLevelsModel", name := "day", desc := "()I" } : MethodName)) ∈ llTb := llTb_of (List.mem_append_right _ (List.mem_of_getElem? (i := 1455) (by decide +kernel))) (by decide)
set_option maxRecDepth 100000 in
theorem wd_1479 : (Cond.methodLink "LeagueLevelsLaw" (36 : Nat) ({ cls := "LeagueLevelsModel", name := "fault", desc := "(I)I" } : MethodName)) ∈ llTb := llTb_of (List.mem_append_right _ (List.mem_of_getElem? (i := 1479) (by decide +kernel))) (by decide)
set_option maxRecDepth 100000 in
theorem wd_1483 : (Cond.methodLink "LeagueLevelsLaw" (40 : Nat) ({ cls := "LeagueLevelsModel", name := "named", desc := "()I" } : MethodName)) ∈ llTb := llTb_of (List.mem_append_right _ (List.mem_of_getElem? (i := 1483) (by decide +kernel))) (by decide)
set_option maxRecDepth 100000 in
theorem wd_1487 : (Cond.methodLink "LeagueLevelsLaw" (44 : Nat) ({ cls := "LeagueLevelsModel", name := "resign", desc := "(I)Z" } : MethodName)) ∈ llTb := llTb_of (List.mem_append_right _ (List.mem_of_getElem? (i := 1487) (by decide +kernel))) (by decide)
set_option maxRecDepth 100000 in
theorem wd_1491 : (Cond.methodLink "LeagueLevelsLaw" (48 : Nat) ({ cls := "LeagueLevelsModel", name := "refuse", desc := "(I)Z" } : MethodName)) ∈ llTb := llTb_of (List.mem_append_right _ (List.mem_of_getElem? (i := 1491) (by decide +kernel))) (by decide)
set_option maxRecDepth 100000 in
theorem wd_1495 : (Cond.methodLink "LeagueLevelsLaw" (53 : Nat) ({ cls := "LeagueLevelsModel", name := "deduct", desc := "(II)Z" } : MethodName)) ∈ llTb := llTb_of (List.mem_append_right _ (List.mem_of_getElem? (i := 1495) (by decide +kernel))) (by decide)
set_option maxRecDepth 100000 in
theorem wd_1500 : (Cond.methodLink "LeagueLevelsLaw" (57 : Nat) ({ cls := "LeagueLevelsModel", name := "grade", desc := "(II)Z" } : MethodName)) ∈ llTb := llTb_of (List.mem_append_right _ (List.mem_of_getElem? (i := 1500) (by decide +kernel))) (by decide)
set_option maxRecDepth 100000 in
theorem wd_1505 : (Cond.methodLink "LeagueLevelsLaw" (61 : Nat) ({ cls := "LeagueLevelsModel", name := "close", desc := "()I" } : MethodName)) ∈ llTb := llTb_of (List.mem_append_right _ (List.mem_of_getElem? (i := 1505) (by decide +kernel))) (by decide)
set_option maxRecDepth 100000 in
theorem wd_1585 : (Cond.methodLink "LeagueLevelsLaw" (71 : Nat) ({ cls := "LeagueLevelsModel", name := "club", desc := "(II)I" } : MethodName)) ∈ llTb := llTb_of (List.mem_append_right _ (List.mem_of_getElem? (i := 1585) (by decide +kernel))) (by decide)
set_option maxRecDepth 100000 in
theorem wd_1589 : (Cond.methodLink "LeagueLevelsLaw" (75 : Nat) ({ cls := "LeagueLevelsModel", name := "of", desc := "(II)I" } : MethodName)) ∈ llTb := llTb_of (List.mem_append_right _ (List.mem_of_getElem? (i := 1589) (by decide +kernel))) (by decide)
set_option maxRecDepth 100000 in
theorem wd_1598 : (Cond.methodLink "LeagueLevelsLaw" (79 : Nat) ({ cls := "LeagueLevelsModel", name := "points", desc := "(I)I" } : MethodName)) ∈ llTb := llTb_of (List.mem_append_right _ (List.mem_of_getElem? (i := 1598) (by decide +kernel))) (by decide)
set_option maxRecDepth 100000 in
theorem wd_1603 : (Cond.methodLink "LeagueLevelsLaw" (83 : Nat) ({ cls := "LeagueLevelsModel", name := "average", desc := "(I)I" } : MethodName)) ∈ llTb := llTb_of (List.mem_append_right _ (List.mem_of_getElem? (i := 1603) (by decide +kernel))) (by decide)
set_option maxRecDepth 100000 in
theorem wd_1617 : (Cond.methodLink "LeagueLevelsLaw" (88 : Nat) ({ cls := "LeagueLevelsModel", name := "ranked", desc := "(III)I" } : MethodName)) ∈ llTb := llTb_of (List.mem_append_right _ (List.mem_of_getElem? (i := 1617) (by decide +kernel))) (by decide)
set_option maxRecDepth 100000 in
theorem wd_1629 : (Cond.methodLink "LeagueLevelsLaw" (92 : Nat) ({ cls := "LeagueLevelsModel", name := "order", desc := "(II)I" } : MethodName)) ∈ llTb := llTb_of (List.mem_append_right _ (List.mem_of_getElem? (i := 1629) (by decide +kernel))) (by decide)
set_option maxRecDepth 100000 in
theorem wd_1633 : (Cond.methodLink "LeagueLevelsLaw" (96 : Nat) ({ cls := "LeagueLevelsModel", name := "level", desc := "(II)I" } : MethodName)) ∈ llTb := llTb_of (List.mem_append_right _ (List.mem_of_getElem? (i := 1633) (by decide +kernel))) (by decide)
set_option maxRecDepth 100000 in
theorem wd_1641 : (Cond.methodLink "LeagueLevelsLaw" (100 : Nat) ({ cls := "LeagueLevelsModel", name := "moves", desc := "(III)I" } : MethodName)) ∈ llTb := llTb_of (List.mem_append_right _ (List.mem_of_getElem? (i := 1641) (by decide +kernel))) (by decide)
set_option maxRecDepth 100000 in
theorem wd_1646 : (Cond.methodLink "LeagueLevelsLaw" (104 : Nat) ({ cls := "LeagueLevelsModel", name := "would", desc := "(I)I" } : MethodName)) ∈ llTb := llTb_of (List.mem_append_right _ (List.mem_of_getElem? (i := 1646) (by decide +kernel))) (by decide)
set_option maxRecDepth 100000 in
theorem wd_1650 : (Cond.methodLink "LeagueLevelsLaw" (108 : Nat) ({ cls := "LeagueLevelsModel", name := "needs", desc := "(I)I" } : MethodName)) ∈ llTb := llTb_of (List.mem_append_right _ (List.mem_of_getElem? (i := 1650) (by decide +kernel))) (by decide)
set_option maxRecDepth 100000 in
theorem wd_1654 : (Cond.methodLink "LeagueLevelsLaw" (112 : Nat) ({ cls := "LeagueLevelsModel", name := "parted", desc := "(I)I" } : MethodName)) ∈ llTb := llTb_of (List.mem_append_right _ (List.mem_of_getElem? (i := 1654) (by decide +kernel))) (by decide)
set_option maxRecDepth 100000 in
theorem wd_1658 : (Cond.methodLink "LeagueLevelsLaw" (116 : Nat) ({ cls := "LeagueLevelsModel", name := "swap", desc := "(II)I" } : MethodName)) ∈ llTb := llTb_of (List.mem_append_right _ (List.mem_of_getElem? (i := 1658) (by decide +kernel))) (by decide)
set_option maxRecDepth 100000 in
theorem wd_1663 : (Cond.methodLink "LeagueLevelsLaw" (120 : Nat) ({ cls := "LeagueLevelsModel", name := "middle", desc := "(I)I" } : MethodName)) ∈ llTb := llTb_of (List.mem_append_right _ (List.mem_of_getElem? (i := 1663) (by decide +kernel))) (by decide)
set_option maxRecDepth 100000 in
theorem wd_1671 : (Cond.methodLink "LeagueLevelsLaw" (125 : Nat) ({ cls := "LeagueLevelsModel", name := "rest", desc := "(II)J" } : MethodName)) ∈ llTb := llTb_of (List.mem_append_right _ (List.mem_of_getElem? (i := 1671) (by decide +kernel))) (by decide)
set_option maxRecDepth 100000 in
theorem wd_1686 : (Cond.methodLink "LeagueLevelsLaw" (129 : Nat) ({ cls := "LeagueLevelsModel", name := "match", desc := "(III)I" } : MethodName)) ∈ llTb := llTb_of (List.mem_append_right _ (List.mem_of_getElem? (i := 1686) (by decide +kernel))) (by decide)
set_option maxRecDepth 100000 in
theorem wd_1690 : (Cond.methodLink "LeagueLevelsLaw" (133 : Nat) ({ cls := "LeagueLevelsModel", name := "above", desc := "(I)I" } : MethodName)) ∈ llTb := llTb_of (List.mem_append_right _ (List.mem_of_getElem? (i := 1690) (by decide +kernel))) (by decide)
set_option maxRecDepth 100000 in
theorem wd_1694 : (Cond.methodLink "LeagueLevelsLaw" (137 : Nat) ({ cls := "LeagueLevelsModel", name := "journeys", desc := "(I)I" } : MethodName)) ∈ llTb := llTb_of (List.mem_append_right _ (List.mem_of_getElem? (i := 1694) (by decide +kernel))) (by decide)
set_option maxRecDepth 100000 in
theorem wd_1698 : (Cond.methodLink "LeagueLevelsLaw" (141 : Nat) ({ cls := "LeagueLevelsModel", name := "nearest", desc := "(I)I" } : MethodName)) ∈ llTb := llTb_of (List.mem_append_right _ (List.mem_of_getElem? (i := 1698) (by decide +kernel))) (by decide)
set_option maxRecDepth 100000 in
theorem wd_1702 : (Cond.methodLink "LeagueLevelsLaw" (145 : Nat) ({ cls := "LeagueLevelsModel", name := "versus", desc := "(II)I" } : MethodName)) ∈ llTb := llTb_of (List.mem_append_right _ (List.mem_of_getElem? (i := 1702) (by decide +kernel))) (by decide)
set_option maxRecDepth 100000 in
theorem wd_1709 : (Cond.methodLink "LeagueLevelsLaw" (149 : Nat) ({ cls := "LeagueLevelsModel", name := "strangers", desc := "(I)I" } : MethodName)) ∈ llTb := llTb_of (List.mem_append_right _ (List.mem_of_getElem? (i := 1709) (by decide +kernel))) (by decide)
set_option maxRecDepth 100000 in
theorem wd_1713 : (Cond.methodLink "LeagueLevelsLaw" (153 : Nat) ({ cls := "LeagueLevelsModel", name := "show", desc := "(II)I" } : MethodName)) ∈ llTb := llTb_of (List.mem_append_right _ (List.mem_of_getElem? (i := 1713) (by decide +kernel))) (by decide)
set_option maxRecDepth 100000 in
theorem wd_1727 : (Cond.methodLink "LeagueLevelsLaw" (157 : Nat) ({ cls := "LeagueLevelsModel", name := "out", desc := "(I)I" } : MethodName)) ∈ llTb := llTb_of (List.mem_append_right _ (List.mem_of_getElem? (i := 1727) (by decide +kernel))) (by decide)
set_option maxRecDepth 100000 in
theorem wd_1731 : (Cond.methodLink "LeagueLevelsLaw" (161 : Nat) ({ cls := "LeagueLevelsModel", name := "look", desc := "(I)I" } : MethodName)) ∈ llTb := llTb_of (List.mem_append_right _ (List.mem_of_getElem? (i := 1731) (by decide +kernel))) (by decide)
def fx_L_law_j1144_b18 (L : Nat) (xs : Nat → Int32) (u : llMem) (v3 : Int32) : Option ((llMem × Int32) ⊕ (llMem)) := lt (v3 + 6) (fun v3_5 => some (.inl (u, v3_5)))
set_option maxRecDepth 20000 in
theorem t_L_law_j1144_b18 {G : llG} {d : Nat} {b L : Nat} {xs : Nat → Int32} (hX : llScr G b L xs) (u : llMem) (v3 : Int32) : llJ G RL cL_law 4 (some .boolean) (d + 46) (Sum.elim (fun s' => llJq G 4 18 [(0, .ref b), (1, .ref (llAd G 0)), (2, .ref (llAd G 69)), (3, .int s'.2)] [] s'.1) (fun e => llJq G 4 1150 [] [] e)) 1144 [(0, .ref b), (1, .ref (llAd G 0)), (2, .ref (llAd G 69)), (3, .int v3)] [] u (fx_L_law_j1144_b18 L xs u v3) := by
  unfold fx_L_law_j1144_b18
  refine J_iinc (j := 3) (b := 6) (fun v3_5 => [(3, .int v3_5), (0, .ref b), (1, .ref (llAd G 0)), (2, .ref (llAd G 69))]) dL_law_1144 rfl (by decide) (by decide) (fun _ => rfl) (fun v3_5 => ?_)
  refine J_goto (tgt := 18) dL_law_1147 (by decide) ?_
  exact J_cut [1, 2, 3, 0] (lv' := [(0, .ref b), (1, .ref (llAd G 0)), (2, .ref (llAd G 69)), (3, .int v3_5)]) rfl (fun h => h)
def fx_L_law_l18 (L : Nat) (xs : Nat → Int32)  (s : llMem × Int32) : Option ((llMem × Int32) ⊕ (llMem)) := (if ((Int32.ofNat L) - 6) < s.2 then some (.inr s.1) else gI s.2 L ((if ((xs (Int32.toNatClampNeg s.2)) &&& 63) = 0 then gI (s.2 + 1) L (gI (s.2 + 2) L (gI (s.2 + 3) L (gI (s.2 + 4) L (gI (s.2 + 5) L (bd (fx_X11_feed_0 s.1 (xs (Int32.toNatClampNeg (s.2 + 1))) (xs (Int32.toNatClampNeg (s.2 + 2))) (xs (Int32.toNatClampNeg (s.2 + 3))) (xs (Int32.toNatClampNeg (s.2 + 4))) (xs (Int32.toNatClampNeg (s.2 + 5)))) (fun u1 r2 => gI (s.2 + 1) L (gI (s.2 + 2) L (gI (s.2 + 3) L (gI (s.2 + 4) L (gI (s.2 + 5) L (bd (fx_X12_feed_69 u1 (xs (Int32.toNatClampNeg (s.2 + 1))) (xs (Int32.toNatClampNeg (s.2 + 2))) (xs (Int32.toNatClampNeg (s.2 + 3))) (xs (Int32.toNatClampNeg (s.2 + 4))) (xs (Int32.toNatClampNeg (s.2 + 5)))) (fun u3 r4 => (if r2 = r4 then fx_L_law_j1144_b18 L xs u3 s.2 else none))))))))))))) else if ((xs (Int32.toNatClampNeg s.2)) &&& 63) = 1 then gI (s.2 + 1) L (bd (fx_X11_end_0 s.1 (xs (Int32.toNatClampNeg (s.2 + 1)))) (fun u6 r7 => gI (s.2 + 1) L (bd (fx_X12_end_69 u6 (xs (Int32.toNatClampNeg (s.2 + 1)))) (fun u8 r9 => (if r7 = r9 then fx_L_law_j1144_b18 L xs u8 s.2 else none))))) else if ((xs (Int32.toNatClampNeg s.2)) &&& 63) = 2 then bd (fx_X11_pyramid_0 s.1 ) (fun u10 r11 => bd (fx_X12_pyramid_69 u10 ) (fun u12 r13 => (if r11 = r13 then fx_L_law_j1144_b18 L xs u12 s.2 else none))) else if ((xs (Int32.toNatClampNeg s.2)) &&& 63) = 3 then bd (fx_X11_day_0 s.1 ) (fun u14 r15 => bd (fx_X12_day_69 u14 ) (fun u16 r17 => (if r15 = r17 then fx_L_law_j1144_b18 L xs u16 s.2 else none))) else if ((xs (Int32.toNatClampNeg s.2)) &&& 63) = 4 then gI (s.2 + 1) L ((fx_X11_fault_0 s.1 (xs (Int32.toNatClampNeg (s.2 + 1)))).bind (fun r18 => gI (s.2 + 1) L ((fx_X12_fault_69 s.1 (xs (Int32.toNatClampNeg (s.2 + 1)))).bind (fun r19 => (if r18 = r19 then fx_L_law_j1144_b18 L xs s.1 s.2 else none))))) else if ((xs (Int32.toNatClampNeg s.2)) &&& 63) = 5 then bd (fx_X11_named_0 s.1 ) (fun u20 r21 => bd (fx_X12_named_69 u20 ) (fun u22 r23 => (if r21 = r23 then fx_L_law_j1144_b18 L xs u22 s.2 else none))) else if ((xs (Int32.toNatClampNeg s.2)) &&& 63) = 6 then gI (s.2 + 1) L (bd (fx_X11_resign_0 s.1 (xs (Int32.toNatClampNeg (s.2 + 1)))) (fun u24 r25 => gI (s.2 + 1) L (bd (fx_X12_resign_69 u24 (xs (Int32.toNatClampNeg (s.2 + 1)))) (fun u26 r27 => (if r25 = r27 then fx_L_law_j1144_b18 L xs u26 s.2 else none))))) else if ((xs (Int32.toNatClampNeg s.2)) &&& 63) = 7 then gI (s.2 + 1) L (bd (fx_X11_refuse_0 s.1 (xs (Int32.toNatClampNeg (s.2 + 1)))) (fun u28 r29 => gI (s.2 + 1) L (bd (fx_X12_refuse_69 u28 (xs (Int32.toNatClampNeg (s.2 + 1)))) (fun u30 r31 => (if r29 = r31 then fx_L_law_j1144_b18 L xs u30 s.2 else none))))) else if ((xs (Int32.toNatClampNeg s.2)) &&& 63) = 8 then gI (s.2 + 1) L (gI (s.2 + 2) L (bd (fx_X11_deduct_0 s.1 (xs (Int32.toNatClampNeg (s.2 + 1))) (xs (Int32.toNatClampNeg (s.2 + 2)))) (fun u32 r33 => gI (s.2 + 1) L (gI (s.2 + 2) L (bd (fx_X12_deduct_69 u32 (xs (Int32.toNatClampNeg (s.2 + 1))) (xs (Int32.toNatClampNeg (s.2 + 2)))) (fun u34 r35 => (if r33 = r35 then fx_L_law_j1144_b18 L xs u34 s.2 else none))))))) else if ((xs (Int32.toNatClampNeg s.2)) &&& 63) = 9 then gI (s.2 + 1) L (gI (s.2 + 2) L (bd (fx_X11_grade_0 s.1 (xs (Int32.toNatClampNeg (s.2 + 1))) (xs (Int32.toNatClampNeg (s.2 + 2)))) (fun u36 r37 => gI (s.2 + 1) L (gI (s.2 + 2) L (bd (fx_X12_grade_69 u36 (xs (Int32.toNatClampNeg (s.2 + 1))) (xs (Int32.toNatClampNeg (s.2 + 2)))) (fun u38 r39 => (if r37 = r39 then fx_L_law_j1144_b18 L xs u38 s.2 else none))))))) else if ((xs (Int32.toNatClampNeg s.2)) &&& 63) = 10 then bd (fx_X11_close_0 s.1 ) (fun u40 r41 => bd (fx_X12_close_69 u40 ) (fun u42 r43 => (if r41 = r43 then fx_L_law_j1144_b18 L xs u42 s.2 else none))) else if ((xs (Int32.toNatClampNeg s.2)) &&& 63) = 11 then bd (fx_X11_undo_0 s.1 ) (fun u44 r45 => bd (fx_X12_undo_69 u44 ) (fun u46 r47 => (if r45 = r47 then fx_L_law_j1144_b18 L xs u46 s.2 else none))) else if ((xs (Int32.toNatClampNeg s.2)) &&& 63) = 12 then gI (s.2 + 1) L (gI (s.2 + 2) L ((fx_X11_club_0 s.1 (xs (Int32.toNatClampNeg (s.2 + 1))) (xs (Int32.toNatClampNeg (s.2 + 2)))).bind (fun r48 => gI (s.2 + 1) L (gI (s.2 + 2) L ((fx_X12_club_69 s.1 (xs (Int32.toNatClampNeg (s.2 + 1))) (xs (Int32.toNatClampNeg (s.2 + 2)))).bind (fun r49 => (if r48 = r49 then fx_L_law_j1144_b18 L xs s.1 s.2 else none))))))) else if ((xs (Int32.toNatClampNeg s.2)) &&& 63) = 13 then gI (s.2 + 1) L (gI (s.2 + 2) L (bd (fx_X11_of_0 s.1 (xs (Int32.toNatClampNeg (s.2 + 1))) (xs (Int32.toNatClampNeg (s.2 + 2)))) (fun u50 r51 => gI (s.2 + 1) L (gI (s.2 + 2) L (bd (fx_X12_of_69 u50 (xs (Int32.toNatClampNeg (s.2 + 1))) (xs (Int32.toNatClampNeg (s.2 + 2)))) (fun u52 r53 => (if r51 = r53 then fx_L_law_j1144_b18 L xs u52 s.2 else none))))))) else if ((xs (Int32.toNatClampNeg s.2)) &&& 63) = 14 then gI (s.2 + 1) L ((fx_X11_points_0 s.1 (xs (Int32.toNatClampNeg (s.2 + 1)))).bind (fun r54 => gI (s.2 + 1) L ((fx_X12_points_69 s.1 (xs (Int32.toNatClampNeg (s.2 + 1)))).bind (fun r55 => (if r54 = r55 then fx_L_law_j1144_b18 L xs s.1 s.2 else none))))) else if ((xs (Int32.toNatClampNeg s.2)) &&& 63) = 15 then gI (s.2 + 1) L ((fx_X11_average_0 s.1 (xs (Int32.toNatClampNeg (s.2 + 1)))).bind (fun r56 => gI (s.2 + 1) L ((fx_X12_average_69 s.1 (xs (Int32.toNatClampNeg (s.2 + 1)))).bind (fun r57 => (if r56 = r57 then fx_L_law_j1144_b18 L xs s.1 s.2 else none))))) else if ((xs (Int32.toNatClampNeg s.2)) &&& 63) = 16 then gI (s.2 + 1) L (gI (s.2 + 2) L (gI (s.2 + 3) L (bd (fx_X11_ranked_0 s.1 (xs (Int32.toNatClampNeg (s.2 + 1))) (xs (Int32.toNatClampNeg (s.2 + 2))) (xs (Int32.toNatClampNeg (s.2 + 3)))) (fun u58 r59 => gI (s.2 + 1) L (gI (s.2 + 2) L (gI (s.2 + 3) L (bd (fx_X12_ranked_69 u58 (xs (Int32.toNatClampNeg (s.2 + 1))) (xs (Int32.toNatClampNeg (s.2 + 2))) (xs (Int32.toNatClampNeg (s.2 + 3)))) (fun u60 r61 => (if r59 = r61 then fx_L_law_j1144_b18 L xs u60 s.2 else none))))))))) else if ((xs (Int32.toNatClampNeg s.2)) &&& 63) = 17 then gI (s.2 + 1) L (gI (s.2 + 2) L (bd (fx_X11_order_0 s.1 (xs (Int32.toNatClampNeg (s.2 + 1))) (xs (Int32.toNatClampNeg (s.2 + 2)))) (fun u62 r63 => gI (s.2 + 1) L (gI (s.2 + 2) L (bd (fx_X12_order_69 u62 (xs (Int32.toNatClampNeg (s.2 + 1))) (xs (Int32.toNatClampNeg (s.2 + 2)))) (fun u64 r65 => (if r63 = r65 then fx_L_law_j1144_b18 L xs u64 s.2 else none))))))) else if ((xs (Int32.toNatClampNeg s.2)) &&& 63) = 18 then gI (s.2 + 1) L (gI (s.2 + 2) L (bd (fx_X11_level_0 s.1 (xs (Int32.toNatClampNeg (s.2 + 1))) (xs (Int32.toNatClampNeg (s.2 + 2)))) (fun u66 r67 => gI (s.2 + 1) L (gI (s.2 + 2) L (bd (fx_X12_level_69 u66 (xs (Int32.toNatClampNeg (s.2 + 1))) (xs (Int32.toNatClampNeg (s.2 + 2)))) (fun u68 r69 => (if r67 = r69 then fx_L_law_j1144_b18 L xs u68 s.2 else none))))))) else if ((xs (Int32.toNatClampNeg s.2)) &&& 63) = 19 then gI (s.2 + 1) L (gI (s.2 + 2) L (gI (s.2 + 3) L (bd (fx_X11_moves_0 s.1 (xs (Int32.toNatClampNeg (s.2 + 1))) (xs (Int32.toNatClampNeg (s.2 + 2))) (xs (Int32.toNatClampNeg (s.2 + 3)))) (fun u70 r71 => gI (s.2 + 1) L (gI (s.2 + 2) L (gI (s.2 + 3) L (bd (fx_X12_moves_69 u70 (xs (Int32.toNatClampNeg (s.2 + 1))) (xs (Int32.toNatClampNeg (s.2 + 2))) (xs (Int32.toNatClampNeg (s.2 + 3)))) (fun u72 r73 => (if r71 = r73 then fx_L_law_j1144_b18 L xs u72 s.2 else none))))))))) else if ((xs (Int32.toNatClampNeg s.2)) &&& 63) = 20 then gI (s.2 + 1) L (bd (fx_X11_would_0 s.1 (xs (Int32.toNatClampNeg (s.2 + 1)))) (fun u74 r75 => gI (s.2 + 1) L (bd (fx_X12_would_69 u74 (xs (Int32.toNatClampNeg (s.2 + 1)))) (fun u76 r77 => (if r75 = r77 then fx_L_law_j1144_b18 L xs u76 s.2 else none))))) else if ((xs (Int32.toNatClampNeg s.2)) &&& 63) = 21 then gI (s.2 + 1) L (bd (fx_X11_needs_0 s.1 (xs (Int32.toNatClampNeg (s.2 + 1)))) (fun u78 r79 => gI (s.2 + 1) L (bd (fx_X12_needs_69 u78 (xs (Int32.toNatClampNeg (s.2 + 1)))) (fun u80 r81 => (if r79 = r81 then fx_L_law_j1144_b18 L xs u80 s.2 else none))))) else if ((xs (Int32.toNatClampNeg s.2)) &&& 63) = 22 then gI (s.2 + 1) L (bd (fx_X11_parted_0 s.1 (xs (Int32.toNatClampNeg (s.2 + 1)))) (fun u82 r83 => gI (s.2 + 1) L (bd (fx_X12_parted_69 u82 (xs (Int32.toNatClampNeg (s.2 + 1)))) (fun u84 r85 => (if r83 = r85 then fx_L_law_j1144_b18 L xs u84 s.2 else none))))) else if ((xs (Int32.toNatClampNeg s.2)) &&& 63) = 23 then gI (s.2 + 1) L (gI (s.2 + 2) L (bd (fx_X11_swap_0 s.1 (xs (Int32.toNatClampNeg (s.2 + 1))) (xs (Int32.toNatClampNeg (s.2 + 2)))) (fun u86 r87 => gI (s.2 + 1) L (gI (s.2 + 2) L ((fx_X12_swap_69 u86 (xs (Int32.toNatClampNeg (s.2 + 1))) (xs (Int32.toNatClampNeg (s.2 + 2)))).bind (fun r88 => (if r87 = r88 then fx_L_law_j1144_b18 L xs u86 s.2 else none))))))) else if ((xs (Int32.toNatClampNeg s.2)) &&& 63) = 24 then gI (s.2 + 1) L (bd (fx_X11_middle_0 s.1 (xs (Int32.toNatClampNeg (s.2 + 1)))) (fun u89 r90 => gI (s.2 + 1) L ((fx_X12_middle_69 u89 (xs (Int32.toNatClampNeg (s.2 + 1)))).bind (fun r91 => (if r90 = r91 then fx_L_law_j1144_b18 L xs u89 s.2 else none))))) else if ((xs (Int32.toNatClampNeg s.2)) &&& 63) = 25 then gI (s.2 + 1) L (gI (s.2 + 2) L ((fx_X11_rest_0 s.1 (xs (Int32.toNatClampNeg (s.2 + 1))) (xs (Int32.toNatClampNeg (s.2 + 2)))).bind (fun r92 => gI (s.2 + 1) L (gI (s.2 + 2) L ((fx_X12_rest_69 s.1 (xs (Int32.toNatClampNeg (s.2 + 1))) (xs (Int32.toNatClampNeg (s.2 + 2)))).bind (fun r93 => (if (lg_cmp r92 r93) = 0 then fx_L_law_j1144_b18 L xs s.1 s.2 else none))))))) else if ((xs (Int32.toNatClampNeg s.2)) &&& 63) = 26 then gI (s.2 + 1) L (gI (s.2 + 2) L (gI (s.2 + 3) L ((fx_X11_match_0 s.1 (xs (Int32.toNatClampNeg (s.2 + 1))) (xs (Int32.toNatClampNeg (s.2 + 2))) (xs (Int32.toNatClampNeg (s.2 + 3)))).bind (fun r94 => gI (s.2 + 1) L (gI (s.2 + 2) L (gI (s.2 + 3) L ((fx_X12_match_69 s.1 (xs (Int32.toNatClampNeg (s.2 + 1))) (xs (Int32.toNatClampNeg (s.2 + 2))) (xs (Int32.toNatClampNeg (s.2 + 3)))).bind (fun r95 => (if r94 = r95 then fx_L_law_j1144_b18 L xs s.1 s.2 else none))))))))) else if ((xs (Int32.toNatClampNeg s.2)) &&& 63) = 27 then gI (s.2 + 1) L ((fx_X11_above_0 s.1 (xs (Int32.toNatClampNeg (s.2 + 1)))).bind (fun r96 => gI (s.2 + 1) L ((fx_X12_above_69 s.1 (xs (Int32.toNatClampNeg (s.2 + 1)))).bind (fun r97 => (if r96 = r97 then fx_L_law_j1144_b18 L xs s.1 s.2 else none))))) else if ((xs (Int32.toNatClampNeg s.2)) &&& 63) = 28 then gI (s.2 + 1) L ((fx_X11_journeys_0 s.1 (xs (Int32.toNatClampNeg (s.2 + 1)))).bind (fun r98 => gI (s.2 + 1) L ((fx_X12_journeys_69 s.1 (xs (Int32.toNatClampNeg (s.2 + 1)))).bind (fun r99 => (if r98 = r99 then fx_L_law_j1144_b18 L xs s.1 s.2 else none))))) else if ((xs (Int32.toNatClampNeg s.2)) &&& 63) = 29 then gI (s.2 + 1) L ((fx_X11_nearest_0 s.1 (xs (Int32.toNatClampNeg (s.2 + 1)))).bind (fun r100 => gI (s.2 + 1) L ((fx_X12_nearest_69 s.1 (xs (Int32.toNatClampNeg (s.2 + 1)))).bind (fun r101 => (if r100 = r101 then fx_L_law_j1144_b18 L xs s.1 s.2 else none))))) else if ((xs (Int32.toNatClampNeg s.2)) &&& 63) = 30 then gI (s.2 + 1) L (gI (s.2 + 2) L ((fx_X11_versus_0 s.1 (xs (Int32.toNatClampNeg (s.2 + 1))) (xs (Int32.toNatClampNeg (s.2 + 2)))).bind (fun r102 => gI (s.2 + 1) L (gI (s.2 + 2) L ((fx_X12_versus_69 s.1 (xs (Int32.toNatClampNeg (s.2 + 1))) (xs (Int32.toNatClampNeg (s.2 + 2)))).bind (fun r103 => (if r102 = r103 then fx_L_law_j1144_b18 L xs s.1 s.2 else none))))))) else if ((xs (Int32.toNatClampNeg s.2)) &&& 63) = 31 then gI (s.2 + 1) L (bd (fx_X11_strangers_0 s.1 (xs (Int32.toNatClampNeg (s.2 + 1)))) (fun u104 r105 => gI (s.2 + 1) L ((fx_X12_strangers_69 u104 (xs (Int32.toNatClampNeg (s.2 + 1)))).bind (fun r106 => (if r105 = r106 then fx_L_law_j1144_b18 L xs u104 s.2 else none))))) else if ((xs (Int32.toNatClampNeg s.2)) &&& 63) = 32 then gI (s.2 + 1) L (gI (s.2 + 2) L (bd (fx_X11_show_0 s.1 (xs (Int32.toNatClampNeg (s.2 + 1))) (xs (Int32.toNatClampNeg (s.2 + 2)))) (fun u107 r108 => gI (s.2 + 1) L (gI (s.2 + 2) L (bd (fx_X12_show_69 u107 (xs (Int32.toNatClampNeg (s.2 + 1))) (xs (Int32.toNatClampNeg (s.2 + 2)))) (fun u109 r110 => (if r108 = r110 then fx_L_law_j1144_b18 L xs u109 s.2 else none))))))) else if ((xs (Int32.toNatClampNeg s.2)) &&& 63) = 33 then gI (s.2 + 1) L ((fx_X11_out_0 s.1 (xs (Int32.toNatClampNeg (s.2 + 1)))).bind (fun r111 => gI (s.2 + 1) L ((fx_X12_out_69 s.1 (xs (Int32.toNatClampNeg (s.2 + 1)))).bind (fun r112 => (if r111 = r112 then fx_L_law_j1144_b18 L xs s.1 s.2 else none))))) else if ((xs (Int32.toNatClampNeg s.2)) &&& 63) = 34 then gI (s.2 + 1) L ((fx_X11_look_0 s.1 (xs (Int32.toNatClampNeg (s.2 + 1)))).bind (fun r113 => gI (s.2 + 1) L ((fx_X12_look_69 s.1 (xs (Int32.toNatClampNeg (s.2 + 1)))).bind (fun r114 => (if r113 = r114 then fx_L_law_j1144_b18 L xs s.1 s.2 else none))))) else fx_L_law_j1144_b18 L xs s.1 s.2)))
set_option maxRecDepth 20000 in
theorem t_L_law_l18 {G : llG} {d : Nat} {b L : Nat} {xs : Nat → Int32} (hX : llScr G b L xs)  (s : llMem × Int32) : llJ G RL cL_law 4 (some .boolean) (d + 46) (Sum.elim (fun s' => llJq G 4 18 [(0, .ref b), (1, .ref (llAd G 0)), (2, .ref (llAd G 69)), (3, .int s'.2)] [] s'.1) (fun e => llJq G 4 1150 [] [] e)) 18 [(0, .ref b), (1, .ref (llAd G 0)), (2, .ref (llAd G 69)), (3, .int s.2)] [] s.1 (fx_L_law_l18 L xs s) := by
  unfold fx_L_law_l18
  refine J_iload_n (j := 3) dL_law_18 rfl rfl ?_
  refine J_aload_n (j := 0) dL_law_19 rfl rfl ?_
  refine J_scrlen hX dL_law_20 ?_
  refine J_bipush (v := 6) dL_law_21 (by decide) ?_
  refine J_isub dL_law_23 ?_
  refine J_icmp_gt (tgt := 1150) dL_law_24 (by decide) ?_ ?_
  · exact J_cut [] (lv' := []) rfl (fun h => h)
  · refine J_aload_n (j := 0) dL_law_27 rfl rfl ?_
    refine J_iload_n (j := 3) dL_law_28 rfl rfl ?_
    refine J_scr hX dL_law_29 ?_
    refine J_bipush (v := 63) dL_law_30 (by decide) ?_
    refine J_iand dL_law_32 ?_
    refine J_case (fun hq0 => ?_) (fun hn0 => ?_)
    · refine J_tableIn (tgt := 188) hq0 dL_law_33 (by decide) (by decide) rfl (by decide) ?_
      refine J_aload_n (j := 1) dL_law_188 rfl rfl ?_
      refine J_aload_n (j := 0) dL_law_189 rfl rfl ?_
      refine J_iload_n (j := 3) dL_law_190 rfl rfl ?_
      refine J_iconst (v := 1) dL_law_191 (by decide) ?_
      refine J_iadd dL_law_192 ?_
      refine J_scr hX dL_law_193 ?_
      refine J_aload_n (j := 0) dL_law_194 rfl rfl ?_
      refine J_iload_n (j := 3) dL_law_195 rfl rfl ?_
      refine J_iconst (v := 2) dL_law_196 (by decide) ?_
      refine J_iadd dL_law_197 ?_
      refine J_scr hX dL_law_198 ?_
      refine J_aload_n (j := 0) dL_law_199 rfl rfl ?_
      refine J_iload_n (j := 3) dL_law_200 rfl rfl ?_
      refine J_iconst (v := 3) dL_law_201 (by decide) ?_
      refine J_iadd dL_law_202 ?_
      refine J_scr hX dL_law_203 ?_
      refine J_aload_n (j := 0) dL_law_204 rfl rfl ?_
      refine J_iload_n (j := 3) dL_law_205 rfl rfl ?_
      refine J_iconst (v := 4) dL_law_206 (by decide) ?_
      refine J_iadd dL_law_207 ?_
      refine J_scr hX dL_law_208 ?_
      refine J_aload_n (j := 0) dL_law_209 rfl rfl ?_
      refine J_iload_n (j := 3) dL_law_210 rfl rfl ?_
      refine J_iconst (v := 5) dL_law_211 (by decide) ?_
      refine J_iadd dL_law_212 ?_
      refine J_scr hX dL_law_213 ?_
      refine J_callVi5 dL_law_214 (t_X11_feed_0 (llL G) (llFx G) (d + 44) s.1 (xs (Int32.toNatClampNeg (s.2 + 1))) (xs (Int32.toNatClampNeg (s.2 + 2))) (xs (Int32.toNatClampNeg (s.2 + 3))) (xs (Int32.toNatClampNeg (s.2 + 4))) (xs (Int32.toNatClampNeg (s.2 + 5)))) ym_X11_feed wd_491 sh_0 rfl (Nat.le_of_ble_eq_true rfl) (fun u1 r2 => ?_)
      refine J_aload_n (j := 2) dL_law_217 rfl rfl ?_
      refine J_aload_n (j := 0) dL_law_218 rfl rfl ?_
      refine J_iload_n (j := 3) dL_law_219 rfl rfl ?_
      refine J_iconst (v := 1) dL_law_220 (by decide) ?_
      refine J_iadd dL_law_221 ?_
      refine J_scr hX dL_law_222 ?_
      refine J_aload_n (j := 0) dL_law_223 rfl rfl ?_
      refine J_iload_n (j := 3) dL_law_224 rfl rfl ?_
      refine J_iconst (v := 2) dL_law_225 (by decide) ?_
      refine J_iadd dL_law_226 ?_
      refine J_scr hX dL_law_227 ?_
      refine J_aload_n (j := 0) dL_law_228 rfl rfl ?_
      refine J_iload_n (j := 3) dL_law_229 rfl rfl ?_
      refine J_iconst (v := 3) dL_law_230 (by decide) ?_
      refine J_iadd dL_law_231 ?_
      refine J_scr hX dL_law_232 ?_
      refine J_aload_n (j := 0) dL_law_233 rfl rfl ?_
      refine J_iload_n (j := 3) dL_law_234 rfl rfl ?_
      refine J_iconst (v := 4) dL_law_235 (by decide) ?_
      refine J_iadd dL_law_236 ?_
      refine J_scr hX dL_law_237 ?_
      refine J_aload_n (j := 0) dL_law_238 rfl rfl ?_
      refine J_iload_n (j := 3) dL_law_239 rfl rfl ?_
      refine J_iconst (v := 5) dL_law_240 (by decide) ?_
      refine J_iadd dL_law_241 ?_
      refine J_scr hX dL_law_242 ?_
      refine J_callVi5 dL_law_243 (t_X12_feed_69 (llL G) (llFx G) (d + 44) u1 (xs (Int32.toNatClampNeg (s.2 + 1))) (xs (Int32.toNatClampNeg (s.2 + 2))) (xs (Int32.toNatClampNeg (s.2 + 3))) (xs (Int32.toNatClampNeg (s.2 + 4))) (xs (Int32.toNatClampNeg (s.2 + 5)))) ym_X12_feed wd_1301 sh_69 rfl (Nat.le_of_ble_eq_true rfl) (fun u3 r4 => ?_)
      refine J_icmp_eq (tgt := 1144) dL_law_246 (by decide) ?_ ?_
      · refine J_sub [0, 1, 2, 3] (lv' := [(0, .ref b), (1, .ref (llAd G 0)), (2, .ref (llAd G 69)), (3, .int s.2)]) rfl ?_
        exact t_L_law_j1144_b18 hX u3 s.2
      · refine J_iconst (v := 0) dL_law_249 (by decide) ?_
        exact J_none
    refine J_case (fun hq1 => ?_) (fun hn1 => ?_)
    · refine J_tableIn (tgt := 251) hq1 dL_law_33 (by decide) (by decide) rfl (by decide) ?_
      refine J_aload_n (j := 1) dL_law_251 rfl rfl ?_
      refine J_aload_n (j := 0) dL_law_252 rfl rfl ?_
      refine J_iload_n (j := 3) dL_law_253 rfl rfl ?_
      refine J_iconst (v := 1) dL_law_254 (by decide) ?_
      refine J_iadd dL_law_255 ?_
      refine J_scr hX dL_law_256 ?_
      refine J_callVi1 dL_law_257 (t_X11_end_0 (llL G) (llFx G) (d + 45) s.1 (xs (Int32.toNatClampNeg (s.2 + 1)))) ym_X11_end wd_499 sh_0 rfl (Nat.le_of_ble_eq_true rfl) (fun u6 r7 => ?_)
      refine J_aload_n (j := 2) dL_law_260 rfl rfl ?_
      refine J_aload_n (j := 0) dL_law_261 rfl rfl ?_
      refine J_iload_n (j := 3) dL_law_262 rfl rfl ?_
      refine J_iconst (v := 1) dL_law_263 (by decide) ?_
      refine J_iadd dL_law_264 ?_
      refine J_scr hX dL_law_265 ?_
      refine J_callVi1 dL_law_266 (t_X12_end_69 (llL G) (llFx G) (d + 44) u6 (xs (Int32.toNatClampNeg (s.2 + 1)))) ym_X12_end wd_1309 sh_69 rfl (Nat.le_of_ble_eq_true rfl) (fun u8 r9 => ?_)
      refine J_icmp_eq (tgt := 1144) dL_law_269 (by decide) ?_ ?_
      · refine J_sub [0, 1, 2, 3] (lv' := [(0, .ref b), (1, .ref (llAd G 0)), (2, .ref (llAd G 69)), (3, .int s.2)]) rfl ?_
        exact t_L_law_j1144_b18 hX u8 s.2
      · refine J_iconst (v := 0) dL_law_272 (by decide) ?_
        exact J_none
    refine J_case (fun hq2 => ?_) (fun hn2 => ?_)
    · refine J_tableIn (tgt := 274) hq2 dL_law_33 (by decide) (by decide) rfl (by decide) ?_
      refine J_aload_n (j := 1) dL_law_274 rfl rfl ?_
      refine J_callVi0 dL_law_275 (t_X11_pyramid_0 (llL G) (llFx G) (d + 39) s.1 ) ym_X11_pyramid wd_503 sh_0 rfl (Nat.le_of_ble_eq_true rfl) (fun u10 r11 => ?_)
      refine J_aload_n (j := 2) dL_law_278 rfl rfl ?_
      refine J_callVi0 dL_law_279 (t_X12_pyramid_69 (llL G) (llFx G) (d + 34) u10 ) ym_X12_pyramid wd_1316 sh_69 rfl (Nat.le_of_ble_eq_true rfl) (fun u12 r13 => ?_)
      refine J_icmp_eq (tgt := 1144) dL_law_282 (by decide) ?_ ?_
      · refine J_sub [0, 1, 2, 3] (lv' := [(0, .ref b), (1, .ref (llAd G 0)), (2, .ref (llAd G 69)), (3, .int s.2)]) rfl ?_
        exact t_L_law_j1144_b18 hX u12 s.2
      · refine J_iconst (v := 0) dL_law_285 (by decide) ?_
        exact J_none
    refine J_case (fun hq3 => ?_) (fun hn3 => ?_)
    · refine J_tableIn (tgt := 287) hq3 dL_law_33 (by decide) (by decide) rfl (by decide) ?_
      refine J_aload_n (j := 1) dL_law_287 rfl rfl ?_
      refine J_callVi0 dL_law_288 (t_X11_day_0 (llL G) (llFx G) (d + 40) s.1 ) ym_X11_day wd_660 sh_0 rfl (Nat.le_of_ble_eq_true rfl) (fun u14 r15 => ?_)
      refine J_aload_n (j := 2) dL_law_291 rfl rfl ?_
      refine J_callVi0 dL_law_292 (t_X12_day_69 (llL G) (llFx G) (d + 35) u14 ) ym_X12_day wd_1455 sh_69 rfl (Nat.le_of_ble_eq_true rfl) (fun u16 r17 => ?_)
      refine J_icmp_eq (tgt := 1144) dL_law_295 (by decide) ?_ ?_
      · refine J_sub [0, 1, 2, 3] (lv' := [(0, .ref b), (1, .ref (llAd G 0)), (2, .ref (llAd G 69)), (3, .int s.2)]) rfl ?_
        exact t_L_law_j1144_b18 hX u16 s.2
      · refine J_iconst (v := 0) dL_law_298 (by decide) ?_
        exact J_none
    refine J_case (fun hq4 => ?_) (fun hn4 => ?_)
    · refine J_tableIn (tgt := 300) hq4 dL_law_33 (by decide) (by decide) rfl (by decide) ?_
      refine J_aload_n (j := 1) dL_law_300 rfl rfl ?_
      refine J_aload_n (j := 0) dL_law_301 rfl rfl ?_
      refine J_iload_n (j := 3) dL_law_302 rfl rfl ?_
      refine J_iconst (v := 1) dL_law_303 (by decide) ?_
      refine J_iadd dL_law_304 ?_
      refine J_scr hX dL_law_305 ?_
      refine J_callVip1 dL_law_306 (t_X11_fault_0 (llL G) (llFx G) (d + 45) s.1 (xs (Int32.toNatClampNeg (s.2 + 1)))) ym_X11_fault wd_707 sh_0 rfl (Nat.le_of_ble_eq_true rfl) (fun r18 => ?_)
      refine J_aload_n (j := 2) dL_law_309 rfl rfl ?_
      refine J_aload_n (j := 0) dL_law_310 rfl rfl ?_
      refine J_iload_n (j := 3) dL_law_311 rfl rfl ?_
      refine J_iconst (v := 1) dL_law_312 (by decide) ?_
      refine J_iadd dL_law_313 ?_
      refine J_scr hX dL_law_314 ?_
      refine J_callVip1 dL_law_315 (t_X12_fault_69 (llL G) (llFx G) (d + 45) s.1 (xs (Int32.toNatClampNeg (s.2 + 1)))) ym_X12_fault wd_1479 sh_69 rfl (Nat.le_of_ble_eq_true rfl) (fun r19 => ?_)
      refine J_icmp_eq (tgt := 1144) dL_law_318 (by decide) ?_ ?_
      · refine J_sub [0, 1, 2, 3] (lv' := [(0, .ref b), (1, .ref (llAd G 0)), (2, .ref (llAd G 69)), (3, .int s.2)]) rfl ?_
        exact t_L_law_j1144_b18 hX s.1 s.2
      · refine J_iconst (v := 0) dL_law_321 (by decide) ?_
        exact J_none
    refine J_case (fun hq5 => ?_) (fun hn5 => ?_)
    · refine J_tableIn (tgt := 323) hq5 dL_law_33 (by decide) (by decide) rfl (by decide) ?_
      refine J_aload_n (j := 1) dL_law_323 rfl rfl ?_
      refine J_callVi0 dL_law_324 (t_X11_named_0 (llL G) (llFx G) (d + 43) s.1 ) ym_X11_named wd_711 sh_0 rfl (Nat.le_of_ble_eq_true rfl) (fun u20 r21 => ?_)
      refine J_aload_n (j := 2) dL_law_327 rfl rfl ?_
      refine J_callVi0 dL_law_328 (t_X12_named_69 (llL G) (llFx G) (d + 36) u20 ) ym_X12_named wd_1483 sh_69 rfl (Nat.le_of_ble_eq_true rfl) (fun u22 r23 => ?_)
      refine J_icmp_eq (tgt := 1144) dL_law_331 (by decide) ?_ ?_
      · refine J_sub [0, 1, 2, 3] (lv' := [(0, .ref b), (1, .ref (llAd G 0)), (2, .ref (llAd G 69)), (3, .int s.2)]) rfl ?_
        exact t_L_law_j1144_b18 hX u22 s.2
      · refine J_iconst (v := 0) dL_law_334 (by decide) ?_
        exact J_none
    refine J_case (fun hq6 => ?_) (fun hn6 => ?_)
    · refine J_tableIn (tgt := 336) hq6 dL_law_33 (by decide) (by decide) rfl (by decide) ?_
      refine J_aload_n (j := 1) dL_law_336 rfl rfl ?_
      refine J_aload_n (j := 0) dL_law_337 rfl rfl ?_
      refine J_iload_n (j := 3) dL_law_338 rfl rfl ?_
      refine J_iconst (v := 1) dL_law_339 (by decide) ?_
      refine J_iadd dL_law_340 ?_
      refine J_scr hX dL_law_341 ?_
      refine J_callVi1 dL_law_342 (t_X11_resign_0 (llL G) (llFx G) (d + 43) s.1 (xs (Int32.toNatClampNeg (s.2 + 1)))) ym_X11_resign wd_721 sh_0 rfl (Nat.le_of_ble_eq_true rfl) (fun u24 r25 => ?_)
      refine J_aload_n (j := 2) dL_law_345 rfl rfl ?_
      refine J_aload_n (j := 0) dL_law_346 rfl rfl ?_
      refine J_iload_n (j := 3) dL_law_347 rfl rfl ?_
      refine J_iconst (v := 1) dL_law_348 (by decide) ?_
      refine J_iadd dL_law_349 ?_
      refine J_scr hX dL_law_350 ?_
      refine J_callVi1 dL_law_351 (t_X12_resign_69 (llL G) (llFx G) (d + 42) u24 (xs (Int32.toNatClampNeg (s.2 + 1)))) ym_X12_resign wd_1487 sh_69 rfl (Nat.le_of_ble_eq_true rfl) (fun u26 r27 => ?_)
      refine J_icmp_eq (tgt := 1144) dL_law_354 (by decide) ?_ ?_
      · refine J_sub [0, 1, 2, 3] (lv' := [(0, .ref b), (1, .ref (llAd G 0)), (2, .ref (llAd G 69)), (3, .int s.2)]) rfl ?_
        exact t_L_law_j1144_b18 hX u26 s.2
      · refine J_iconst (v := 0) dL_law_357 (by decide) ?_
        exact J_none
    refine J_case (fun hq7 => ?_) (fun hn7 => ?_)
    · refine J_tableIn (tgt := 359) hq7 dL_law_33 (by decide) (by decide) rfl (by decide) ?_
      refine J_aload_n (j := 1) dL_law_359 rfl rfl ?_
      refine J_aload_n (j := 0) dL_law_360 rfl rfl ?_
      refine J_iload_n (j := 3) dL_law_361 rfl rfl ?_
      refine J_iconst (v := 1) dL_law_362 (by decide) ?_
      refine J_iadd dL_law_363 ?_
      refine J_scr hX dL_law_364 ?_
      refine J_callVi1 dL_law_365 (t_X11_refuse_0 (llL G) (llFx G) (d + 43) s.1 (xs (Int32.toNatClampNeg (s.2 + 1)))) ym_X11_refuse wd_726 sh_0 rfl (Nat.le_of_ble_eq_true rfl) (fun u28 r29 => ?_)
      refine J_aload_n (j := 2) dL_law_368 rfl rfl ?_
      refine J_aload_n (j := 0) dL_law_369 rfl rfl ?_
      refine J_iload_n (j := 3) dL_law_370 rfl rfl ?_
      refine J_iconst (v := 1) dL_law_371 (by decide) ?_
      refine J_iadd dL_law_372 ?_
      refine J_scr hX dL_law_373 ?_
      refine J_callVi1 dL_law_374 (t_X12_refuse_69 (llL G) (llFx G) (d + 42) u28 (xs (Int32.toNatClampNeg (s.2 + 1)))) ym_X12_refuse wd_1491 sh_69 rfl (Nat.le_of_ble_eq_true rfl) (fun u30 r31 => ?_)
      refine J_icmp_eq (tgt := 1144) dL_law_377 (by decide) ?_ ?_
      · refine J_sub [0, 1, 2, 3] (lv' := [(0, .ref b), (1, .ref (llAd G 0)), (2, .ref (llAd G 69)), (3, .int s.2)]) rfl ?_
        exact t_L_law_j1144_b18 hX u30 s.2
      · refine J_iconst (v := 0) dL_law_380 (by decide) ?_
        exact J_none
    refine J_case (fun hq8 => ?_) (fun hn8 => ?_)
    · refine J_tableIn (tgt := 382) hq8 dL_law_33 (by decide) (by decide) rfl (by decide) ?_
      refine J_aload_n (j := 1) dL_law_382 rfl rfl ?_
      refine J_aload_n (j := 0) dL_law_383 rfl rfl ?_
      refine J_iload_n (j := 3) dL_law_384 rfl rfl ?_
      refine J_iconst (v := 1) dL_law_385 (by decide) ?_
      refine J_iadd dL_law_386 ?_
      refine J_scr hX dL_law_387 ?_
      refine J_aload_n (j := 0) dL_law_388 rfl rfl ?_
      refine J_iload_n (j := 3) dL_law_389 rfl rfl ?_
      refine J_iconst (v := 2) dL_law_390 (by decide) ?_
      refine J_iadd dL_law_391 ?_
      refine J_scr hX dL_law_392 ?_
      refine J_callVi2 dL_law_393 (t_X11_deduct_0 (llL G) (llFx G) (d + 43) s.1 (xs (Int32.toNatClampNeg (s.2 + 1))) (xs (Int32.toNatClampNeg (s.2 + 2)))) ym_X11_deduct wd_730 sh_0 rfl (Nat.le_of_ble_eq_true rfl) (fun u32 r33 => ?_)
      refine J_aload_n (j := 2) dL_law_396 rfl rfl ?_
      refine J_aload_n (j := 0) dL_law_397 rfl rfl ?_
      refine J_iload_n (j := 3) dL_law_398 rfl rfl ?_
      refine J_iconst (v := 1) dL_law_399 (by decide) ?_
      refine J_iadd dL_law_400 ?_
      refine J_scr hX dL_law_401 ?_
      refine J_aload_n (j := 0) dL_law_402 rfl rfl ?_
      refine J_iload_n (j := 3) dL_law_403 rfl rfl ?_
      refine J_iconst (v := 2) dL_law_404 (by decide) ?_
      refine J_iadd dL_law_405 ?_
      refine J_scr hX dL_law_406 ?_
      refine J_callVi2 dL_law_407 (t_X12_deduct_69 (llL G) (llFx G) (d + 42) u32 (xs (Int32.toNatClampNeg (s.2 + 1))) (xs (Int32.toNatClampNeg (s.2 + 2)))) ym_X12_deduct wd_1495 sh_69 rfl (Nat.le_of_ble_eq_true rfl) (fun u34 r35 => ?_)
      refine J_icmp_eq (tgt := 1144) dL_law_410 (by decide) ?_ ?_
      · refine J_sub [0, 1, 2, 3] (lv' := [(0, .ref b), (1, .ref (llAd G 0)), (2, .ref (llAd G 69)), (3, .int s.2)]) rfl ?_
        exact t_L_law_j1144_b18 hX u34 s.2
      · refine J_iconst (v := 0) dL_law_413 (by decide) ?_
        exact J_none
    refine J_case (fun hq9 => ?_) (fun hn9 => ?_)
    · refine J_tableIn (tgt := 415) hq9 dL_law_33 (by decide) (by decide) rfl (by decide) ?_
      refine J_aload_n (j := 1) dL_law_415 rfl rfl ?_
      refine J_aload_n (j := 0) dL_law_416 rfl rfl ?_
      refine J_iload_n (j := 3) dL_law_417 rfl rfl ?_
      refine J_iconst (v := 1) dL_law_418 (by decide) ?_
      refine J_iadd dL_law_419 ?_
      refine J_scr hX dL_law_420 ?_
      refine J_aload_n (j := 0) dL_law_421 rfl rfl ?_
      refine J_iload_n (j := 3) dL_law_422 rfl rfl ?_
      refine J_iconst (v := 2) dL_law_423 (by decide) ?_
      refine J_iadd dL_law_424 ?_
      refine J_scr hX dL_law_425 ?_
      refine J_callVi2 dL_law_426 (t_X11_grade_0 (llL G) (llFx G) (d + 44) s.1 (xs (Int32.toNatClampNeg (s.2 + 1))) (xs (Int32.toNatClampNeg (s.2 + 2)))) ym_X11_grade wd_734 sh_0 rfl (Nat.le_of_ble_eq_true rfl) (fun u36 r37 => ?_)
      refine J_aload_n (j := 2) dL_law_429 rfl rfl ?_
      refine J_aload_n (j := 0) dL_law_430 rfl rfl ?_
      refine J_iload_n (j := 3) dL_law_431 rfl rfl ?_
      refine J_iconst (v := 1) dL_law_432 (by decide) ?_
      refine J_iadd dL_law_433 ?_
      refine J_scr hX dL_law_434 ?_
      refine J_aload_n (j := 0) dL_law_435 rfl rfl ?_
      refine J_iload_n (j := 3) dL_law_436 rfl rfl ?_
      refine J_iconst (v := 2) dL_law_437 (by decide) ?_
      refine J_iadd dL_law_438 ?_
      refine J_scr hX dL_law_439 ?_
      refine J_callVi2 dL_law_440 (t_X12_grade_69 (llL G) (llFx G) (d + 43) u36 (xs (Int32.toNatClampNeg (s.2 + 1))) (xs (Int32.toNatClampNeg (s.2 + 2)))) ym_X12_grade wd_1500 sh_69 rfl (Nat.le_of_ble_eq_true rfl) (fun u38 r39 => ?_)
      refine J_icmp_eq (tgt := 1144) dL_law_443 (by decide) ?_ ?_
      · refine J_sub [0, 1, 2, 3] (lv' := [(0, .ref b), (1, .ref (llAd G 0)), (2, .ref (llAd G 69)), (3, .int s.2)]) rfl ?_
        exact t_L_law_j1144_b18 hX u38 s.2
      · refine J_iconst (v := 0) dL_law_446 (by decide) ?_
        exact J_none
    refine J_case (fun hq10 => ?_) (fun hn10 => ?_)
    · refine J_tableIn (tgt := 448) hq10 dL_law_33 (by decide) (by decide) rfl (by decide) ?_
      refine J_aload_n (j := 1) dL_law_448 rfl rfl ?_
      refine J_callVi0 dL_law_449 (t_X11_close_0 (llL G) (llFx G) d s.1 ) ym_X11_close wd_739 sh_0 rfl (Nat.le_of_ble_eq_true rfl) (fun u40 r41 => ?_)
      refine J_aload_n (j := 2) dL_law_452 rfl rfl ?_
      refine J_callVi0 dL_law_453 (t_X12_close_69 (llL G) (llFx G) (d + 3) u40 ) ym_X12_close wd_1505 sh_69 rfl (Nat.le_of_ble_eq_true rfl) (fun u42 r43 => ?_)
      refine J_icmp_eq (tgt := 1144) dL_law_456 (by decide) ?_ ?_
      · refine J_sub [0, 1, 2, 3] (lv' := [(0, .ref b), (1, .ref (llAd G 0)), (2, .ref (llAd G 69)), (3, .int s.2)]) rfl ?_
        exact t_L_law_j1144_b18 hX u42 s.2
      · refine J_iconst (v := 0) dL_law_459 (by decide) ?_
        exact J_none
    refine J_case (fun hq11 => ?_) (fun hn11 => ?_)
    · refine J_tableIn (tgt := 461) hq11 dL_law_33 (by decide) (by decide) rfl (by decide) ?_
      refine J_aload_n (j := 1) dL_law_461 rfl rfl ?_
      refine J_callVi0 dL_law_462 (t_X11_undo_0 (llL G) (llFx G) (d + 41) s.1 ) ym_X11_undo wd_885 sh_0 rfl (Nat.le_of_ble_eq_true rfl) (fun u44 r45 => ?_)
      refine J_aload_n (j := 2) dL_law_465 rfl rfl ?_
      refine J_callVi0 dL_law_466 (t_X12_undo_69 (llL G) (llFx G) (d + 45) u44 ) ym_X12_undo wd_1297 sh_69 rfl (Nat.le_of_ble_eq_true rfl) (fun u46 r47 => ?_)
      refine J_icmp_eq (tgt := 1144) dL_law_469 (by decide) ?_ ?_
      · refine J_sub [0, 1, 2, 3] (lv' := [(0, .ref b), (1, .ref (llAd G 0)), (2, .ref (llAd G 69)), (3, .int s.2)]) rfl ?_
        exact t_L_law_j1144_b18 hX u46 s.2
      · refine J_iconst (v := 0) dL_law_472 (by decide) ?_
        exact J_none
    refine J_case (fun hq12 => ?_) (fun hn12 => ?_)
    · refine J_tableIn (tgt := 474) hq12 dL_law_33 (by decide) (by decide) rfl (by decide) ?_
      refine J_aload_n (j := 1) dL_law_474 rfl rfl ?_
      refine J_aload_n (j := 0) dL_law_475 rfl rfl ?_
      refine J_iload_n (j := 3) dL_law_476 rfl rfl ?_
      refine J_iconst (v := 1) dL_law_477 (by decide) ?_
      refine J_iadd dL_law_478 ?_
      refine J_scr hX dL_law_479 ?_
      refine J_aload_n (j := 0) dL_law_480 rfl rfl ?_
      refine J_iload_n (j := 3) dL_law_481 rfl rfl ?_
      refine J_iconst (v := 2) dL_law_482 (by decide) ?_
      refine J_iadd dL_law_483 ?_
      refine J_scr hX dL_law_484 ?_
      refine J_callVip2 dL_law_485 (t_X11_club_0 (llL G) (llFx G) (d + 44) s.1 (xs (Int32.toNatClampNeg (s.2 + 1))) (xs (Int32.toNatClampNeg (s.2 + 2)))) ym_X11_club wd_899 sh_0 rfl (Nat.le_of_ble_eq_true rfl) (fun r48 => ?_)
      refine J_aload_n (j := 2) dL_law_488 rfl rfl ?_
      refine J_aload_n (j := 0) dL_law_489 rfl rfl ?_
      refine J_iload_n (j := 3) dL_law_490 rfl rfl ?_
      refine J_iconst (v := 1) dL_law_491 (by decide) ?_
      refine J_iadd dL_law_492 ?_
      refine J_scr hX dL_law_493 ?_
      refine J_aload_n (j := 0) dL_law_494 rfl rfl ?_
      refine J_iload_n (j := 3) dL_law_495 rfl rfl ?_
      refine J_iconst (v := 2) dL_law_496 (by decide) ?_
      refine J_iadd dL_law_497 ?_
      refine J_scr hX dL_law_498 ?_
      refine J_callVip2 dL_law_499 (t_X12_club_69 (llL G) (llFx G) (d + 43) s.1 (xs (Int32.toNatClampNeg (s.2 + 1))) (xs (Int32.toNatClampNeg (s.2 + 2)))) ym_X12_club wd_1585 sh_69 rfl (Nat.le_of_ble_eq_true rfl) (fun r49 => ?_)
      refine J_icmp_eq (tgt := 1144) dL_law_502 (by decide) ?_ ?_
      · refine J_sub [0, 1, 2, 3] (lv' := [(0, .ref b), (1, .ref (llAd G 0)), (2, .ref (llAd G 69)), (3, .int s.2)]) rfl ?_
        exact t_L_law_j1144_b18 hX s.1 s.2
      · refine J_iconst (v := 0) dL_law_505 (by decide) ?_
        exact J_none
    refine J_case (fun hq13 => ?_) (fun hn13 => ?_)
    · refine J_tableIn (tgt := 507) hq13 dL_law_33 (by decide) (by decide) rfl (by decide) ?_
      refine J_aload_n (j := 1) dL_law_507 rfl rfl ?_
      refine J_aload_n (j := 0) dL_law_508 rfl rfl ?_
      refine J_iload_n (j := 3) dL_law_509 rfl rfl ?_
      refine J_iconst (v := 1) dL_law_510 (by decide) ?_
      refine J_iadd dL_law_511 ?_
      refine J_scr hX dL_law_512 ?_
      refine J_aload_n (j := 0) dL_law_513 rfl rfl ?_
      refine J_iload_n (j := 3) dL_law_514 rfl rfl ?_
      refine J_iconst (v := 2) dL_law_515 (by decide) ?_
      refine J_iadd dL_law_516 ?_
      refine J_scr hX dL_law_517 ?_
      refine J_callVi2 dL_law_518 (t_X11_of_0 (llL G) (llFx G) (d + 41) s.1 (xs (Int32.toNatClampNeg (s.2 + 1))) (xs (Int32.toNatClampNeg (s.2 + 2)))) ym_X11_of wd_903 sh_0 rfl (Nat.le_of_ble_eq_true rfl) (fun u50 r51 => ?_)
      refine J_aload_n (j := 2) dL_law_521 rfl rfl ?_
      refine J_aload_n (j := 0) dL_law_522 rfl rfl ?_
      refine J_iload_n (j := 3) dL_law_523 rfl rfl ?_
      refine J_iconst (v := 1) dL_law_524 (by decide) ?_
      refine J_iadd dL_law_525 ?_
      refine J_scr hX dL_law_526 ?_
      refine J_aload_n (j := 0) dL_law_527 rfl rfl ?_
      refine J_iload_n (j := 3) dL_law_528 rfl rfl ?_
      refine J_iconst (v := 2) dL_law_529 (by decide) ?_
      refine J_iadd dL_law_530 ?_
      refine J_scr hX dL_law_531 ?_
      refine J_callVi2 dL_law_532 (t_X12_of_69 (llL G) (llFx G) (d + 38) u50 (xs (Int32.toNatClampNeg (s.2 + 1))) (xs (Int32.toNatClampNeg (s.2 + 2)))) ym_X12_of wd_1589 sh_69 rfl (Nat.le_of_ble_eq_true rfl) (fun u52 r53 => ?_)
      refine J_icmp_eq (tgt := 1144) dL_law_535 (by decide) ?_ ?_
      · refine J_sub [0, 1, 2, 3] (lv' := [(0, .ref b), (1, .ref (llAd G 0)), (2, .ref (llAd G 69)), (3, .int s.2)]) rfl ?_
        exact t_L_law_j1144_b18 hX u52 s.2
      · refine J_iconst (v := 0) dL_law_538 (by decide) ?_
        exact J_none
    refine J_case (fun hq14 => ?_) (fun hn14 => ?_)
    · refine J_tableIn (tgt := 540) hq14 dL_law_33 (by decide) (by decide) rfl (by decide) ?_
      refine J_aload_n (j := 1) dL_law_540 rfl rfl ?_
      refine J_aload_n (j := 0) dL_law_541 rfl rfl ?_
      refine J_iload_n (j := 3) dL_law_542 rfl rfl ?_
      refine J_iconst (v := 1) dL_law_543 (by decide) ?_
      refine J_iadd dL_law_544 ?_
      refine J_scr hX dL_law_545 ?_
      refine J_callVip1 dL_law_546 (t_X11_points_0 (llL G) (llFx G) (d + 43) s.1 (xs (Int32.toNatClampNeg (s.2 + 1)))) ym_X11_points wd_918 sh_0 rfl (Nat.le_of_ble_eq_true rfl) (fun r54 => ?_)
      refine J_aload_n (j := 2) dL_law_549 rfl rfl ?_
      refine J_aload_n (j := 0) dL_law_550 rfl rfl ?_
      refine J_iload_n (j := 3) dL_law_551 rfl rfl ?_
      refine J_iconst (v := 1) dL_law_552 (by decide) ?_
      refine J_iadd dL_law_553 ?_
      refine J_scr hX dL_law_554 ?_
      refine J_callVip1 dL_law_555 (t_X12_points_69 (llL G) (llFx G) (d + 41) s.1 (xs (Int32.toNatClampNeg (s.2 + 1)))) ym_X12_points wd_1598 sh_69 rfl (Nat.le_of_ble_eq_true rfl) (fun r55 => ?_)
      refine J_icmp_eq (tgt := 1144) dL_law_558 (by decide) ?_ ?_
      · refine J_sub [0, 1, 2, 3] (lv' := [(0, .ref b), (1, .ref (llAd G 0)), (2, .ref (llAd G 69)), (3, .int s.2)]) rfl ?_
        exact t_L_law_j1144_b18 hX s.1 s.2
      · refine J_iconst (v := 0) dL_law_561 (by decide) ?_
        exact J_none
    refine J_case (fun hq15 => ?_) (fun hn15 => ?_)
    · refine J_tableIn (tgt := 563) hq15 dL_law_33 (by decide) (by decide) rfl (by decide) ?_
      refine J_aload_n (j := 1) dL_law_563 rfl rfl ?_
      refine J_aload_n (j := 0) dL_law_564 rfl rfl ?_
      refine J_iload_n (j := 3) dL_law_565 rfl rfl ?_
      refine J_iconst (v := 1) dL_law_566 (by decide) ?_
      refine J_iadd dL_law_567 ?_
      refine J_scr hX dL_law_568 ?_
      refine J_callVip1 dL_law_569 (t_X11_average_0 (llL G) (llFx G) (d + 43) s.1 (xs (Int32.toNatClampNeg (s.2 + 1)))) ym_X11_average wd_924 sh_0 rfl (Nat.le_of_ble_eq_true rfl) (fun r56 => ?_)
      refine J_aload_n (j := 2) dL_law_572 rfl rfl ?_
      refine J_aload_n (j := 0) dL_law_573 rfl rfl ?_
      refine J_iload_n (j := 3) dL_law_574 rfl rfl ?_
      refine J_iconst (v := 1) dL_law_575 (by decide) ?_
      refine J_iadd dL_law_576 ?_
      refine J_scr hX dL_law_577 ?_
      refine J_callVip1 dL_law_578 (t_X12_average_69 (llL G) (llFx G) (d + 40) s.1 (xs (Int32.toNatClampNeg (s.2 + 1)))) ym_X12_average wd_1603 sh_69 rfl (Nat.le_of_ble_eq_true rfl) (fun r57 => ?_)
      refine J_icmp_eq (tgt := 1144) dL_law_581 (by decide) ?_ ?_
      · refine J_sub [0, 1, 2, 3] (lv' := [(0, .ref b), (1, .ref (llAd G 0)), (2, .ref (llAd G 69)), (3, .int s.2)]) rfl ?_
        exact t_L_law_j1144_b18 hX s.1 s.2
      · refine J_iconst (v := 0) dL_law_584 (by decide) ?_
        exact J_none
    refine J_case (fun hq16 => ?_) (fun hn16 => ?_)
    · refine J_tableIn (tgt := 586) hq16 dL_law_33 (by decide) (by decide) rfl (by decide) ?_
      refine J_aload_n (j := 1) dL_law_586 rfl rfl ?_
      refine J_aload_n (j := 0) dL_law_587 rfl rfl ?_
      refine J_iload_n (j := 3) dL_law_588 rfl rfl ?_
      refine J_iconst (v := 1) dL_law_589 (by decide) ?_
      refine J_iadd dL_law_590 ?_
      refine J_scr hX dL_law_591 ?_
      refine J_aload_n (j := 0) dL_law_592 rfl rfl ?_
      refine J_iload_n (j := 3) dL_law_593 rfl rfl ?_
      refine J_iconst (v := 2) dL_law_594 (by decide) ?_
      refine J_iadd dL_law_595 ?_
      refine J_scr hX dL_law_596 ?_
      refine J_aload_n (j := 0) dL_law_597 rfl rfl ?_
      refine J_iload_n (j := 3) dL_law_598 rfl rfl ?_
      refine J_iconst (v := 3) dL_law_599 (by decide) ?_
      refine J_iadd dL_law_600 ?_
      refine J_scr hX dL_law_601 ?_
      refine J_callVi3 dL_law_602 (t_X11_ranked_0 (llL G) (llFx G) (d + 41) s.1 (xs (Int32.toNatClampNeg (s.2 + 1))) (xs (Int32.toNatClampNeg (s.2 + 2))) (xs (Int32.toNatClampNeg (s.2 + 3)))) ym_X11_ranked wd_940 sh_0 rfl (Nat.le_of_ble_eq_true rfl) (fun u58 r59 => ?_)
      refine J_aload_n (j := 2) dL_law_605 rfl rfl ?_
      refine J_aload_n (j := 0) dL_law_606 rfl rfl ?_
      refine J_iload_n (j := 3) dL_law_607 rfl rfl ?_
      refine J_iconst (v := 1) dL_law_608 (by decide) ?_
      refine J_iadd dL_law_609 ?_
      refine J_scr hX dL_law_610 ?_
      refine J_aload_n (j := 0) dL_law_611 rfl rfl ?_
      refine J_iload_n (j := 3) dL_law_612 rfl rfl ?_
      refine J_iconst (v := 2) dL_law_613 (by decide) ?_
      refine J_iadd dL_law_614 ?_
      refine J_scr hX dL_law_615 ?_
      refine J_aload_n (j := 0) dL_law_616 rfl rfl ?_
      refine J_iload_n (j := 3) dL_law_617 rfl rfl ?_
      refine J_iconst (v := 3) dL_law_618 (by decide) ?_
      refine J_iadd dL_law_619 ?_
      refine J_scr hX dL_law_620 ?_
      refine J_callVi3 dL_law_621 (t_X12_ranked_69 (llL G) (llFx G) (d + 39) u58 (xs (Int32.toNatClampNeg (s.2 + 1))) (xs (Int32.toNatClampNeg (s.2 + 2))) (xs (Int32.toNatClampNeg (s.2 + 3)))) ym_X12_ranked wd_1617 sh_69 rfl (Nat.le_of_ble_eq_true rfl) (fun u60 r61 => ?_)
      refine J_icmp_eq (tgt := 1144) dL_law_624 (by decide) ?_ ?_
      · refine J_sub [0, 1, 2, 3] (lv' := [(0, .ref b), (1, .ref (llAd G 0)), (2, .ref (llAd G 69)), (3, .int s.2)]) rfl ?_
        exact t_L_law_j1144_b18 hX u60 s.2
      · refine J_iconst (v := 0) dL_law_627 (by decide) ?_
        exact J_none
    refine J_case (fun hq17 => ?_) (fun hn17 => ?_)
    · refine J_tableIn (tgt := 629) hq17 dL_law_33 (by decide) (by decide) rfl (by decide) ?_
      refine J_aload_n (j := 1) dL_law_629 rfl rfl ?_
      refine J_aload_n (j := 0) dL_law_630 rfl rfl ?_
      refine J_iload_n (j := 3) dL_law_631 rfl rfl ?_
      refine J_iconst (v := 1) dL_law_632 (by decide) ?_
      refine J_iadd dL_law_633 ?_
      refine J_scr hX dL_law_634 ?_
      refine J_aload_n (j := 0) dL_law_635 rfl rfl ?_
      refine J_iload_n (j := 3) dL_law_636 rfl rfl ?_
      refine J_iconst (v := 2) dL_law_637 (by decide) ?_
      refine J_iadd dL_law_638 ?_
      refine J_scr hX dL_law_639 ?_
      refine J_callVi2 dL_law_640 (t_X11_order_0 (llL G) (llFx G) (d + 41) s.1 (xs (Int32.toNatClampNeg (s.2 + 1))) (xs (Int32.toNatClampNeg (s.2 + 2)))) ym_X11_order wd_952 sh_0 rfl (Nat.le_of_ble_eq_true rfl) (fun u62 r63 => ?_)
      refine J_aload_n (j := 2) dL_law_643 rfl rfl ?_
      refine J_aload_n (j := 0) dL_law_644 rfl rfl ?_
      refine J_iload_n (j := 3) dL_law_645 rfl rfl ?_
      refine J_iconst (v := 1) dL_law_646 (by decide) ?_
      refine J_iadd dL_law_647 ?_
      refine J_scr hX dL_law_648 ?_
      refine J_aload_n (j := 0) dL_law_649 rfl rfl ?_
      refine J_iload_n (j := 3) dL_law_650 rfl rfl ?_
      refine J_iconst (v := 2) dL_law_651 (by decide) ?_
      refine J_iadd dL_law_652 ?_
      refine J_scr hX dL_law_653 ?_
      refine J_callVi2 dL_law_654 (t_X12_order_69 (llL G) (llFx G) (d + 38) u62 (xs (Int32.toNatClampNeg (s.2 + 1))) (xs (Int32.toNatClampNeg (s.2 + 2)))) ym_X12_order wd_1629 sh_69 rfl (Nat.le_of_ble_eq_true rfl) (fun u64 r65 => ?_)
      refine J_icmp_eq (tgt := 1144) dL_law_657 (by decide) ?_ ?_
      · refine J_sub [0, 1, 2, 3] (lv' := [(0, .ref b), (1, .ref (llAd G 0)), (2, .ref (llAd G 69)), (3, .int s.2)]) rfl ?_
        exact t_L_law_j1144_b18 hX u64 s.2
      · refine J_iconst (v := 0) dL_law_660 (by decide) ?_
        exact J_none
    refine J_case (fun hq18 => ?_) (fun hn18 => ?_)
    · refine J_tableIn (tgt := 662) hq18 dL_law_33 (by decide) (by decide) rfl (by decide) ?_
      refine J_aload_n (j := 1) dL_law_662 rfl rfl ?_
      refine J_aload_n (j := 0) dL_law_663 rfl rfl ?_
      refine J_iload_n (j := 3) dL_law_664 rfl rfl ?_
      refine J_iconst (v := 1) dL_law_665 (by decide) ?_
      refine J_iadd dL_law_666 ?_
      refine J_scr hX dL_law_667 ?_
      refine J_aload_n (j := 0) dL_law_668 rfl rfl ?_
      refine J_iload_n (j := 3) dL_law_669 rfl rfl ?_
      refine J_iconst (v := 2) dL_law_670 (by decide) ?_
      refine J_iadd dL_law_671 ?_
      refine J_scr hX dL_law_672 ?_
      refine J_callVi2 dL_law_673 (t_X11_level_0 (llL G) (llFx G) (d + 1) s.1 (xs (Int32.toNatClampNeg (s.2 + 1))) (xs (Int32.toNatClampNeg (s.2 + 2)))) ym_X11_level wd_957 sh_0 rfl (Nat.le_of_ble_eq_true rfl) (fun u66 r67 => ?_)
      refine J_aload_n (j := 2) dL_law_676 rfl rfl ?_
      refine J_aload_n (j := 0) dL_law_677 rfl rfl ?_
      refine J_iload_n (j := 3) dL_law_678 rfl rfl ?_
      refine J_iconst (v := 1) dL_law_679 (by decide) ?_
      refine J_iadd dL_law_680 ?_
      refine J_scr hX dL_law_681 ?_
      refine J_aload_n (j := 0) dL_law_682 rfl rfl ?_
      refine J_iload_n (j := 3) dL_law_683 rfl rfl ?_
      refine J_iconst (v := 2) dL_law_684 (by decide) ?_
      refine J_iadd dL_law_685 ?_
      refine J_scr hX dL_law_686 ?_
      refine J_callVi2 dL_law_687 (t_X12_level_69 (llL G) (llFx G) (d + 3) u66 (xs (Int32.toNatClampNeg (s.2 + 1))) (xs (Int32.toNatClampNeg (s.2 + 2)))) ym_X12_level wd_1633 sh_69 rfl (Nat.le_of_ble_eq_true rfl) (fun u68 r69 => ?_)
      refine J_icmp_eq (tgt := 1144) dL_law_690 (by decide) ?_ ?_
      · refine J_sub [0, 1, 2, 3] (lv' := [(0, .ref b), (1, .ref (llAd G 0)), (2, .ref (llAd G 69)), (3, .int s.2)]) rfl ?_
        exact t_L_law_j1144_b18 hX u68 s.2
      · refine J_iconst (v := 0) dL_law_693 (by decide) ?_
        exact J_none
    refine J_case (fun hq19 => ?_) (fun hn19 => ?_)
    · refine J_tableIn (tgt := 695) hq19 dL_law_33 (by decide) (by decide) rfl (by decide) ?_
      refine J_aload_n (j := 1) dL_law_695 rfl rfl ?_
      refine J_aload_n (j := 0) dL_law_696 rfl rfl ?_
      refine J_iload_n (j := 3) dL_law_697 rfl rfl ?_
      refine J_iconst (v := 1) dL_law_698 (by decide) ?_
      refine J_iadd dL_law_699 ?_
      refine J_scr hX dL_law_700 ?_
      refine J_aload_n (j := 0) dL_law_701 rfl rfl ?_
      refine J_iload_n (j := 3) dL_law_702 rfl rfl ?_
      refine J_iconst (v := 2) dL_law_703 (by decide) ?_
      refine J_iadd dL_law_704 ?_
      refine J_scr hX dL_law_705 ?_
      refine J_aload_n (j := 0) dL_law_706 rfl rfl ?_
      refine J_iload_n (j := 3) dL_law_707 rfl rfl ?_
      refine J_iconst (v := 3) dL_law_708 (by decide) ?_
      refine J_iadd dL_law_709 ?_
      refine J_scr hX dL_law_710 ?_
      refine J_callVi3 dL_law_711 (t_X11_moves_0 (llL G) (llFx G) (d + 40) s.1 (xs (Int32.toNatClampNeg (s.2 + 1))) (xs (Int32.toNatClampNeg (s.2 + 2))) (xs (Int32.toNatClampNeg (s.2 + 3)))) ym_X11_moves wd_973 sh_0 rfl (Nat.le_of_ble_eq_true rfl) (fun u70 r71 => ?_)
      refine J_aload_n (j := 2) dL_law_714 rfl rfl ?_
      refine J_aload_n (j := 0) dL_law_715 rfl rfl ?_
      refine J_iload_n (j := 3) dL_law_716 rfl rfl ?_
      refine J_iconst (v := 1) dL_law_717 (by decide) ?_
      refine J_iadd dL_law_718 ?_
      refine J_scr hX dL_law_719 ?_
      refine J_aload_n (j := 0) dL_law_720 rfl rfl ?_
      refine J_iload_n (j := 3) dL_law_721 rfl rfl ?_
      refine J_iconst (v := 2) dL_law_722 (by decide) ?_
      refine J_iadd dL_law_723 ?_
      refine J_scr hX dL_law_724 ?_
      refine J_aload_n (j := 0) dL_law_725 rfl rfl ?_
      refine J_iload_n (j := 3) dL_law_726 rfl rfl ?_
      refine J_iconst (v := 3) dL_law_727 (by decide) ?_
      refine J_iadd dL_law_728 ?_
      refine J_scr hX dL_law_729 ?_
      refine J_callVi3 dL_law_730 (t_X12_moves_69 (llL G) (llFx G) (d + 37) u70 (xs (Int32.toNatClampNeg (s.2 + 1))) (xs (Int32.toNatClampNeg (s.2 + 2))) (xs (Int32.toNatClampNeg (s.2 + 3)))) ym_X12_moves wd_1641 sh_69 rfl (Nat.le_of_ble_eq_true rfl) (fun u72 r73 => ?_)
      refine J_icmp_eq (tgt := 1144) dL_law_733 (by decide) ?_ ?_
      · refine J_sub [0, 1, 2, 3] (lv' := [(0, .ref b), (1, .ref (llAd G 0)), (2, .ref (llAd G 69)), (3, .int s.2)]) rfl ?_
        exact t_L_law_j1144_b18 hX u72 s.2
      · refine J_iconst (v := 0) dL_law_736 (by decide) ?_
        exact J_none
    refine J_case (fun hq20 => ?_) (fun hn20 => ?_)
    · refine J_tableIn (tgt := 738) hq20 dL_law_33 (by decide) (by decide) rfl (by decide) ?_
      refine J_aload_n (j := 1) dL_law_738 rfl rfl ?_
      refine J_aload_n (j := 0) dL_law_739 rfl rfl ?_
      refine J_iload_n (j := 3) dL_law_740 rfl rfl ?_
      refine J_iconst (v := 1) dL_law_741 (by decide) ?_
      refine J_iadd dL_law_742 ?_
      refine J_scr hX dL_law_743 ?_
      refine J_callVi1 dL_law_744 (t_X11_would_0 (llL G) (llFx G) (d + 40) s.1 (xs (Int32.toNatClampNeg (s.2 + 1)))) ym_X11_would wd_982 sh_0 rfl (Nat.le_of_ble_eq_true rfl) (fun u74 r75 => ?_)
      refine J_aload_n (j := 2) dL_law_747 rfl rfl ?_
      refine J_aload_n (j := 0) dL_law_748 rfl rfl ?_
      refine J_iload_n (j := 3) dL_law_749 rfl rfl ?_
      refine J_iconst (v := 1) dL_law_750 (by decide) ?_
      refine J_iadd dL_law_751 ?_
      refine J_scr hX dL_law_752 ?_
      refine J_callVi1 dL_law_753 (t_X12_would_69 (llL G) (llFx G) (d + 37) u74 (xs (Int32.toNatClampNeg (s.2 + 1)))) ym_X12_would wd_1646 sh_69 rfl (Nat.le_of_ble_eq_true rfl) (fun u76 r77 => ?_)
      refine J_icmp_eq (tgt := 1144) dL_law_756 (by decide) ?_ ?_
      · refine J_sub [0, 1, 2, 3] (lv' := [(0, .ref b), (1, .ref (llAd G 0)), (2, .ref (llAd G 69)), (3, .int s.2)]) rfl ?_
        exact t_L_law_j1144_b18 hX u76 s.2
      · refine J_iconst (v := 0) dL_law_759 (by decide) ?_
        exact J_none
    refine J_case (fun hq21 => ?_) (fun hn21 => ?_)
    · refine J_tableIn (tgt := 761) hq21 dL_law_33 (by decide) (by decide) rfl (by decide) ?_
      refine J_aload_n (j := 1) dL_law_761 rfl rfl ?_
      refine J_aload_n (j := 0) dL_law_762 rfl rfl ?_
      refine J_iload_n (j := 3) dL_law_763 rfl rfl ?_
      refine J_iconst (v := 1) dL_law_764 (by decide) ?_
      refine J_iadd dL_law_765 ?_
      refine J_scr hX dL_law_766 ?_
      refine J_callVi1 dL_law_767 (t_X11_needs_0 (llL G) (llFx G) (d + 39) s.1 (xs (Int32.toNatClampNeg (s.2 + 1)))) ym_X11_needs wd_986 sh_0 rfl (Nat.le_of_ble_eq_true rfl) (fun u78 r79 => ?_)
      refine J_aload_n (j := 2) dL_law_770 rfl rfl ?_
      refine J_aload_n (j := 0) dL_law_771 rfl rfl ?_
      refine J_iload_n (j := 3) dL_law_772 rfl rfl ?_
      refine J_iconst (v := 1) dL_law_773 (by decide) ?_
      refine J_iadd dL_law_774 ?_
      refine J_scr hX dL_law_775 ?_
      refine J_callVi1 dL_law_776 (t_X12_needs_69 (llL G) (llFx G) (d + 37) u78 (xs (Int32.toNatClampNeg (s.2 + 1)))) ym_X12_needs wd_1650 sh_69 rfl (Nat.le_of_ble_eq_true rfl) (fun u80 r81 => ?_)
      refine J_icmp_eq (tgt := 1144) dL_law_779 (by decide) ?_ ?_
      · refine J_sub [0, 1, 2, 3] (lv' := [(0, .ref b), (1, .ref (llAd G 0)), (2, .ref (llAd G 69)), (3, .int s.2)]) rfl ?_
        exact t_L_law_j1144_b18 hX u80 s.2
      · refine J_iconst (v := 0) dL_law_782 (by decide) ?_
        exact J_none
    refine J_case (fun hq22 => ?_) (fun hn22 => ?_)
    · refine J_tableIn (tgt := 784) hq22 dL_law_33 (by decide) (by decide) rfl (by decide) ?_
      refine J_aload_n (j := 1) dL_law_784 rfl rfl ?_
      refine J_aload_n (j := 0) dL_law_785 rfl rfl ?_
      refine J_iload_n (j := 3) dL_law_786 rfl rfl ?_
      refine J_iconst (v := 1) dL_law_787 (by decide) ?_
      refine J_iadd dL_law_788 ?_
      refine J_scr hX dL_law_789 ?_
      refine J_callVi1 dL_law_790 (t_X11_parted_0 (llL G) (llFx G) (d + 1) s.1 (xs (Int32.toNatClampNeg (s.2 + 1)))) ym_X11_parted wd_995 sh_0 rfl (Nat.le_of_ble_eq_true rfl) (fun u82 r83 => ?_)
      refine J_aload_n (j := 2) dL_law_793 rfl rfl ?_
      refine J_aload_n (j := 0) dL_law_794 rfl rfl ?_
      refine J_iload_n (j := 3) dL_law_795 rfl rfl ?_
      refine J_iconst (v := 1) dL_law_796 (by decide) ?_
      refine J_iadd dL_law_797 ?_
      refine J_scr hX dL_law_798 ?_
      refine J_callVi1 dL_law_799 (t_X12_parted_69 (llL G) (llFx G) (d + 3) u82 (xs (Int32.toNatClampNeg (s.2 + 1)))) ym_X12_parted wd_1654 sh_69 rfl (Nat.le_of_ble_eq_true rfl) (fun u84 r85 => ?_)
      refine J_icmp_eq (tgt := 1144) dL_law_802 (by decide) ?_ ?_
      · refine J_sub [0, 1, 2, 3] (lv' := [(0, .ref b), (1, .ref (llAd G 0)), (2, .ref (llAd G 69)), (3, .int s.2)]) rfl ?_
        exact t_L_law_j1144_b18 hX u84 s.2
      · refine J_iconst (v := 0) dL_law_805 (by decide) ?_
        exact J_none
    refine J_case (fun hq23 => ?_) (fun hn23 => ?_)
    · refine J_tableIn (tgt := 807) hq23 dL_law_33 (by decide) (by decide) rfl (by decide) ?_
      refine J_aload_n (j := 1) dL_law_807 rfl rfl ?_
      refine J_aload_n (j := 0) dL_law_808 rfl rfl ?_
      refine J_iload_n (j := 3) dL_law_809 rfl rfl ?_
      refine J_iconst (v := 1) dL_law_810 (by decide) ?_
      refine J_iadd dL_law_811 ?_
      refine J_scr hX dL_law_812 ?_
      refine J_aload_n (j := 0) dL_law_813 rfl rfl ?_
      refine J_iload_n (j := 3) dL_law_814 rfl rfl ?_
      refine J_iconst (v := 2) dL_law_815 (by decide) ?_
      refine J_iadd dL_law_816 ?_
      refine J_scr hX dL_law_817 ?_
      refine J_callVi2 dL_law_818 (t_X11_swap_0 (llL G) (llFx G) (d + 41) s.1 (xs (Int32.toNatClampNeg (s.2 + 1))) (xs (Int32.toNatClampNeg (s.2 + 2)))) ym_X11_swap wd_999 sh_0 rfl (Nat.le_of_ble_eq_true rfl) (fun u86 r87 => ?_)
      refine J_aload_n (j := 2) dL_law_821 rfl rfl ?_
      refine J_aload_n (j := 0) dL_law_822 rfl rfl ?_
      refine J_iload_n (j := 3) dL_law_823 rfl rfl ?_
      refine J_iconst (v := 1) dL_law_824 (by decide) ?_
      refine J_iadd dL_law_825 ?_
      refine J_scr hX dL_law_826 ?_
      refine J_aload_n (j := 0) dL_law_827 rfl rfl ?_
      refine J_iload_n (j := 3) dL_law_828 rfl rfl ?_
      refine J_iconst (v := 2) dL_law_829 (by decide) ?_
      refine J_iadd dL_law_830 ?_
      refine J_scr hX dL_law_831 ?_
      refine J_callVip2 dL_law_832 (t_X12_swap_69 (llL G) (llFx G) (d + 43) u86 (xs (Int32.toNatClampNeg (s.2 + 1))) (xs (Int32.toNatClampNeg (s.2 + 2)))) ym_X12_swap wd_1658 sh_69 rfl (Nat.le_of_ble_eq_true rfl) (fun r88 => ?_)
      refine J_icmp_eq (tgt := 1144) dL_law_835 (by decide) ?_ ?_
      · refine J_sub [0, 1, 2, 3] (lv' := [(0, .ref b), (1, .ref (llAd G 0)), (2, .ref (llAd G 69)), (3, .int s.2)]) rfl ?_
        exact t_L_law_j1144_b18 hX u86 s.2
      · refine J_iconst (v := 0) dL_law_838 (by decide) ?_
        exact J_none
    refine J_case (fun hq24 => ?_) (fun hn24 => ?_)
    · refine J_tableIn (tgt := 840) hq24 dL_law_33 (by decide) (by decide) rfl (by decide) ?_
      refine J_aload_n (j := 1) dL_law_840 rfl rfl ?_
      refine J_aload_n (j := 0) dL_law_841 rfl rfl ?_
      refine J_iload_n (j := 3) dL_law_842 rfl rfl ?_
      refine J_iconst (v := 1) dL_law_843 (by decide) ?_
      refine J_iadd dL_law_844 ?_
      refine J_scr hX dL_law_845 ?_
      refine J_callVi1 dL_law_846 (t_X11_middle_0 (llL G) (llFx G) (d + 41) s.1 (xs (Int32.toNatClampNeg (s.2 + 1)))) ym_X11_middle wd_1024 sh_0 rfl (Nat.le_of_ble_eq_true rfl) (fun u89 r90 => ?_)
      refine J_aload_n (j := 2) dL_law_849 rfl rfl ?_
      refine J_aload_n (j := 0) dL_law_850 rfl rfl ?_
      refine J_iload_n (j := 3) dL_law_851 rfl rfl ?_
      refine J_iconst (v := 1) dL_law_852 (by decide) ?_
      refine J_iadd dL_law_853 ?_
      refine J_scr hX dL_law_854 ?_
      refine J_callVip1 dL_law_855 (t_X12_middle_69 (llL G) (llFx G) (d + 42) u89 (xs (Int32.toNatClampNeg (s.2 + 1)))) ym_X12_middle wd_1663 sh_69 rfl (Nat.le_of_ble_eq_true rfl) (fun r91 => ?_)
      refine J_icmp_eq (tgt := 1144) dL_law_858 (by decide) ?_ ?_
      · refine J_sub [0, 1, 2, 3] (lv' := [(0, .ref b), (1, .ref (llAd G 0)), (2, .ref (llAd G 69)), (3, .int s.2)]) rfl ?_
        exact t_L_law_j1144_b18 hX u89 s.2
      · refine J_iconst (v := 0) dL_law_861 (by decide) ?_
        exact J_none
    refine J_case (fun hq25 => ?_) (fun hn25 => ?_)
    · refine J_tableIn (tgt := 863) hq25 dL_law_33 (by decide) (by decide) rfl (by decide) ?_
      refine J_aload_n (j := 1) dL_law_863 rfl rfl ?_
      refine J_aload_n (j := 0) dL_law_864 rfl rfl ?_
      refine J_iload_n (j := 3) dL_law_865 rfl rfl ?_
      refine J_iconst (v := 1) dL_law_866 (by decide) ?_
      refine J_iadd dL_law_867 ?_
      refine J_scr hX dL_law_868 ?_
      refine J_aload_n (j := 0) dL_law_869 rfl rfl ?_
      refine J_iload_n (j := 3) dL_law_870 rfl rfl ?_
      refine J_iconst (v := 2) dL_law_871 (by decide) ?_
      refine J_iadd dL_law_872 ?_
      refine J_scr hX dL_law_873 ?_
      refine J_callVlp2 dL_law_874 (t_X11_rest_0 (llL G) (llFx G) (d + 42) s.1 (xs (Int32.toNatClampNeg (s.2 + 1))) (xs (Int32.toNatClampNeg (s.2 + 2)))) ym_X11_rest wd_1033 sh_0 rfl (Nat.le_of_ble_eq_true rfl) (fun r92 => ?_)
      refine J_aload_n (j := 2) dL_law_877 rfl rfl ?_
      refine J_aload_n (j := 0) dL_law_878 rfl rfl ?_
      refine J_iload_n (j := 3) dL_law_879 rfl rfl ?_
      refine J_iconst (v := 1) dL_law_880 (by decide) ?_
      refine J_iadd dL_law_881 ?_
      refine J_scr hX dL_law_882 ?_
      refine J_aload_n (j := 0) dL_law_883 rfl rfl ?_
      refine J_iload_n (j := 3) dL_law_884 rfl rfl ?_
      refine J_iconst (v := 2) dL_law_885 (by decide) ?_
      refine J_iadd dL_law_886 ?_
      refine J_scr hX dL_law_887 ?_
      refine J_callVlp2 dL_law_888 (t_X12_rest_69 (llL G) (llFx G) (d + 42) s.1 (xs (Int32.toNatClampNeg (s.2 + 1))) (xs (Int32.toNatClampNeg (s.2 + 2)))) ym_X12_rest wd_1671 sh_69 rfl (Nat.le_of_ble_eq_true rfl) (fun r93 => ?_)
      refine J_lcmp dL_law_891 ?_
      refine J_if_eq (tgt := 1144) dL_law_892 (by decide) ?_ ?_
      · refine J_sub [0, 1, 2, 3] (lv' := [(0, .ref b), (1, .ref (llAd G 0)), (2, .ref (llAd G 69)), (3, .int s.2)]) rfl ?_
        exact t_L_law_j1144_b18 hX s.1 s.2
      · refine J_iconst (v := 0) dL_law_895 (by decide) ?_
        exact J_none
    refine J_case (fun hq26 => ?_) (fun hn26 => ?_)
    · refine J_tableIn (tgt := 897) hq26 dL_law_33 (by decide) (by decide) rfl (by decide) ?_
      refine J_aload_n (j := 1) dL_law_897 rfl rfl ?_
      refine J_aload_n (j := 0) dL_law_898 rfl rfl ?_
      refine J_iload_n (j := 3) dL_law_899 rfl rfl ?_
      refine J_iconst (v := 1) dL_law_900 (by decide) ?_
      refine J_iadd dL_law_901 ?_
      refine J_scr hX dL_law_902 ?_
      refine J_aload_n (j := 0) dL_law_903 rfl rfl ?_
      refine J_iload_n (j := 3) dL_law_904 rfl rfl ?_
      refine J_iconst (v := 2) dL_law_905 (by decide) ?_
      refine J_iadd dL_law_906 ?_
      refine J_scr hX dL_law_907 ?_
      refine J_aload_n (j := 0) dL_law_908 rfl rfl ?_
      refine J_iload_n (j := 3) dL_law_909 rfl rfl ?_
      refine J_iconst (v := 3) dL_law_910 (by decide) ?_
      refine J_iadd dL_law_911 ?_
      refine J_scr hX dL_law_912 ?_
      refine J_callVip3 dL_law_913 (t_X11_match_0 (llL G) (llFx G) (d + 43) s.1 (xs (Int32.toNatClampNeg (s.2 + 1))) (xs (Int32.toNatClampNeg (s.2 + 2))) (xs (Int32.toNatClampNeg (s.2 + 3)))) ym_X11_match wd_1045 sh_0 rfl (Nat.le_of_ble_eq_true rfl) (fun r94 => ?_)
      refine J_aload_n (j := 2) dL_law_916 rfl rfl ?_
      refine J_aload_n (j := 0) dL_law_917 rfl rfl ?_
      refine J_iload_n (j := 3) dL_law_918 rfl rfl ?_
      refine J_iconst (v := 1) dL_law_919 (by decide) ?_
      refine J_iadd dL_law_920 ?_
      refine J_scr hX dL_law_921 ?_
      refine J_aload_n (j := 0) dL_law_922 rfl rfl ?_
      refine J_iload_n (j := 3) dL_law_923 rfl rfl ?_
      refine J_iconst (v := 2) dL_law_924 (by decide) ?_
      refine J_iadd dL_law_925 ?_
      refine J_scr hX dL_law_926 ?_
      refine J_aload_n (j := 0) dL_law_927 rfl rfl ?_
      refine J_iload_n (j := 3) dL_law_928 rfl rfl ?_
      refine J_iconst (v := 3) dL_law_929 (by decide) ?_
      refine J_iadd dL_law_930 ?_
      refine J_scr hX dL_law_931 ?_
      refine J_callVip3 dL_law_932 (t_X12_match_69 (llL G) (llFx G) (d + 43) s.1 (xs (Int32.toNatClampNeg (s.2 + 1))) (xs (Int32.toNatClampNeg (s.2 + 2))) (xs (Int32.toNatClampNeg (s.2 + 3)))) ym_X12_match wd_1686 sh_69 rfl (Nat.le_of_ble_eq_true rfl) (fun r95 => ?_)
      refine J_icmp_eq (tgt := 1144) dL_law_935 (by decide) ?_ ?_
      · refine J_sub [0, 1, 2, 3] (lv' := [(0, .ref b), (1, .ref (llAd G 0)), (2, .ref (llAd G 69)), (3, .int s.2)]) rfl ?_
        exact t_L_law_j1144_b18 hX s.1 s.2
      · refine J_iconst (v := 0) dL_law_938 (by decide) ?_
        exact J_none
    refine J_case (fun hq27 => ?_) (fun hn27 => ?_)
    · refine J_tableIn (tgt := 940) hq27 dL_law_33 (by decide) (by decide) rfl (by decide) ?_
      refine J_aload_n (j := 1) dL_law_940 rfl rfl ?_
      refine J_aload_n (j := 0) dL_law_941 rfl rfl ?_
      refine J_iload_n (j := 3) dL_law_942 rfl rfl ?_
      refine J_iconst (v := 1) dL_law_943 (by decide) ?_
      refine J_iadd dL_law_944 ?_
      refine J_scr hX dL_law_945 ?_
      refine J_callVip1 dL_law_946 (t_X11_above_0 (llL G) (llFx G) (d + 41) s.1 (xs (Int32.toNatClampNeg (s.2 + 1)))) ym_X11_above wd_1051 sh_0 rfl (Nat.le_of_ble_eq_true rfl) (fun r96 => ?_)
      refine J_aload_n (j := 2) dL_law_949 rfl rfl ?_
      refine J_aload_n (j := 0) dL_law_950 rfl rfl ?_
      refine J_iload_n (j := 3) dL_law_951 rfl rfl ?_
      refine J_iconst (v := 1) dL_law_952 (by decide) ?_
      refine J_iadd dL_law_953 ?_
      refine J_scr hX dL_law_954 ?_
      refine J_callVip1 dL_law_955 (t_X12_above_69 (llL G) (llFx G) (d + 41) s.1 (xs (Int32.toNatClampNeg (s.2 + 1)))) ym_X12_above wd_1690 sh_69 rfl (Nat.le_of_ble_eq_true rfl) (fun r97 => ?_)
      refine J_icmp_eq (tgt := 1144) dL_law_958 (by decide) ?_ ?_
      · refine J_sub [0, 1, 2, 3] (lv' := [(0, .ref b), (1, .ref (llAd G 0)), (2, .ref (llAd G 69)), (3, .int s.2)]) rfl ?_
        exact t_L_law_j1144_b18 hX s.1 s.2
      · refine J_iconst (v := 0) dL_law_961 (by decide) ?_
        exact J_none
    refine J_case (fun hq28 => ?_) (fun hn28 => ?_)
    · refine J_tableIn (tgt := 963) hq28 dL_law_33 (by decide) (by decide) rfl (by decide) ?_
      refine J_aload_n (j := 1) dL_law_963 rfl rfl ?_
      refine J_aload_n (j := 0) dL_law_964 rfl rfl ?_
      refine J_iload_n (j := 3) dL_law_965 rfl rfl ?_
      refine J_iconst (v := 1) dL_law_966 (by decide) ?_
      refine J_iadd dL_law_967 ?_
      refine J_scr hX dL_law_968 ?_
      refine J_callVip1 dL_law_969 (t_X11_journeys_0 (llL G) (llFx G) (d + 43) s.1 (xs (Int32.toNatClampNeg (s.2 + 1)))) ym_X11_journeys wd_1060 sh_0 rfl (Nat.le_of_ble_eq_true rfl) (fun r98 => ?_)
      refine J_aload_n (j := 2) dL_law_972 rfl rfl ?_
      refine J_aload_n (j := 0) dL_law_973 rfl rfl ?_
      refine J_iload_n (j := 3) dL_law_974 rfl rfl ?_
      refine J_iconst (v := 1) dL_law_975 (by decide) ?_
      refine J_iadd dL_law_976 ?_
      refine J_scr hX dL_law_977 ?_
      refine J_callVip1 dL_law_978 (t_X12_journeys_69 (llL G) (llFx G) (d + 42) s.1 (xs (Int32.toNatClampNeg (s.2 + 1)))) ym_X12_journeys wd_1694 sh_69 rfl (Nat.le_of_ble_eq_true rfl) (fun r99 => ?_)
      refine J_icmp_eq (tgt := 1144) dL_law_981 (by decide) ?_ ?_
      · refine J_sub [0, 1, 2, 3] (lv' := [(0, .ref b), (1, .ref (llAd G 0)), (2, .ref (llAd G 69)), (3, .int s.2)]) rfl ?_
        exact t_L_law_j1144_b18 hX s.1 s.2
      · refine J_iconst (v := 0) dL_law_984 (by decide) ?_
        exact J_none
    refine J_case (fun hq29 => ?_) (fun hn29 => ?_)
    · refine J_tableIn (tgt := 986) hq29 dL_law_33 (by decide) (by decide) rfl (by decide) ?_
      refine J_aload_n (j := 1) dL_law_986 rfl rfl ?_
      refine J_aload_n (j := 0) dL_law_987 rfl rfl ?_
      refine J_iload_n (j := 3) dL_law_988 rfl rfl ?_
      refine J_iconst (v := 1) dL_law_989 (by decide) ?_
      refine J_iadd dL_law_990 ?_
      refine J_scr hX dL_law_991 ?_
      refine J_callVip1 dL_law_992 (t_X11_nearest_0 (llL G) (llFx G) (d + 41) s.1 (xs (Int32.toNatClampNeg (s.2 + 1)))) ym_X11_nearest wd_1065 sh_0 rfl (Nat.le_of_ble_eq_true rfl) (fun r100 => ?_)
      refine J_aload_n (j := 2) dL_law_995 rfl rfl ?_
      refine J_aload_n (j := 0) dL_law_996 rfl rfl ?_
      refine J_iload_n (j := 3) dL_law_997 rfl rfl ?_
      refine J_iconst (v := 1) dL_law_998 (by decide) ?_
      refine J_iadd dL_law_999 ?_
      refine J_scr hX dL_law_1000 ?_
      refine J_callVip1 dL_law_1001 (t_X12_nearest_69 (llL G) (llFx G) (d + 41) s.1 (xs (Int32.toNatClampNeg (s.2 + 1)))) ym_X12_nearest wd_1698 sh_69 rfl (Nat.le_of_ble_eq_true rfl) (fun r101 => ?_)
      refine J_icmp_eq (tgt := 1144) dL_law_1004 (by decide) ?_ ?_
      · refine J_sub [0, 1, 2, 3] (lv' := [(0, .ref b), (1, .ref (llAd G 0)), (2, .ref (llAd G 69)), (3, .int s.2)]) rfl ?_
        exact t_L_law_j1144_b18 hX s.1 s.2
      · refine J_iconst (v := 0) dL_law_1007 (by decide) ?_
        exact J_none
    refine J_case (fun hq30 => ?_) (fun hn30 => ?_)
    · refine J_tableIn (tgt := 1009) hq30 dL_law_33 (by decide) (by decide) rfl (by decide) ?_
      refine J_aload_n (j := 1) dL_law_1009 rfl rfl ?_
      refine J_aload_n (j := 0) dL_law_1010 rfl rfl ?_
      refine J_iload_n (j := 3) dL_law_1011 rfl rfl ?_
      refine J_iconst (v := 1) dL_law_1012 (by decide) ?_
      refine J_iadd dL_law_1013 ?_
      refine J_scr hX dL_law_1014 ?_
      refine J_aload_n (j := 0) dL_law_1015 rfl rfl ?_
      refine J_iload_n (j := 3) dL_law_1016 rfl rfl ?_
      refine J_iconst (v := 2) dL_law_1017 (by decide) ?_
      refine J_iadd dL_law_1018 ?_
      refine J_scr hX dL_law_1019 ?_
      refine J_callVip2 dL_law_1020 (t_X11_versus_0 (llL G) (llFx G) (d + 42) s.1 (xs (Int32.toNatClampNeg (s.2 + 1))) (xs (Int32.toNatClampNeg (s.2 + 2)))) ym_X11_versus wd_1074 sh_0 rfl (Nat.le_of_ble_eq_true rfl) (fun r102 => ?_)
      refine J_aload_n (j := 2) dL_law_1023 rfl rfl ?_
      refine J_aload_n (j := 0) dL_law_1024 rfl rfl ?_
      refine J_iload_n (j := 3) dL_law_1025 rfl rfl ?_
      refine J_iconst (v := 1) dL_law_1026 (by decide) ?_
      refine J_iadd dL_law_1027 ?_
      refine J_scr hX dL_law_1028 ?_
      refine J_aload_n (j := 0) dL_law_1029 rfl rfl ?_
      refine J_iload_n (j := 3) dL_law_1030 rfl rfl ?_
      refine J_iconst (v := 2) dL_law_1031 (by decide) ?_
      refine J_iadd dL_law_1032 ?_
      refine J_scr hX dL_law_1033 ?_
      refine J_callVip2 dL_law_1034 (t_X12_versus_69 (llL G) (llFx G) (d + 42) s.1 (xs (Int32.toNatClampNeg (s.2 + 1))) (xs (Int32.toNatClampNeg (s.2 + 2)))) ym_X12_versus wd_1702 sh_69 rfl (Nat.le_of_ble_eq_true rfl) (fun r103 => ?_)
      refine J_icmp_eq (tgt := 1144) dL_law_1037 (by decide) ?_ ?_
      · refine J_sub [0, 1, 2, 3] (lv' := [(0, .ref b), (1, .ref (llAd G 0)), (2, .ref (llAd G 69)), (3, .int s.2)]) rfl ?_
        exact t_L_law_j1144_b18 hX s.1 s.2
      · refine J_iconst (v := 0) dL_law_1040 (by decide) ?_
        exact J_none
    refine J_case (fun hq31 => ?_) (fun hn31 => ?_)
    · refine J_tableIn (tgt := 1042) hq31 dL_law_33 (by decide) (by decide) rfl (by decide) ?_
      refine J_aload_n (j := 1) dL_law_1042 rfl rfl ?_
      refine J_aload_n (j := 0) dL_law_1043 rfl rfl ?_
      refine J_iload_n (j := 3) dL_law_1044 rfl rfl ?_
      refine J_iconst (v := 1) dL_law_1045 (by decide) ?_
      refine J_iadd dL_law_1046 ?_
      refine J_scr hX dL_law_1047 ?_
      refine J_callVi1 dL_law_1048 (t_X11_strangers_0 (llL G) (llFx G) (d + 41) s.1 (xs (Int32.toNatClampNeg (s.2 + 1)))) ym_X11_strangers wd_1085 sh_0 rfl (Nat.le_of_ble_eq_true rfl) (fun u104 r105 => ?_)
      refine J_aload_n (j := 2) dL_law_1051 rfl rfl ?_
      refine J_aload_n (j := 0) dL_law_1052 rfl rfl ?_
      refine J_iload_n (j := 3) dL_law_1053 rfl rfl ?_
      refine J_iconst (v := 1) dL_law_1054 (by decide) ?_
      refine J_iadd dL_law_1055 ?_
      refine J_scr hX dL_law_1056 ?_
      refine J_callVip1 dL_law_1057 (t_X12_strangers_69 (llL G) (llFx G) (d + 43) u104 (xs (Int32.toNatClampNeg (s.2 + 1)))) ym_X12_strangers wd_1709 sh_69 rfl (Nat.le_of_ble_eq_true rfl) (fun r106 => ?_)
      refine J_icmp_eq (tgt := 1144) dL_law_1060 (by decide) ?_ ?_
      · refine J_sub [0, 1, 2, 3] (lv' := [(0, .ref b), (1, .ref (llAd G 0)), (2, .ref (llAd G 69)), (3, .int s.2)]) rfl ?_
        exact t_L_law_j1144_b18 hX u104 s.2
      · refine J_iconst (v := 0) dL_law_1063 (by decide) ?_
        exact J_none
    refine J_case (fun hq32 => ?_) (fun hn32 => ?_)
    · refine J_tableIn (tgt := 1065) hq32 dL_law_33 (by decide) (by decide) rfl (by decide) ?_
      refine J_aload_n (j := 1) dL_law_1065 rfl rfl ?_
      refine J_aload_n (j := 0) dL_law_1066 rfl rfl ?_
      refine J_iload_n (j := 3) dL_law_1067 rfl rfl ?_
      refine J_iconst (v := 1) dL_law_1068 (by decide) ?_
      refine J_iadd dL_law_1069 ?_
      refine J_scr hX dL_law_1070 ?_
      refine J_aload_n (j := 0) dL_law_1071 rfl rfl ?_
      refine J_iload_n (j := 3) dL_law_1072 rfl rfl ?_
      refine J_iconst (v := 2) dL_law_1073 (by decide) ?_
      refine J_iadd dL_law_1074 ?_
      refine J_scr hX dL_law_1075 ?_
      refine J_callVi2 dL_law_1076 (t_X11_show_0 (llL G) (llFx G) (d + 41) s.1 (xs (Int32.toNatClampNeg (s.2 + 1))) (xs (Int32.toNatClampNeg (s.2 + 2)))) ym_X11_show wd_1093 sh_0 rfl (Nat.le_of_ble_eq_true rfl) (fun u107 r108 => ?_)
      refine J_aload_n (j := 2) dL_law_1079 rfl rfl ?_
      refine J_aload_n (j := 0) dL_law_1080 rfl rfl ?_
      refine J_iload_n (j := 3) dL_law_1081 rfl rfl ?_
      refine J_iconst (v := 1) dL_law_1082 (by decide) ?_
      refine J_iadd dL_law_1083 ?_
      refine J_scr hX dL_law_1084 ?_
      refine J_aload_n (j := 0) dL_law_1085 rfl rfl ?_
      refine J_iload_n (j := 3) dL_law_1086 rfl rfl ?_
      refine J_iconst (v := 2) dL_law_1087 (by decide) ?_
      refine J_iadd dL_law_1088 ?_
      refine J_scr hX dL_law_1089 ?_
      refine J_callVi2 dL_law_1090 (t_X12_show_69 (llL G) (llFx G) (d + 38) u107 (xs (Int32.toNatClampNeg (s.2 + 1))) (xs (Int32.toNatClampNeg (s.2 + 2)))) ym_X12_show wd_1713 sh_69 rfl (Nat.le_of_ble_eq_true rfl) (fun u109 r110 => ?_)
      refine J_icmp_eq (tgt := 1144) dL_law_1093 (by decide) ?_ ?_
      · refine J_sub [0, 1, 2, 3] (lv' := [(0, .ref b), (1, .ref (llAd G 0)), (2, .ref (llAd G 69)), (3, .int s.2)]) rfl ?_
        exact t_L_law_j1144_b18 hX u109 s.2
      · refine J_iconst (v := 0) dL_law_1096 (by decide) ?_
        exact J_none
    refine J_case (fun hq33 => ?_) (fun hn33 => ?_)
    · refine J_tableIn (tgt := 1098) hq33 dL_law_33 (by decide) (by decide) rfl (by decide) ?_
      refine J_aload_n (j := 1) dL_law_1098 rfl rfl ?_
      refine J_aload_n (j := 0) dL_law_1099 rfl rfl ?_
      refine J_iload_n (j := 3) dL_law_1100 rfl rfl ?_
      refine J_iconst (v := 1) dL_law_1101 (by decide) ?_
      refine J_iadd dL_law_1102 ?_
      refine J_scr hX dL_law_1103 ?_
      refine J_callVip1 dL_law_1104 (t_X11_out_0 (llL G) (llFx G) (d + 45) s.1 (xs (Int32.toNatClampNeg (s.2 + 1)))) ym_X11_out wd_1117 sh_0 rfl (Nat.le_of_ble_eq_true rfl) (fun r111 => ?_)
      refine J_aload_n (j := 2) dL_law_1107 rfl rfl ?_
      refine J_aload_n (j := 0) dL_law_1108 rfl rfl ?_
      refine J_iload_n (j := 3) dL_law_1109 rfl rfl ?_
      refine J_iconst (v := 1) dL_law_1110 (by decide) ?_
      refine J_iadd dL_law_1111 ?_
      refine J_scr hX dL_law_1112 ?_
      refine J_callVip1 dL_law_1113 (t_X12_out_69 (llL G) (llFx G) (d + 44) s.1 (xs (Int32.toNatClampNeg (s.2 + 1)))) ym_X12_out wd_1727 sh_69 rfl (Nat.le_of_ble_eq_true rfl) (fun r112 => ?_)
      refine J_icmp_eq (tgt := 1144) dL_law_1116 (by decide) ?_ ?_
      · refine J_sub [0, 1, 2, 3] (lv' := [(0, .ref b), (1, .ref (llAd G 0)), (2, .ref (llAd G 69)), (3, .int s.2)]) rfl ?_
        exact t_L_law_j1144_b18 hX s.1 s.2
      · refine J_iconst (v := 0) dL_law_1119 (by decide) ?_
        exact J_none
    refine J_case (fun hq34 => ?_) (fun hn34 => ?_)
    · refine J_tableIn (tgt := 1121) hq34 dL_law_33 (by decide) (by decide) rfl (by decide) ?_
      refine J_aload_n (j := 1) dL_law_1121 rfl rfl ?_
      refine J_aload_n (j := 0) dL_law_1122 rfl rfl ?_
      refine J_iload_n (j := 3) dL_law_1123 rfl rfl ?_
      refine J_iconst (v := 1) dL_law_1124 (by decide) ?_
      refine J_iadd dL_law_1125 ?_
      refine J_scr hX dL_law_1126 ?_
      refine J_callVip1 dL_law_1127 (t_X11_look_0 (llL G) (llFx G) (d + 44) s.1 (xs (Int32.toNatClampNeg (s.2 + 1)))) ym_X11_look wd_1121 sh_0 rfl (Nat.le_of_ble_eq_true rfl) (fun r113 => ?_)
      refine J_aload_n (j := 2) dL_law_1130 rfl rfl ?_
      refine J_aload_n (j := 0) dL_law_1131 rfl rfl ?_
      refine J_iload_n (j := 3) dL_law_1132 rfl rfl ?_
      refine J_iconst (v := 1) dL_law_1133 (by decide) ?_
      refine J_iadd dL_law_1134 ?_
      refine J_scr hX dL_law_1135 ?_
      refine J_callVip1 dL_law_1136 (t_X12_look_69 (llL G) (llFx G) (d + 44) s.1 (xs (Int32.toNatClampNeg (s.2 + 1)))) ym_X12_look wd_1731 sh_69 rfl (Nat.le_of_ble_eq_true rfl) (fun r114 => ?_)
      refine J_icmp_eq (tgt := 1144) dL_law_1139 (by decide) ?_ ?_
      · refine J_sub [0, 1, 2, 3] (lv' := [(0, .ref b), (1, .ref (llAd G 0)), (2, .ref (llAd G 69)), (3, .int s.2)]) rfl ?_
        exact t_L_law_j1144_b18 hX s.1 s.2
      · refine J_iconst (v := 0) dL_law_1142 (by decide) ?_
        exact J_none
    refine J_tableOut (tgt := 1144) dL_law_33 (llTabG (by decide) (by decide) (fun k hk1 hk2 => by rcases (show k = 0 ∨ k = 1 ∨ k = 2 ∨ k = 3 ∨ k = 4 ∨ k = 5 ∨ k = 6 ∨ k = 7 ∨ k = 8 ∨ k = 9 ∨ k = 10 ∨ k = 11 ∨ k = 12 ∨ k = 13 ∨ k = 14 ∨ k = 15 ∨ k = 16 ∨ k = 17 ∨ k = 18 ∨ k = 19 ∨ k = 20 ∨ k = 21 ∨ k = 22 ∨ k = 23 ∨ k = 24 ∨ k = 25 ∨ k = 26 ∨ k = 27 ∨ k = 28 ∨ k = 29 ∨ k = 30 ∨ k = 31 ∨ k = 32 ∨ k = 33 ∨ k = 34 by omega) with rfl | rfl | rfl | rfl | rfl | rfl | rfl | rfl | rfl | rfl | rfl | rfl | rfl | rfl | rfl | rfl | rfl | rfl | rfl | rfl | rfl | rfl | rfl | rfl | rfl | rfl | rfl | rfl | rfl | rfl | rfl | rfl | rfl | rfl | rfl <;> assumption)) (by decide) ?_
    refine J_sub [0, 1, 2, 3] (lv' := [(0, .ref b), (1, .ref (llAd G 0)), (2, .ref (llAd G 69)), (3, .int s.2)]) rfl ?_
    exact t_L_law_j1144_b18 hX s.1 s.2
