def llFuel : Nat := 10000
set_option maxRecDepth 100000 in
theorem sh_0 : llShp[0]? = some (.inr (10, [3, 5, 16, 28, 32, 44, 45, 50, 54, 65])) := rfl
set_option maxRecDepth 100000 in
theorem sh_1 : llShp[1]? = some (.inr (8, [4, 0, 0, 0, 0, 0, 1, 0, 0, 0])) := rfl
set_option maxRecDepth 100000 in
theorem sh_2 : llShp[2]? = some (.inl (0, 700)) := rfl
set_option maxRecDepth 100000 in
theorem sh_3 : llShp[3]? = some (.inr (4, [0, 6, 7, 8, 9, 0, 10, 11, 12, 13, 14, 15])) := rfl
set_option maxRecDepth 100000 in
theorem sh_4 : llShp[4]? = some (.inl (0, 4)) := rfl
set_option maxRecDepth 100000 in
theorem sh_5 : llShp[5]? = some (.inl (0, 4)) := rfl
set_option maxRecDepth 100000 in
theorem sh_6 : llShp[6]? = some (.inl (0, 4)) := rfl
set_option maxRecDepth 100000 in
theorem sh_7 : llShp[7]? = some (.inl (0, 4)) := rfl
set_option maxRecDepth 100000 in
theorem sh_8 : llShp[8]? = some (.inl (1, 30)) := rfl
set_option maxRecDepth 100000 in
theorem sh_9 : llShp[9]? = some (.inl (0, 30)) := rfl
set_option maxRecDepth 100000 in
theorem sh_10 : llShp[10]? = some (.inl (0, 30)) := rfl
set_option maxRecDepth 100000 in
theorem sh_11 : llShp[11]? = some (.inl (0, 30)) := rfl
set_option maxRecDepth 100000 in
theorem sh_12 : llShp[12]? = some (.inl (0, 30)) := rfl
set_option maxRecDepth 100000 in
theorem sh_13 : llShp[13]? = some (.inl (0, 30)) := rfl
set_option maxRecDepth 100000 in
theorem sh_14 : llShp[14]? = some (.inr (6, [0, 0, 17, 18, 19, 20, 21, 22, 23, 24, 25, 26, 27])) := rfl
set_option maxRecDepth 100000 in
theorem sh_15 : llShp[15]? = some (.inl (0, 150)) := rfl
set_option maxRecDepth 100000 in
theorem sh_16 : llShp[16]? = some (.inl (0, 150)) := rfl
set_option maxRecDepth 100000 in
theorem sh_17 : llShp[17]? = some (.inl (0, 900)) := rfl
set_option maxRecDepth 100000 in
theorem sh_18 : llShp[18]? = some (.inl (0, 30)) := rfl
set_option maxRecDepth 100000 in
theorem sh_19 : llShp[19]? = some (.inl (0, 30)) := rfl
set_option maxRecDepth 100000 in
theorem sh_20 : llShp[20]? = some (.inl (0, 30)) := rfl
set_option maxRecDepth 100000 in
theorem sh_21 : llShp[21]? = some (.inl (0, 30)) := rfl
set_option maxRecDepth 100000 in
theorem sh_22 : llShp[22]? = some (.inl (0, 30)) := rfl
set_option maxRecDepth 100000 in
theorem sh_23 : llShp[23]? = some (.inl (0, 30)) := rfl
set_option maxRecDepth 100000 in
theorem sh_24 : llShp[24]? = some (.inl (0, 30)) := rfl
set_option maxRecDepth 100000 in
theorem sh_25 : llShp[25]? = some (.inl (0, 30)) := rfl
set_option maxRecDepth 100000 in
theorem sh_26 : llShp[26]? = some (.inr (1, [5, 16, 0, 29, 30, 31])) := rfl
set_option maxRecDepth 100000 in
theorem sh_27 : llShp[27]? = some (.inl (0, 8)) := rfl
set_option maxRecDepth 100000 in
theorem sh_28 : llShp[28]? = some (.inl (0, 8)) := rfl
set_option maxRecDepth 100000 in
theorem sh_29 : llShp[29]? = some (.inl (0, 8)) := rfl
set_option maxRecDepth 100000 in
theorem sh_30 : llShp[30]? = some (.inr (5, [3, 33])) := rfl
set_option maxRecDepth 100000 in
theorem sh_31 : llShp[31]? = some (.inr (4, [0, 34, 35, 36, 37, 0, 38, 39, 40, 41, 42, 43])) := rfl
set_option maxRecDepth 100000 in
theorem sh_32 : llShp[32]? = some (.inl (0, 4)) := rfl
set_option maxRecDepth 100000 in
theorem sh_33 : llShp[33]? = some (.inl (0, 4)) := rfl
set_option maxRecDepth 100000 in
theorem sh_34 : llShp[34]? = some (.inl (0, 4)) := rfl
set_option maxRecDepth 100000 in
theorem sh_35 : llShp[35]? = some (.inl (0, 4)) := rfl
set_option maxRecDepth 100000 in
theorem sh_36 : llShp[36]? = some (.inl (1, 30)) := rfl
set_option maxRecDepth 100000 in
theorem sh_37 : llShp[37]? = some (.inl (0, 30)) := rfl
set_option maxRecDepth 100000 in
theorem sh_38 : llShp[38]? = some (.inl (0, 30)) := rfl
set_option maxRecDepth 100000 in
theorem sh_39 : llShp[39]? = some (.inl (0, 30)) := rfl
set_option maxRecDepth 100000 in
theorem sh_40 : llShp[40]? = some (.inl (0, 30)) := rfl
set_option maxRecDepth 100000 in
theorem sh_41 : llShp[41]? = some (.inl (0, 30)) := rfl
set_option maxRecDepth 100000 in
theorem sh_42 : llShp[42]? = some (.inr (0, [3, 5, 16])) := rfl
set_option maxRecDepth 100000 in
theorem sh_43 : llShp[43]? = some (.inr (7, [5, 16, 0, 46, 47, 48, 0, 49])) := rfl
set_option maxRecDepth 100000 in
theorem sh_44 : llShp[44]? = some (.inl (0, 12)) := rfl
set_option maxRecDepth 100000 in
theorem sh_45 : llShp[45]? = some (.inl (0, 30)) := rfl
set_option maxRecDepth 100000 in
theorem sh_46 : llShp[46]? = some (.inl (0, 30)) := rfl
set_option maxRecDepth 100000 in
theorem sh_47 : llShp[47]? = some (.inl (0, 96)) := rfl
set_option maxRecDepth 100000 in
theorem sh_48 : llShp[48]? = some (.inr (9, [5, 51, 0, 52, 53, 0, 0, 0])) := rfl
set_option maxRecDepth 100000 in
theorem sh_49 : llShp[49]? = some (.inl (0, 900)) := rfl
set_option maxRecDepth 100000 in
theorem sh_50 : llShp[50]? = some (.inl (0, 12)) := rfl
set_option maxRecDepth 100000 in
theorem sh_51 : llShp[51]? = some (.inl (0, 36)) := rfl
set_option maxRecDepth 100000 in
theorem sh_52 : llShp[52]? = some (.inr (3, [5, 50, 55, 56, 57, 0, 0, 0, 58, 59, 0, 60, 61, 62, 63, 64, 0])) := rfl
set_option maxRecDepth 100000 in
theorem sh_53 : llShp[53]? = some (.inl (0, 4)) := rfl
set_option maxRecDepth 100000 in
theorem sh_54 : llShp[54]? = some (.inl (0, 4)) := rfl
set_option maxRecDepth 100000 in
theorem sh_55 : llShp[55]? = some (.inl (0, 30)) := rfl
set_option maxRecDepth 100000 in
theorem sh_56 : llShp[56]? = some (.inl (0, 12)) := rfl
set_option maxRecDepth 100000 in
theorem sh_57 : llShp[57]? = some (.inl (0, 12)) := rfl
set_option maxRecDepth 100000 in
theorem sh_58 : llShp[58]? = some (.inl (0, 924)) := rfl
set_option maxRecDepth 100000 in
theorem sh_59 : llShp[59]? = some (.inl (0, 4096)) := rfl
set_option maxRecDepth 100000 in
theorem sh_60 : llShp[60]? = some (.inl (0, 13)) := rfl
set_option maxRecDepth 100000 in
theorem sh_61 : llShp[61]? = some (.inl (0, 3)) := rfl
set_option maxRecDepth 100000 in
theorem sh_62 : llShp[62]? = some (.inl (0, 3)) := rfl
set_option maxRecDepth 100000 in
theorem sh_63 : llShp[63]? = some (.inr (2, [5, 16, 45, 66, 67, 68, 69, 70])) := rfl
set_option maxRecDepth 100000 in
theorem sh_64 : llShp[64]? = some (.inl (0, 4)) := rfl
set_option maxRecDepth 100000 in
theorem sh_65 : llShp[65]? = some (.inl (0, 4)) := rfl
set_option maxRecDepth 100000 in
theorem sh_66 : llShp[66]? = some (.inl (0, 16)) := rfl
set_option maxRecDepth 100000 in
theorem sh_67 : llShp[67]? = some (.inl (0, 480)) := rfl
set_option maxRecDepth 100000 in
theorem sh_68 : llShp[68]? = some (.inl (0, 30)) := rfl
set_option maxRecDepth 100000 in
theorem sh_69 : llShp[69]? = some (.inr (11, [72, 0, 0, 73, 74, 75, 76, 77, 78, 0, 0, 0, 79, 80, 0, 81, 0, 0, 0, 0, 0, 0, 0, 0, 1, 0, 0, 0, 82, 0, 83, 84, 85, 86, 87, 88, 89, 90, 91, 92, 93, 0, 0, 0, 94, 95, 96, 97, 98, 99, 100, 101, 102, 0])) := rfl
set_option maxRecDepth 100000 in
theorem sh_70 : llShp[70]? = some (.inl (0, 32)) := rfl
set_option maxRecDepth 100000 in
theorem sh_71 : llShp[71]? = some (.inl (1, 60)) := rfl
set_option maxRecDepth 100000 in
theorem sh_72 : llShp[72]? = some (.inl (0, 60)) := rfl
set_option maxRecDepth 100000 in
theorem sh_73 : llShp[73]? = some (.inl (0, 60)) := rfl
set_option maxRecDepth 100000 in
theorem sh_74 : llShp[74]? = some (.inl (0, 60)) := rfl
set_option maxRecDepth 100000 in
theorem sh_75 : llShp[75]? = some (.inl (0, 60)) := rfl
set_option maxRecDepth 100000 in
theorem sh_76 : llShp[76]? = some (.inl (0, 60)) := rfl
set_option maxRecDepth 100000 in
theorem sh_77 : llShp[77]? = some (.inl (0, 1020)) := rfl
set_option maxRecDepth 100000 in
theorem sh_78 : llShp[78]? = some (.inl (0, 8160)) := rfl
set_option maxRecDepth 100000 in
theorem sh_79 : llShp[79]? = some (.inl (0, 700)) := rfl
set_option maxRecDepth 100000 in
theorem sh_80 : llShp[80]? = some (.inl (0, 360)) := rfl
set_option maxRecDepth 100000 in
theorem sh_81 : llShp[81]? = some (.inl (0, 30)) := rfl
set_option maxRecDepth 100000 in
theorem sh_82 : llShp[82]? = some (.inl (0, 30)) := rfl
set_option maxRecDepth 100000 in
theorem sh_83 : llShp[83]? = some (.inl (0, 30)) := rfl
set_option maxRecDepth 100000 in
theorem sh_84 : llShp[84]? = some (.inl (0, 30)) := rfl
set_option maxRecDepth 100000 in
theorem sh_85 : llShp[85]? = some (.inl (2, 30)) := rfl
set_option maxRecDepth 100000 in
theorem sh_86 : llShp[86]? = some (.inl (0, 48)) := rfl
set_option maxRecDepth 100000 in
theorem sh_87 : llShp[87]? = some (.inl (0, 4)) := rfl
set_option maxRecDepth 100000 in
theorem sh_88 : llShp[88]? = some (.inl (0, 12)) := rfl
set_option maxRecDepth 100000 in
theorem sh_89 : llShp[89]? = some (.inl (0, 144)) := rfl
set_option maxRecDepth 100000 in
theorem sh_90 : llShp[90]? = some (.inl (0, 12)) := rfl
set_option maxRecDepth 100000 in
theorem sh_91 : llShp[91]? = some (.inl (0, 12)) := rfl
set_option maxRecDepth 100000 in
theorem sh_92 : llShp[92]? = some (.inl (3, 30)) := rfl
set_option maxRecDepth 100000 in
theorem sh_93 : llShp[93]? = some (.inl (3, 30)) := rfl
set_option maxRecDepth 100000 in
theorem sh_94 : llShp[94]? = some (.inl (3, 30)) := rfl
set_option maxRecDepth 100000 in
theorem sh_95 : llShp[95]? = some (.inl (3, 30)) := rfl
set_option maxRecDepth 100000 in
theorem sh_96 : llShp[96]? = some (.inl (0, 48)) := rfl
set_option maxRecDepth 100000 in
theorem sh_97 : llShp[97]? = some (.inl (0, 4)) := rfl
set_option maxRecDepth 100000 in
theorem sh_98 : llShp[98]? = some (.inl (0, 4)) := rfl
set_option maxRecDepth 100000 in
theorem sh_99 : llShp[99]? = some (.inl (0, 4)) := rfl
set_option maxRecDepth 100000 in
theorem sh_100 : llShp[100]? = some (.inl (0, 200)) := rfl
set_option maxRecDepth 100000 in
theorem wd_1 : (Cond.initialized "LeagueLevels") ∈ llTb := llTb_of (List.mem_append_right _ (List.mem_of_getElem? (i := 1) (by decide +kernel))) (by decide)
set_option maxRecDepth 100000 in
theorem wd_2 : (Cond.initialized "LeagueLevels$Tape") ∈ llTb := llTb_of (List.mem_append_right _ (List.mem_of_getElem? (i := 2) (by decide +kernel))) (by decide)
set_option maxRecDepth 100000 in
theorem wd_3 : (Cond.initialized "LeagueLevels$Pyramid") ∈ llTb := llTb_of (List.mem_append_right _ (List.mem_of_getElem? (i := 3) (by decide +kernel))) (by decide)
set_option maxRecDepth 100000 in
theorem wd_4 : (Cond.initialized "LeagueLevels$Season") ∈ llTb := llTb_of (List.mem_append_right _ (List.mem_of_getElem? (i := 4) (by decide +kernel))) (by decide)
set_option maxRecDepth 100000 in
theorem wd_5 : (Cond.initialized "java/util/Arrays") ∈ llTb := llTb_of (List.mem_append_right _ (List.mem_of_getElem? (i := 5) (by decide +kernel))) (by decide)
set_option maxRecDepth 100000 in
theorem wd_6 : (Cond.initialized "LeagueLevels$Deeds") ∈ llTb := llTb_of (List.mem_append_right _ (List.mem_of_getElem? (i := 6) (by decide +kernel))) (by decide)
set_option maxRecDepth 100000 in
theorem wd_7 : (Cond.initialized "LeagueLevels$PyramidText") ∈ llTb := llTb_of (List.mem_append_right _ (List.mem_of_getElem? (i := 7) (by decide +kernel))) (by decide)
set_option maxRecDepth 100000 in
theorem wd_8 : (Cond.initialized "LeagueLevels$DayText") ∈ llTb := llTb_of (List.mem_append_right _ (List.mem_of_getElem? (i := 8) (by decide +kernel))) (by decide)
set_option maxRecDepth 100000 in
theorem wd_9 : (Cond.initialized "LeagueLevels$Table") ∈ llTb := llTb_of (List.mem_append_right _ (List.mem_of_getElem? (i := 9) (by decide +kernel))) (by decide)
set_option maxRecDepth 100000 in
theorem wd_10 : (Cond.initialized "LeagueLevels$Travel") ∈ llTb := llTb_of (List.mem_append_right _ (List.mem_of_getElem? (i := 10) (by decide +kernel))) (by decide)
set_option maxRecDepth 100000 in
theorem wd_11 : (Cond.initialized "LeagueLevels$Parting") ∈ llTb := llTb_of (List.mem_append_right _ (List.mem_of_getElem? (i := 11) (by decide +kernel))) (by decide)
set_option maxRecDepth 100000 in
theorem wd_12 : (Cond.initialized "LeagueLevels$Ending") ∈ llTb := llTb_of (List.mem_append_right _ (List.mem_of_getElem? (i := 12) (by decide +kernel))) (by decide)
set_option maxRecDepth 100000 in
theorem wd_13 : (Cond.initialized "LeagueLevelsModel") ∈ llTb := llTb_of (List.mem_append_right _ (List.mem_of_getElem? (i := 13) (by decide +kernel))) (by decide)
set_option maxRecDepth 100000 in
theorem wd_14 : (Cond.initialized "java/lang/Math") ∈ llTb := llTb_of (List.mem_append_right _ (List.mem_of_getElem? (i := 14) (by decide +kernel))) (by decide)
set_option maxRecDepth 100000 in
theorem wd_15 : (Cond.initialized "java/lang/System") ∈ llTb := llTb_of (List.mem_append_right _ (List.mem_of_getElem? (i := 15) (by decide +kernel))) (by decide)
set_option maxRecDepth 100000 in
theorem wd_16 : (Cond.initialized "java/lang/String") ∈ llTb := llTb_of (List.mem_append_right _ (List.mem_of_getElem? (i := 16) (by decide +kernel))) (by decide)
set_option maxRecDepth 100000 in
theorem wd_17 : (Cond.initialized "java/lang/StringLatin1") ∈ llTb := llTb_of (List.mem_append_right _ (List.mem_of_getElem? (i := 17) (by decide +kernel))) (by decide)
set_option maxRecDepth 100000 in
theorem wd_18 : (Cond.initialized "jdk/internal/util/Preconditions") ∈ llTb := llTb_of (List.mem_append_right _ (List.mem_of_getElem? (i := 18) (by decide +kernel))) (by decide)
set_option maxRecDepth 100000 in
theorem wd_21 : (Cond.initialized "java/lang/Integer") ∈ llTb := llTb_of (List.mem_append_right _ (List.mem_of_getElem? (i := 21) (by decide +kernel))) (by decide)
set_option maxRecDepth 100000 in
theorem wd_22 : (Cond.initialized "LeagueLevels$Bits") ∈ llTb := llTb_of (List.mem_append_right _ (List.mem_of_getElem? (i := 22) (by decide +kernel))) (by decide)
set_option maxRecDepth 100000 in
theorem wd_23 : (Cond.initialized "java/lang/Float") ∈ llTb := llTb_of (List.mem_append_right _ (List.mem_of_getElem? (i := 23) (by decide +kernel))) (by decide)
set_option maxRecDepth 100000 in
theorem wd_24 : (Cond.initialized "java/lang/Double") ∈ llTb := llTb_of (List.mem_append_right _ (List.mem_of_getElem? (i := 24) (by decide +kernel))) (by decide)
set_option maxRecDepth 100000 in
theorem wd_39 : (Cond.fieldLink "LeagueLevels$Tape" (11 : Nat) "LeagueLevels$Tape" "bytes" "[I") ∈ llTb := llTb_of (List.mem_append_right _ (List.mem_of_getElem? (i := 39) (by decide +kernel))) (by decide)
set_option maxRecDepth 100000 in
theorem wd_40 : (Cond.fieldLink "LeagueLevels" (91 : Nat) "LeagueLevels$Tape" "length" "I") ∈ llTb := llTb_of (List.mem_append_right _ (List.mem_of_getElem? (i := 40) (by decide +kernel))) (by decide)
set_option maxRecDepth 100000 in
theorem wd_41 : (Cond.fieldLink "LeagueLevels$Tape" (19 : Nat) "LeagueLevels$Tape" "length" "I") ∈ llTb := llTb_of (List.mem_append_right _ (List.mem_of_getElem? (i := 41) (by decide +kernel))) (by decide)
set_option maxRecDepth 100000 in
theorem wd_42 : (Cond.fieldLink "LeagueLevels$DayText" (31 : Nat) "LeagueLevels$Tape" "kind" "I") ∈ llTb := llTb_of (List.mem_append_right _ (List.mem_of_getElem? (i := 42) (by decide +kernel))) (by decide)
set_option maxRecDepth 100000 in
theorem wd_43 : (Cond.fieldLink "LeagueLevels$PyramidText" (37 : Nat) "LeagueLevels$Tape" "kind" "I") ∈ llTb := llTb_of (List.mem_append_right _ (List.mem_of_getElem? (i := 43) (by decide +kernel))) (by decide)
set_option maxRecDepth 100000 in
theorem wd_44 : (Cond.fieldLink "LeagueLevels$Tape" (31 : Nat) "LeagueLevels$Tape" "kind" "I") ∈ llTb := llTb_of (List.mem_append_right _ (List.mem_of_getElem? (i := 44) (by decide +kernel))) (by decide)
set_option maxRecDepth 100000 in
theorem wd_45 : (Cond.fieldLink "LeagueLevels" (148 : Nat) "LeagueLevels$Tape" "kind" "I") ∈ llTb := llTb_of (List.mem_append_right _ (List.mem_of_getElem? (i := 45) (by decide +kernel))) (by decide)
set_option maxRecDepth 100000 in
theorem wd_46 : (Cond.fieldLink "LeagueLevels$Tape" (28 : Nat) "LeagueLevels$Tape" "place" "I") ∈ llTb := llTb_of (List.mem_append_right _ (List.mem_of_getElem? (i := 46) (by decide +kernel))) (by decide)
set_option maxRecDepth 100000 in
theorem wd_47 : (Cond.fieldLink "LeagueLevels$Tape" (47 : Nat) "LeagueLevels$Tape" "number" "I") ∈ llTb := llTb_of (List.mem_append_right _ (List.mem_of_getElem? (i := 47) (by decide +kernel))) (by decide)
set_option maxRecDepth 100000 in
theorem wd_48 : (Cond.fieldLink "LeagueLevels$Tape" (34 : Nat) "LeagueLevels$Tape" "sign" "I") ∈ llTb := llTb_of (List.mem_append_right _ (List.mem_of_getElem? (i := 48) (by decide +kernel))) (by decide)
set_option maxRecDepth 100000 in
theorem wd_49 : (Cond.fieldLink "LeagueLevels$DayText" (73 : Nat) "LeagueLevels$Tape" "word" "J") ∈ llTb := llTb_of (List.mem_append_right _ (List.mem_of_getElem? (i := 49) (by decide +kernel))) (by decide)
set_option maxRecDepth 100000 in
theorem wd_50 : (Cond.fieldLink "LeagueLevels$PyramidText" (100 : Nat) "LeagueLevels$Tape" "word" "J") ∈ llTb := llTb_of (List.mem_append_right _ (List.mem_of_getElem? (i := 50) (by decide +kernel))) (by decide)
set_option maxRecDepth 100000 in
theorem wd_51 : (Cond.fieldLink "LeagueLevels$Tape" (43 : Nat) "LeagueLevels$Tape" "word" "J") ∈ llTb := llTb_of (List.mem_append_right _ (List.mem_of_getElem? (i := 51) (by decide +kernel))) (by decide)
set_option maxRecDepth 100000 in
theorem wd_52 : (Cond.fieldLink "LeagueLevels" (151 : Nat) "LeagueLevels$Tape" "word" "J") ∈ llTb := llTb_of (List.mem_append_right _ (List.mem_of_getElem? (i := 52) (by decide +kernel))) (by decide)
set_option maxRecDepth 100000 in
theorem wd_53 : (Cond.fieldLink "LeagueLevels$Tape" (25 : Nat) "LeagueLevels$Tape" "fault" "I") ∈ llTb := llTb_of (List.mem_append_right _ (List.mem_of_getElem? (i := 53) (by decide +kernel))) (by decide)
set_option maxRecDepth 100000 in
theorem wd_54 : (Cond.fieldLink "LeagueLevels" (136 : Nat) "LeagueLevels$Tape" "fault" "I") ∈ llTb := llTb_of (List.mem_append_right _ (List.mem_of_getElem? (i := 54) (by decide +kernel))) (by decide)
set_option maxRecDepth 100000 in
theorem wd_55 : (Cond.fieldLink "LeagueLevels$Tape" (15 : Nat) "LeagueLevels$Tape" "faultPlace" "I") ∈ llTb := llTb_of (List.mem_append_right _ (List.mem_of_getElem? (i := 55) (by decide +kernel))) (by decide)
set_option maxRecDepth 100000 in
theorem wd_56 : (Cond.fieldLink "LeagueLevels" (139 : Nat) "LeagueLevels$Tape" "faultPlace" "I") ∈ llTb := llTb_of (List.mem_append_right _ (List.mem_of_getElem? (i := 56) (by decide +kernel))) (by decide)
set_option maxRecDepth 100000 in
theorem wd_57 : (Cond.fieldLink "LeagueLevels$Tape" (22 : Nat) "LeagueLevels$Tape" "at" "I") ∈ llTb := llTb_of (List.mem_append_right _ (List.mem_of_getElem? (i := 57) (by decide +kernel))) (by decide)
set_option maxRecDepth 100000 in
theorem wd_86 : (Cond.fieldLink "LeagueLevels$Pyramid" (43 : Nat) "LeagueLevels$Pyramid" "levels" "I") ∈ llTb := llTb_of (List.mem_append_right _ (List.mem_of_getElem? (i := 86) (by decide +kernel))) (by decide)
set_option maxRecDepth 100000 in
theorem wd_87 : (Cond.fieldLink "LeagueLevels$PyramidText" (22 : Nat) "LeagueLevels$Pyramid" "levels" "I") ∈ llTb := llTb_of (List.mem_append_right _ (List.mem_of_getElem? (i := 87) (by decide +kernel))) (by decide)
set_option maxRecDepth 100000 in
theorem wd_88 : (Cond.fieldLink "LeagueLevels$Parting" (73 : Nat) "LeagueLevels$Pyramid" "levels" "I") ∈ llTb := llTb_of (List.mem_append_right _ (List.mem_of_getElem? (i := 88) (by decide +kernel))) (by decide)
set_option maxRecDepth 100000 in
theorem wd_89 : (Cond.fieldLink "LeagueLevels$Ending" (69 : Nat) "LeagueLevels$Pyramid" "levels" "I") ∈ llTb := llTb_of (List.mem_append_right _ (List.mem_of_getElem? (i := 89) (by decide +kernel))) (by decide)
set_option maxRecDepth 100000 in
theorem wd_90 : (Cond.fieldLink "LeagueLevels" (373 : Nat) "LeagueLevels$Pyramid" "levels" "I") ∈ llTb := llTb_of (List.mem_append_right _ (List.mem_of_getElem? (i := 90) (by decide +kernel))) (by decide)
set_option maxRecDepth 100000 in
theorem wd_91 : (Cond.fieldLink "LeagueLevels$Pyramid" (9 : Nat) "LeagueLevels$Pyramid" "divisions" "[I") ∈ llTb := llTb_of (List.mem_append_right _ (List.mem_of_getElem? (i := 91) (by decide +kernel))) (by decide)
set_option maxRecDepth 100000 in
theorem wd_92 : (Cond.fieldLink "LeagueLevels$PyramidText" (84 : Nat) "LeagueLevels$Pyramid" "divisions" "[I") ∈ llTb := llTb_of (List.mem_append_right _ (List.mem_of_getElem? (i := 92) (by decide +kernel))) (by decide)
set_option maxRecDepth 100000 in
theorem wd_93 : (Cond.fieldLink "LeagueLevels$Parting" (97 : Nat) "LeagueLevels$Pyramid" "divisions" "[I") ∈ llTb := llTb_of (List.mem_append_right _ (List.mem_of_getElem? (i := 93) (by decide +kernel))) (by decide)
set_option maxRecDepth 100000 in
theorem wd_94 : (Cond.fieldLink "LeagueLevels$Travel" (53 : Nat) "LeagueLevels$Pyramid" "divisions" "[I") ∈ llTb := llTb_of (List.mem_append_right _ (List.mem_of_getElem? (i := 94) (by decide +kernel))) (by decide)
set_option maxRecDepth 100000 in
theorem wd_95 : (Cond.fieldLink "LeagueLevels" (270 : Nat) "LeagueLevels$Pyramid" "divisions" "[I") ∈ llTb := llTb_of (List.mem_append_right _ (List.mem_of_getElem? (i := 95) (by decide +kernel))) (by decide)
set_option maxRecDepth 100000 in
theorem wd_96 : (Cond.fieldLink "LeagueLevels$Pyramid" (15 : Nat) "LeagueLevels$Pyramid" "size" "[I") ∈ llTb := llTb_of (List.mem_append_right _ (List.mem_of_getElem? (i := 96) (by decide +kernel))) (by decide)
set_option maxRecDepth 100000 in
theorem wd_97 : (Cond.fieldLink "LeagueLevels$PyramidText" (88 : Nat) "LeagueLevels$Pyramid" "size" "[I") ∈ llTb := llTb_of (List.mem_append_right _ (List.mem_of_getElem? (i := 97) (by decide +kernel))) (by decide)
set_option maxRecDepth 100000 in
theorem wd_98 : (Cond.fieldLink "LeagueLevels$Parting" (92 : Nat) "LeagueLevels$Pyramid" "size" "[I") ∈ llTb := llTb_of (List.mem_append_right _ (List.mem_of_getElem? (i := 98) (by decide +kernel))) (by decide)
set_option maxRecDepth 100000 in
theorem wd_99 : (Cond.fieldLink "LeagueLevels$Table" (83 : Nat) "LeagueLevels$Pyramid" "size" "[I") ∈ llTb := llTb_of (List.mem_append_right _ (List.mem_of_getElem? (i := 99) (by decide +kernel))) (by decide)
set_option maxRecDepth 100000 in
theorem wd_100 : (Cond.fieldLink "LeagueLevels" (273 : Nat) "LeagueLevels$Pyramid" "size" "[I") ∈ llTb := llTb_of (List.mem_append_right _ (List.mem_of_getElem? (i := 100) (by decide +kernel))) (by decide)
set_option maxRecDepth 100000 in
theorem wd_101 : (Cond.fieldLink "LeagueLevels$Pyramid" (18 : Nat) "LeagueLevels$Pyramid" "down" "[I") ∈ llTb := llTb_of (List.mem_append_right _ (List.mem_of_getElem? (i := 101) (by decide +kernel))) (by decide)
set_option maxRecDepth 100000 in
theorem wd_102 : (Cond.fieldLink "LeagueLevels$PyramidText" (91 : Nat) "LeagueLevels$Pyramid" "down" "[I") ∈ llTb := llTb_of (List.mem_append_right _ (List.mem_of_getElem? (i := 102) (by decide +kernel))) (by decide)
set_option maxRecDepth 100000 in
theorem wd_103 : (Cond.fieldLink "LeagueLevels$Ending" (104 : Nat) "LeagueLevels$Pyramid" "down" "[I") ∈ llTb := llTb_of (List.mem_append_right _ (List.mem_of_getElem? (i := 103) (by decide +kernel))) (by decide)
set_option maxRecDepth 100000 in
theorem wd_104 : (Cond.fieldLink "LeagueLevels" (276 : Nat) "LeagueLevels$Pyramid" "down" "[I") ∈ llTb := llTb_of (List.mem_append_right _ (List.mem_of_getElem? (i := 104) (by decide +kernel))) (by decide)
set_option maxRecDepth 100000 in
theorem wd_105 : (Cond.fieldLink "LeagueLevels$Pyramid" (21 : Nat) "LeagueLevels$Pyramid" "need" "[I") ∈ llTb := llTb_of (List.mem_append_right _ (List.mem_of_getElem? (i := 105) (by decide +kernel))) (by decide)
set_option maxRecDepth 100000 in
theorem wd_106 : (Cond.fieldLink "LeagueLevels$Ending" (63 : Nat) "LeagueLevels$Pyramid" "need" "[I") ∈ llTb := llTb_of (List.mem_append_right _ (List.mem_of_getElem? (i := 106) (by decide +kernel))) (by decide)
set_option maxRecDepth 100000 in
theorem wd_107 : (Cond.fieldLink "LeagueLevels$PyramidText" (94 : Nat) "LeagueLevels$Pyramid" "need" "[I") ∈ llTb := llTb_of (List.mem_append_right _ (List.mem_of_getElem? (i := 107) (by decide +kernel))) (by decide)
set_option maxRecDepth 100000 in
theorem wd_108 : (Cond.fieldLink "LeagueLevels" (279 : Nat) "LeagueLevels$Pyramid" "need" "[I") ∈ llTb := llTb_of (List.mem_append_right _ (List.mem_of_getElem? (i := 108) (by decide +kernel))) (by decide)
set_option maxRecDepth 100000 in
theorem wd_109 : (Cond.fieldLink "LeagueLevels$Travel" (25 : Nat) "LeagueLevels$Pyramid" "clubs" "I") ∈ llTb := llTb_of (List.mem_append_right _ (List.mem_of_getElem? (i := 109) (by decide +kernel))) (by decide)
set_option maxRecDepth 100000 in
theorem wd_110 : (Cond.fieldLink "LeagueLevels$Ending" (39 : Nat) "LeagueLevels$Pyramid" "clubs" "I") ∈ llTb := llTb_of (List.mem_append_right _ (List.mem_of_getElem? (i := 110) (by decide +kernel))) (by decide)
set_option maxRecDepth 100000 in
theorem wd_111 : (Cond.fieldLink "LeagueLevels$PyramidText" (26 : Nat) "LeagueLevels$Pyramid" "clubs" "I") ∈ llTb := llTb_of (List.mem_append_right _ (List.mem_of_getElem? (i := 111) (by decide +kernel))) (by decide)
set_option maxRecDepth 100000 in
theorem wd_112 : (Cond.fieldLink "LeagueLevels$Pyramid" (53 : Nat) "LeagueLevels$Pyramid" "clubs" "I") ∈ llTb := llTb_of (List.mem_append_right _ (List.mem_of_getElem? (i := 112) (by decide +kernel))) (by decide)
set_option maxRecDepth 100000 in
theorem wd_113 : (Cond.fieldLink "LeagueLevels$Parting" (56 : Nat) "LeagueLevels$Pyramid" "clubs" "I") ∈ llTb := llTb_of (List.mem_append_right _ (List.mem_of_getElem? (i := 113) (by decide +kernel))) (by decide)
set_option maxRecDepth 100000 in
theorem wd_114 : (Cond.fieldLink "LeagueLevels" (124 : Nat) "LeagueLevels$Pyramid" "clubs" "I") ∈ llTb := llTb_of (List.mem_append_right _ (List.mem_of_getElem? (i := 114) (by decide +kernel))) (by decide)
set_option maxRecDepth 100000 in
theorem wd_115 : (Cond.fieldLink "LeagueLevels$Table" (89 : Nat) "LeagueLevels$Pyramid" "clubs" "I") ∈ llTb := llTb_of (List.mem_append_right _ (List.mem_of_getElem? (i := 115) (by decide +kernel))) (by decide)
set_option maxRecDepth 100000 in
theorem wd_116 : (Cond.fieldLink "LeagueLevels$Season" (82 : Nat) "LeagueLevels$Pyramid" "clubs" "I") ∈ llTb := llTb_of (List.mem_append_right _ (List.mem_of_getElem? (i := 116) (by decide +kernel))) (by decide)
set_option maxRecDepth 100000 in
theorem wd_117 : (Cond.fieldLink "LeagueLevels$Pyramid" (24 : Nat) "LeagueLevels$Pyramid" "name" "[J") ∈ llTb := llTb_of (List.mem_append_right _ (List.mem_of_getElem? (i := 117) (by decide +kernel))) (by decide)
set_option maxRecDepth 100000 in
theorem wd_118 : (Cond.fieldLink "LeagueLevels$PyramidText" (108 : Nat) "LeagueLevels$Pyramid" "name" "[J") ∈ llTb := llTb_of (List.mem_append_right _ (List.mem_of_getElem? (i := 118) (by decide +kernel))) (by decide)
set_option maxRecDepth 100000 in
theorem wd_119 : (Cond.fieldLink "LeagueLevels$Table" (101 : Nat) "LeagueLevels$Pyramid" "name" "[J") ∈ llTb := llTb_of (List.mem_append_right _ (List.mem_of_getElem? (i := 119) (by decide +kernel))) (by decide)
set_option maxRecDepth 100000 in
theorem wd_120 : (Cond.fieldLink "LeagueLevels$Pyramid" (28 : Nat) "LeagueLevels$Pyramid" "x" "[I") ∈ llTb := llTb_of (List.mem_append_right _ (List.mem_of_getElem? (i := 120) (by decide +kernel))) (by decide)
set_option maxRecDepth 100000 in
theorem wd_121 : (Cond.fieldLink "LeagueLevels$Travel" (31 : Nat) "LeagueLevels$Pyramid" "x" "[I") ∈ llTb := llTb_of (List.mem_append_right _ (List.mem_of_getElem? (i := 121) (by decide +kernel))) (by decide)
set_option maxRecDepth 100000 in
theorem wd_122 : (Cond.fieldLink "LeagueLevels$PyramidText" (112 : Nat) "LeagueLevels$Pyramid" "x" "[I") ∈ llTb := llTb_of (List.mem_append_right _ (List.mem_of_getElem? (i := 122) (by decide +kernel))) (by decide)
set_option maxRecDepth 100000 in
theorem wd_123 : (Cond.fieldLink "LeagueLevels" (205 : Nat) "LeagueLevels$Pyramid" "x" "[I") ∈ llTb := llTb_of (List.mem_append_right _ (List.mem_of_getElem? (i := 123) (by decide +kernel))) (by decide)
set_option maxRecDepth 100000 in
theorem wd_124 : (Cond.fieldLink "LeagueLevels$Pyramid" (31 : Nat) "LeagueLevels$Pyramid" "y" "[I") ∈ llTb := llTb_of (List.mem_append_right _ (List.mem_of_getElem? (i := 124) (by decide +kernel))) (by decide)
set_option maxRecDepth 100000 in
theorem wd_125 : (Cond.fieldLink "LeagueLevels$Travel" (34 : Nat) "LeagueLevels$Pyramid" "y" "[I") ∈ llTb := llTb_of (List.mem_append_right _ (List.mem_of_getElem? (i := 125) (by decide +kernel))) (by decide)
set_option maxRecDepth 100000 in
theorem wd_126 : (Cond.fieldLink "LeagueLevels$PyramidText" (115 : Nat) "LeagueLevels$Pyramid" "y" "[I") ∈ llTb := llTb_of (List.mem_append_right _ (List.mem_of_getElem? (i := 126) (by decide +kernel))) (by decide)
set_option maxRecDepth 100000 in
theorem wd_127 : (Cond.fieldLink "LeagueLevels" (208 : Nat) "LeagueLevels$Pyramid" "y" "[I") ∈ llTb := llTb_of (List.mem_append_right _ (List.mem_of_getElem? (i := 127) (by decide +kernel))) (by decide)
set_option maxRecDepth 100000 in
theorem wd_128 : (Cond.fieldLink "LeagueLevels$Pyramid" (34 : Nat) "LeagueLevels$Pyramid" "grade" "[I") ∈ llTb := llTb_of (List.mem_append_right _ (List.mem_of_getElem? (i := 128) (by decide +kernel))) (by decide)
set_option maxRecDepth 100000 in
theorem wd_129 : (Cond.fieldLink "LeagueLevels$Ending" (60 : Nat) "LeagueLevels$Pyramid" "grade" "[I") ∈ llTb := llTb_of (List.mem_append_right _ (List.mem_of_getElem? (i := 129) (by decide +kernel))) (by decide)
set_option maxRecDepth 100000 in
theorem wd_130 : (Cond.fieldLink "LeagueLevels$Deeds" (62 : Nat) "LeagueLevels$Pyramid" "grade" "[I") ∈ llTb := llTb_of (List.mem_append_right _ (List.mem_of_getElem? (i := 130) (by decide +kernel))) (by decide)
set_option maxRecDepth 100000 in
theorem wd_131 : (Cond.fieldLink "LeagueLevels$PyramidText" (120 : Nat) "LeagueLevels$Pyramid" "grade" "[I") ∈ llTb := llTb_of (List.mem_append_right _ (List.mem_of_getElem? (i := 131) (by decide +kernel))) (by decide)
set_option maxRecDepth 100000 in
theorem wd_132 : (Cond.fieldLink "LeagueLevels" (179 : Nat) "LeagueLevels$Pyramid" "grade" "[I") ∈ llTb := llTb_of (List.mem_append_right _ (List.mem_of_getElem? (i := 132) (by decide +kernel))) (by decide)
set_option maxRecDepth 100000 in
theorem wd_133 : (Cond.fieldLink "LeagueLevels$Pyramid" (37 : Nat) "LeagueLevels$Pyramid" "level" "[I") ∈ llTb := llTb_of (List.mem_append_right _ (List.mem_of_getElem? (i := 133) (by decide +kernel))) (by decide)
set_option maxRecDepth 100000 in
theorem wd_134 : (Cond.fieldLink "LeagueLevels$Ending" (54 : Nat) "LeagueLevels$Pyramid" "level" "[I") ∈ llTb := llTb_of (List.mem_append_right _ (List.mem_of_getElem? (i := 134) (by decide +kernel))) (by decide)
set_option maxRecDepth 100000 in
theorem wd_135 : (Cond.fieldLink "LeagueLevels$Parting" (62 : Nat) "LeagueLevels$Pyramid" "level" "[I") ∈ llTb := llTb_of (List.mem_append_right _ (List.mem_of_getElem? (i := 135) (by decide +kernel))) (by decide)
set_option maxRecDepth 100000 in
theorem wd_136 : (Cond.fieldLink "LeagueLevels$PyramidText" (126 : Nat) "LeagueLevels$Pyramid" "level" "[I") ∈ llTb := llTb_of (List.mem_append_right _ (List.mem_of_getElem? (i := 136) (by decide +kernel))) (by decide)
set_option maxRecDepth 100000 in
theorem wd_137 : (Cond.fieldLink "LeagueLevels$Table" (86 : Nat) "LeagueLevels$Pyramid" "level" "[I") ∈ llTb := llTb_of (List.mem_append_right _ (List.mem_of_getElem? (i := 137) (by decide +kernel))) (by decide)
set_option maxRecDepth 100000 in
theorem wd_138 : (Cond.fieldLink "LeagueLevels" (176 : Nat) "LeagueLevels$Pyramid" "level" "[I") ∈ llTb := llTb_of (List.mem_append_right _ (List.mem_of_getElem? (i := 138) (by decide +kernel))) (by decide)
set_option maxRecDepth 100000 in
theorem wd_139 : (Cond.fieldLink "LeagueLevels$Pyramid" (40 : Nat) "LeagueLevels$Pyramid" "division" "[I") ∈ llTb := llTb_of (List.mem_append_right _ (List.mem_of_getElem? (i := 139) (by decide +kernel))) (by decide)
set_option maxRecDepth 100000 in
theorem wd_140 : (Cond.fieldLink "LeagueLevels$Table" (55 : Nat) "LeagueLevels$Pyramid" "division" "[I") ∈ llTb := llTb_of (List.mem_append_right _ (List.mem_of_getElem? (i := 140) (by decide +kernel))) (by decide)
set_option maxRecDepth 100000 in
theorem wd_141 : (Cond.fieldLink "LeagueLevels$PyramidText" (129 : Nat) "LeagueLevels$Pyramid" "division" "[I") ∈ llTb := llTb_of (List.mem_append_right _ (List.mem_of_getElem? (i := 141) (by decide +kernel))) (by decide)
set_option maxRecDepth 100000 in
theorem wd_142 : (Cond.fieldLink "LeagueLevels$Parting" (79 : Nat) "LeagueLevels$Pyramid" "division" "[I") ∈ llTb := llTb_of (List.mem_append_right _ (List.mem_of_getElem? (i := 142) (by decide +kernel))) (by decide)
set_option maxRecDepth 100000 in
theorem wd_143 : (Cond.fieldLink "LeagueLevels$Travel" (66 : Nat) "LeagueLevels$Pyramid" "division" "[I") ∈ llTb := llTb_of (List.mem_append_right _ (List.mem_of_getElem? (i := 143) (by decide +kernel))) (by decide)
set_option maxRecDepth 100000 in
theorem wd_144 : (Cond.fieldLink "LeagueLevels" (211 : Nat) "LeagueLevels$Pyramid" "division" "[I") ∈ llTb := llTb_of (List.mem_append_right _ (List.mem_of_getElem? (i := 144) (by decide +kernel))) (by decide)
set_option maxRecDepth 100000 in
theorem wd_177 : (Cond.methodLink "LeagueLevels$Season" (21 : Nat) ({ cls := "java/util/Arrays", name := "fill", desc := "([II)V" } : MethodName)) ∈ llTb := llTb_of (List.mem_append_right _ (List.mem_of_getElem? (i := 177) (by decide +kernel))) (by decide)
set_option maxRecDepth 100000 in
theorem wd_178 : (Cond.static ({ cls := "java/util/Arrays", name := "fill", desc := "([II)V" } : MethodName)) ∈ llTb := llTb_of (List.mem_append_right _ (List.mem_of_getElem? (i := 178) (by decide +kernel))) (by decide)
set_option maxRecDepth 100000 in
theorem wd_179 : (Cond.code ({ cls := "java/util/Arrays", name := "fill", desc := "([II)V" } : MethodName) prog_24_method_103_code (4 : Nat) (Option.none : Option ClassFile.FieldType)) ∈ llTb := llTb_of (List.mem_append_right _ (List.mem_of_getElem? (i := 179) (by exact rfl))) (by decide)
set_option maxRecDepth 100000 in
theorem wd_180 : (Cond.fieldLink "LeagueLevels" (118 : Nat) "LeagueLevels$Season" "number" "I") ∈ llTb := llTb_of (List.mem_append_right _ (List.mem_of_getElem? (i := 180) (by decide +kernel))) (by decide)
set_option maxRecDepth 100000 in
theorem wd_181 : (Cond.fieldLink "LeagueLevels$Season" (55 : Nat) "LeagueLevels$Season" "count" "I") ∈ llTb := llTb_of (List.mem_append_right _ (List.mem_of_getElem? (i := 181) (by decide +kernel))) (by decide)
set_option maxRecDepth 100000 in
theorem wd_182 : (Cond.fieldLink "LeagueLevels" (127 : Nat) "LeagueLevels$Season" "count" "I") ∈ llTb := llTb_of (List.mem_append_right _ (List.mem_of_getElem? (i := 182) (by decide +kernel))) (by decide)
set_option maxRecDepth 100000 in
theorem wd_183 : (Cond.fieldLink "LeagueLevels$Season" (11 : Nat) "LeagueLevels$Season" "home" "[I") ∈ llTb := llTb_of (List.mem_append_right _ (List.mem_of_getElem? (i := 183) (by decide +kernel))) (by decide)
set_option maxRecDepth 100000 in
theorem wd_184 : (Cond.fieldLink "LeagueLevels" (349 : Nat) "LeagueLevels$Season" "home" "[I") ∈ llTb := llTb_of (List.mem_append_right _ (List.mem_of_getElem? (i := 184) (by decide +kernel))) (by decide)
set_option maxRecDepth 100000 in
theorem wd_185 : (Cond.fieldLink "LeagueLevels$Season" (15 : Nat) "LeagueLevels$Season" "away" "[I") ∈ llTb := llTb_of (List.mem_append_right _ (List.mem_of_getElem? (i := 185) (by decide +kernel))) (by decide)
set_option maxRecDepth 100000 in
theorem wd_186 : (Cond.fieldLink "LeagueLevels" (346 : Nat) "LeagueLevels$Season" "away" "[I") ∈ llTb := llTb_of (List.mem_append_right _ (List.mem_of_getElem? (i := 186) (by decide +kernel))) (by decide)
set_option maxRecDepth 100000 in
theorem wd_187 : (Cond.fieldLink "LeagueLevels$Season" (18 : Nat) "LeagueLevels$Season" "score" "[I") ∈ llTb := llTb_of (List.mem_append_right _ (List.mem_of_getElem? (i := 187) (by decide +kernel))) (by decide)
set_option maxRecDepth 100000 in
theorem wd_188 : (Cond.fieldLink "LeagueLevels$Season" (27 : Nat) "LeagueLevels$Season" "resigned" "[I") ∈ llTb := llTb_of (List.mem_append_right _ (List.mem_of_getElem? (i := 188) (by decide +kernel))) (by decide)
set_option maxRecDepth 100000 in
theorem wd_189 : (Cond.fieldLink "LeagueLevels$Ending" (45 : Nat) "LeagueLevels$Season" "resigned" "[I") ∈ llTb := llTb_of (List.mem_append_right _ (List.mem_of_getElem? (i := 189) (by decide +kernel))) (by decide)
set_option maxRecDepth 100000 in
theorem wd_190 : (Cond.fieldLink "LeagueLevels$Deeds" (53 : Nat) "LeagueLevels$Season" "resigned" "[I") ∈ llTb := llTb_of (List.mem_append_right _ (List.mem_of_getElem? (i := 190) (by decide +kernel))) (by decide)
set_option maxRecDepth 100000 in
theorem wd_191 : (Cond.fieldLink "LeagueLevels" (163 : Nat) "LeagueLevels$Season" "resigned" "[I") ∈ llTb := llTb_of (List.mem_append_right _ (List.mem_of_getElem? (i := 191) (by decide +kernel))) (by decide)
set_option maxRecDepth 100000 in
theorem wd_192 : (Cond.fieldLink "LeagueLevels$Season" (30 : Nat) "LeagueLevels$Season" "refused" "[I") ∈ llTb := llTb_of (List.mem_append_right _ (List.mem_of_getElem? (i := 192) (by decide +kernel))) (by decide)
set_option maxRecDepth 100000 in
theorem wd_193 : (Cond.fieldLink "LeagueLevels$Ending" (57 : Nat) "LeagueLevels$Season" "refused" "[I") ∈ llTb := llTb_of (List.mem_append_right _ (List.mem_of_getElem? (i := 193) (by decide +kernel))) (by decide)
set_option maxRecDepth 100000 in
theorem wd_194 : (Cond.fieldLink "LeagueLevels$Deeds" (56 : Nat) "LeagueLevels$Season" "refused" "[I") ∈ llTb := llTb_of (List.mem_append_right _ (List.mem_of_getElem? (i := 194) (by decide +kernel))) (by decide)
set_option maxRecDepth 100000 in
theorem wd_195 : (Cond.fieldLink "LeagueLevels" (167 : Nat) "LeagueLevels$Season" "refused" "[I") ∈ llTb := llTb_of (List.mem_append_right _ (List.mem_of_getElem? (i := 195) (by decide +kernel))) (by decide)
set_option maxRecDepth 100000 in
theorem wd_196 : (Cond.fieldLink "LeagueLevels$Season" (33 : Nat) "LeagueLevels$Season" "deducted" "[I") ∈ llTb := llTb_of (List.mem_append_right _ (List.mem_of_getElem? (i := 196) (by decide +kernel))) (by decide)
set_option maxRecDepth 100000 in
theorem wd_197 : (Cond.fieldLink "LeagueLevels$Deeds" (59 : Nat) "LeagueLevels$Season" "deducted" "[I") ∈ llTb := llTb_of (List.mem_append_right _ (List.mem_of_getElem? (i := 197) (by decide +kernel))) (by decide)
set_option maxRecDepth 100000 in
theorem wd_198 : (Cond.fieldLink "LeagueLevels" (170 : Nat) "LeagueLevels$Season" "deducted" "[I") ∈ llTb := llTb_of (List.mem_append_right _ (List.mem_of_getElem? (i := 198) (by decide +kernel))) (by decide)
set_option maxRecDepth 100000 in
theorem wd_199 : (Cond.fieldLink "LeagueLevels$Season" (36 : Nat) "LeagueLevels$Season" "played" "[I") ∈ llTb := llTb_of (List.mem_append_right _ (List.mem_of_getElem? (i := 199) (by decide +kernel))) (by decide)
set_option maxRecDepth 100000 in
theorem wd_200 : (Cond.fieldLink "LeagueLevels$Table" (74 : Nat) "LeagueLevels$Season" "played" "[I") ∈ llTb := llTb_of (List.mem_append_right _ (List.mem_of_getElem? (i := 200) (by decide +kernel))) (by decide)
set_option maxRecDepth 100000 in
theorem wd_201 : (Cond.fieldLink "LeagueLevels" (214 : Nat) "LeagueLevels$Season" "played" "[I") ∈ llTb := llTb_of (List.mem_append_right _ (List.mem_of_getElem? (i := 201) (by decide +kernel))) (by decide)
set_option maxRecDepth 100000 in
theorem wd_202 : (Cond.fieldLink "LeagueLevels$Season" (39 : Nat) "LeagueLevels$Season" "won" "[I") ∈ llTb := llTb_of (List.mem_append_right _ (List.mem_of_getElem? (i := 202) (by decide +kernel))) (by decide)
set_option maxRecDepth 100000 in
theorem wd_203 : (Cond.fieldLink "LeagueLevels" (217 : Nat) "LeagueLevels$Season" "won" "[I") ∈ llTb := llTb_of (List.mem_append_right _ (List.mem_of_getElem? (i := 203) (by decide +kernel))) (by decide)
set_option maxRecDepth 100000 in
theorem wd_204 : (Cond.fieldLink "LeagueLevels$Season" (42 : Nat) "LeagueLevels$Season" "drawn" "[I") ∈ llTb := llTb_of (List.mem_append_right _ (List.mem_of_getElem? (i := 204) (by decide +kernel))) (by decide)
set_option maxRecDepth 100000 in
theorem wd_205 : (Cond.fieldLink "LeagueLevels" (220 : Nat) "LeagueLevels$Season" "drawn" "[I") ∈ llTb := llTb_of (List.mem_append_right _ (List.mem_of_getElem? (i := 205) (by decide +kernel))) (by decide)
set_option maxRecDepth 100000 in
theorem wd_206 : (Cond.fieldLink "LeagueLevels$Season" (45 : Nat) "LeagueLevels$Season" "scored" "[I") ∈ llTb := llTb_of (List.mem_append_right _ (List.mem_of_getElem? (i := 206) (by decide +kernel))) (by decide)
set_option maxRecDepth 100000 in
theorem wd_207 : (Cond.fieldLink "LeagueLevels$Table" (65 : Nat) "LeagueLevels$Season" "scored" "[I") ∈ llTb := llTb_of (List.mem_append_right _ (List.mem_of_getElem? (i := 207) (by decide +kernel))) (by decide)
set_option maxRecDepth 100000 in
theorem wd_208 : (Cond.fieldLink "LeagueLevels" (223 : Nat) "LeagueLevels$Season" "scored" "[I") ∈ llTb := llTb_of (List.mem_append_right _ (List.mem_of_getElem? (i := 208) (by decide +kernel))) (by decide)
set_option maxRecDepth 100000 in
theorem wd_209 : (Cond.fieldLink "LeagueLevels$Season" (48 : Nat) "LeagueLevels$Season" "conceded" "[I") ∈ llTb := llTb_of (List.mem_append_right _ (List.mem_of_getElem? (i := 209) (by decide +kernel))) (by decide)
set_option maxRecDepth 100000 in
theorem wd_210 : (Cond.fieldLink "LeagueLevels" (226 : Nat) "LeagueLevels$Season" "conceded" "[I") ∈ llTb := llTb_of (List.mem_append_right _ (List.mem_of_getElem? (i := 210) (by decide +kernel))) (by decide)
set_option maxRecDepth 100000 in
theorem wd_244 : (Cond.fieldLink "LeagueLevels$Deeds" (7 : Nat) "LeagueLevels$Deeds" "pyramid" "LLeagueLevels$Pyramid;") ∈ llTb := llTb_of (List.mem_append_right _ (List.mem_of_getElem? (i := 244) (by decide +kernel))) (by decide)
set_option maxRecDepth 100000 in
theorem wd_245 : (Cond.fieldLink "LeagueLevels$Deeds" (13 : Nat) "LeagueLevels$Deeds" "season" "LLeagueLevels$Season;") ∈ llTb := llTb_of (List.mem_append_right _ (List.mem_of_getElem? (i := 245) (by decide +kernel))) (by decide)
set_option maxRecDepth 100000 in
theorem wd_246 : (Cond.fieldLink "LeagueLevels$Deeds" (27 : Nat) "LeagueLevels$Deeds" "count" "I") ∈ llTb := llTb_of (List.mem_append_right _ (List.mem_of_getElem? (i := 246) (by decide +kernel))) (by decide)
set_option maxRecDepth 100000 in
theorem wd_247 : (Cond.fieldLink "LeagueLevels" (121 : Nat) "LeagueLevels$Deeds" "count" "I") ∈ llTb := llTb_of (List.mem_append_right _ (List.mem_of_getElem? (i := 247) (by decide +kernel))) (by decide)
set_option maxRecDepth 100000 in
theorem wd_248 : (Cond.fieldLink "LeagueLevels$Deeds" (17 : Nat) "LeagueLevels$Deeds" "kind" "[I") ∈ llTb := llTb_of (List.mem_append_right _ (List.mem_of_getElem? (i := 248) (by decide +kernel))) (by decide)
set_option maxRecDepth 100000 in
theorem wd_249 : (Cond.fieldLink "LeagueLevels$Deeds" (21 : Nat) "LeagueLevels$Deeds" "who" "[I") ∈ llTb := llTb_of (List.mem_append_right _ (List.mem_of_getElem? (i := 249) (by decide +kernel))) (by decide)
set_option maxRecDepth 100000 in
theorem wd_250 : (Cond.fieldLink "LeagueLevels$Deeds" (24 : Nat) "LeagueLevels$Deeds" "number" "[I") ∈ llTb := llTb_of (List.mem_append_right _ (List.mem_of_getElem? (i := 250) (by decide +kernel))) (by decide)
set_option maxRecDepth 100000 in
theorem wd_272 : (Cond.fieldLink "LeagueLevels$PyramidText" (9 : Nat) "LeagueLevels$PyramidText" "tape" "LLeagueLevels$Tape;") ∈ llTb := llTb_of (List.mem_append_right _ (List.mem_of_getElem? (i := 272) (by decide +kernel))) (by decide)
set_option maxRecDepth 100000 in
theorem wd_273 : (Cond.fieldLink "LeagueLevels$PyramidText" (18 : Nat) "LeagueLevels$PyramidText" "draft" "LLeagueLevels$Pyramid;") ∈ llTb := llTb_of (List.mem_append_right _ (List.mem_of_getElem? (i := 273) (by decide +kernel))) (by decide)
set_option maxRecDepth 100000 in
theorem wd_274 : (Cond.fieldLink "LeagueLevels" (103 : Nat) "LeagueLevels$PyramidText" "draft" "LLeagueLevels$Pyramid;") ∈ llTb := llTb_of (List.mem_append_right _ (List.mem_of_getElem? (i := 274) (by decide +kernel))) (by decide)
set_option maxRecDepth 100000 in
theorem wd_286 : (Cond.fieldLink "LeagueLevels$DayText" (9 : Nat) "LeagueLevels$DayText" "tape" "LLeagueLevels$Tape;") ∈ llTb := llTb_of (List.mem_append_right _ (List.mem_of_getElem? (i := 286) (by decide +kernel))) (by decide)
set_option maxRecDepth 100000 in
theorem wd_287 : (Cond.fieldLink "LeagueLevels$DayText" (15 : Nat) "LeagueLevels$DayText" "pyramid" "LLeagueLevels$Pyramid;") ∈ llTb := llTb_of (List.mem_append_right _ (List.mem_of_getElem? (i := 287) (by decide +kernel))) (by decide)
set_option maxRecDepth 100000 in
theorem wd_288 : (Cond.fieldLink "LeagueLevels$DayText" (19 : Nat) "LeagueLevels$DayText" "season" "LLeagueLevels$Season;") ∈ llTb := llTb_of (List.mem_append_right _ (List.mem_of_getElem? (i := 288) (by decide +kernel))) (by decide)
set_option maxRecDepth 100000 in
theorem wd_302 : (Cond.fieldLink "LeagueLevels$Table" (9 : Nat) "LeagueLevels$Table" "pyramid" "LLeagueLevels$Pyramid;") ∈ llTb := llTb_of (List.mem_append_right _ (List.mem_of_getElem? (i := 302) (by decide +kernel))) (by decide)
set_option maxRecDepth 100000 in
theorem wd_303 : (Cond.fieldLink "LeagueLevels$Table" (15 : Nat) "LeagueLevels$Table" "season" "LLeagueLevels$Season;") ∈ llTb := llTb_of (List.mem_append_right _ (List.mem_of_getElem? (i := 303) (by decide +kernel))) (by decide)
set_option maxRecDepth 100000 in
theorem wd_304 : (Cond.fieldLink "LeagueLevels$Table" (38 : Nat) "LeagueLevels$Table" "count" "I") ∈ llTb := llTb_of (List.mem_append_right _ (List.mem_of_getElem? (i := 304) (by decide +kernel))) (by decide)
set_option maxRecDepth 100000 in
theorem wd_305 : (Cond.fieldLink "LeagueLevels$Ending" (122 : Nat) "LeagueLevels$Table" "count" "I") ∈ llTb := llTb_of (List.mem_append_right _ (List.mem_of_getElem? (i := 305) (by decide +kernel))) (by decide)
set_option maxRecDepth 100000 in
theorem wd_306 : (Cond.fieldLink "LeagueLevels" (266 : Nat) "LeagueLevels$Table" "count" "I") ∈ llTb := llTb_of (List.mem_append_right _ (List.mem_of_getElem? (i := 306) (by decide +kernel))) (by decide)
set_option maxRecDepth 100000 in
theorem wd_307 : (Cond.fieldLink "LeagueLevels$Table" (19 : Nat) "LeagueLevels$Table" "row" "[I") ∈ llTb := llTb_of (List.mem_append_right _ (List.mem_of_getElem? (i := 307) (by decide +kernel))) (by decide)
set_option maxRecDepth 100000 in
theorem wd_308 : (Cond.fieldLink "LeagueLevels$Ending" (125 : Nat) "LeagueLevels$Table" "row" "[I") ∈ llTb := llTb_of (List.mem_append_right _ (List.mem_of_getElem? (i := 308) (by decide +kernel))) (by decide)
set_option maxRecDepth 100000 in
theorem wd_309 : (Cond.fieldLink "LeagueLevels" (267 : Nat) "LeagueLevels$Table" "row" "[I") ∈ llTb := llTb_of (List.mem_append_right _ (List.mem_of_getElem? (i := 309) (by decide +kernel))) (by decide)
set_option maxRecDepth 100000 in
theorem wd_310 : (Cond.fieldLink "LeagueLevels$Table" (23 : Nat) "LeagueLevels$Table" "rank" "[I") ∈ llTb := llTb_of (List.mem_append_right _ (List.mem_of_getElem? (i := 310) (by decide +kernel))) (by decide)
set_option maxRecDepth 100000 in
theorem wd_311 : (Cond.fieldLink "LeagueLevels" (232 : Nat) "LeagueLevels$Table" "rank" "[I") ∈ llTb := llTb_of (List.mem_append_right _ (List.mem_of_getElem? (i := 311) (by decide +kernel))) (by decide)
set_option maxRecDepth 100000 in
theorem wd_312 : (Cond.fieldLink "LeagueLevels$Table" (26 : Nat) "LeagueLevels$Table" "points" "[I") ∈ llTb := llTb_of (List.mem_append_right _ (List.mem_of_getElem? (i := 312) (by decide +kernel))) (by decide)
set_option maxRecDepth 100000 in
theorem wd_313 : (Cond.fieldLink "LeagueLevels$Table" (95 : Nat) "LeagueLevels$Table" "shownCount" "I") ∈ llTb := llTb_of (List.mem_append_right _ (List.mem_of_getElem? (i := 313) (by decide +kernel))) (by decide)
set_option maxRecDepth 100000 in
theorem wd_314 : (Cond.fieldLink "LeagueLevels" (367 : Nat) "LeagueLevels$Table" "shownCount" "I") ∈ llTb := llTb_of (List.mem_append_right _ (List.mem_of_getElem? (i := 314) (by decide +kernel))) (by decide)
set_option maxRecDepth 100000 in
theorem wd_315 : (Cond.fieldLink "LeagueLevels$Table" (29 : Nat) "LeagueLevels$Table" "shown" "[I") ∈ llTb := llTb_of (List.mem_append_right _ (List.mem_of_getElem? (i := 315) (by decide +kernel))) (by decide)
set_option maxRecDepth 100000 in
theorem wd_316 : (Cond.fieldLink "LeagueLevels" (370 : Nat) "LeagueLevels$Table" "shown" "[I") ∈ llTb := llTb_of (List.mem_append_right _ (List.mem_of_getElem? (i := 316) (by decide +kernel))) (by decide)
set_option maxRecDepth 100000 in
theorem wd_340 : (Cond.fieldLink "LeagueLevels$Travel" (9 : Nat) "LeagueLevels$Travel" "pyramid" "LLeagueLevels$Pyramid;") ∈ llTb := llTb_of (List.mem_append_right _ (List.mem_of_getElem? (i := 340) (by decide +kernel))) (by decide)
set_option maxRecDepth 100000 in
theorem wd_341 : (Cond.fieldLink "LeagueLevels$Travel" (15 : Nat) "LeagueLevels$Travel" "miles" "[I") ∈ llTb := llTb_of (List.mem_append_right _ (List.mem_of_getElem? (i := 341) (by decide +kernel))) (by decide)
set_option maxRecDepth 100000 in
theorem wd_342 : (Cond.fieldLink "LeagueLevels$Travel" (63 : Nat) "LeagueLevels$Travel" "count" "I") ∈ llTb := llTb_of (List.mem_append_right _ (List.mem_of_getElem? (i := 342) (by decide +kernel))) (by decide)
set_option maxRecDepth 100000 in
theorem wd_343 : (Cond.fieldLink "LeagueLevels$Travel" (19 : Nat) "LeagueLevels$Travel" "row" "[I") ∈ llTb := llTb_of (List.mem_append_right _ (List.mem_of_getElem? (i := 343) (by decide +kernel))) (by decide)
set_option maxRecDepth 100000 in
theorem wd_344 : (Cond.fieldLink "LeagueLevels$Travel" (22 : Nat) "LeagueLevels$Travel" "far" "[I") ∈ llTb := llTb_of (List.mem_append_right _ (List.mem_of_getElem? (i := 344) (by decide +kernel))) (by decide)
set_option maxRecDepth 100000 in
theorem wd_345 : (Cond.fieldLink "LeagueLevels$Travel" (73 : Nat) "LeagueLevels$Travel" "saved" "I") ∈ llTb := llTb_of (List.mem_append_right _ (List.mem_of_getElem? (i := 345) (by decide +kernel))) (by decide)
set_option maxRecDepth 100000 in
theorem wd_346 : (Cond.fieldLink "LeagueLevels" (312 : Nat) "LeagueLevels$Travel" "saved" "I") ∈ llTb := llTb_of (List.mem_append_right _ (List.mem_of_getElem? (i := 346) (by decide +kernel))) (by decide)
set_option maxRecDepth 100000 in
theorem wd_347 : (Cond.fieldLink "LeagueLevels$Travel" (82 : Nat) "LeagueLevels$Travel" "swapLess" "I") ∈ llTb := llTb_of (List.mem_append_right _ (List.mem_of_getElem? (i := 347) (by decide +kernel))) (by decide)
set_option maxRecDepth 100000 in
theorem wd_348 : (Cond.fieldLink "LeagueLevels" (315 : Nat) "LeagueLevels$Travel" "swapLess" "I") ∈ llTb := llTb_of (List.mem_append_right _ (List.mem_of_getElem? (i := 348) (by decide +kernel))) (by decide)
set_option maxRecDepth 100000 in
theorem wd_349 : (Cond.fieldLink "LeagueLevels$Travel" (85 : Nat) "LeagueLevels$Travel" "swapMore" "I") ∈ llTb := llTb_of (List.mem_append_right _ (List.mem_of_getElem? (i := 349) (by decide +kernel))) (by decide)
set_option maxRecDepth 100000 in
theorem wd_350 : (Cond.fieldLink "LeagueLevels" (318 : Nat) "LeagueLevels$Travel" "swapMore" "I") ∈ llTb := llTb_of (List.mem_append_right _ (List.mem_of_getElem? (i := 350) (by decide +kernel))) (by decide)
set_option maxRecDepth 100000 in
theorem wd_374 : (Cond.fieldLink "LeagueLevels$Parting" (9 : Nat) "LeagueLevels$Parting" "pyramid" "LLeagueLevels$Pyramid;") ∈ llTb := llTb_of (List.mem_append_right _ (List.mem_of_getElem? (i := 374) (by decide +kernel))) (by decide)
set_option maxRecDepth 100000 in
theorem wd_375 : (Cond.fieldLink "LeagueLevels$Parting" (15 : Nat) "LeagueLevels$Parting" "travel" "LLeagueLevels$Travel;") ∈ llTb := llTb_of (List.mem_append_right _ (List.mem_of_getElem? (i := 375) (by decide +kernel))) (by decide)
set_option maxRecDepth 100000 in
theorem wd_376 : (Cond.fieldLink "LeagueLevels$Parting" (19 : Nat) "LeagueLevels$Parting" "known" "[I") ∈ llTb := llTb_of (List.mem_append_right _ (List.mem_of_getElem? (i := 376) (by decide +kernel))) (by decide)
set_option maxRecDepth 100000 in
theorem wd_377 : (Cond.fieldLink "LeagueLevels$Parting" (23 : Nat) "LeagueLevels$Parting" "fewest" "[I") ∈ llTb := llTb_of (List.mem_append_right _ (List.mem_of_getElem? (i := 377) (by decide +kernel))) (by decide)
set_option maxRecDepth 100000 in
theorem wd_378 : (Cond.fieldLink "LeagueLevels" (294 : Nat) "LeagueLevels$Parting" "fewest" "[I") ∈ llTb := llTb_of (List.mem_append_right _ (List.mem_of_getElem? (i := 378) (by decide +kernel))) (by decide)
set_option maxRecDepth 100000 in
theorem wd_379 : (Cond.fieldLink "LeagueLevels$Parting" (26 : Nat) "LeagueLevels$Parting" "anew" "[I") ∈ llTb := llTb_of (List.mem_append_right _ (List.mem_of_getElem? (i := 379) (by decide +kernel))) (by decide)
set_option maxRecDepth 100000 in
theorem wd_380 : (Cond.fieldLink "LeagueLevels" (306 : Nat) "LeagueLevels$Parting" "anew" "[I") ∈ llTb := llTb_of (List.mem_append_right _ (List.mem_of_getElem? (i := 380) (by decide +kernel))) (by decide)
set_option maxRecDepth 100000 in
theorem wd_381 : (Cond.fieldLink "LeagueLevels$Parting" (89 : Nat) "LeagueLevels$Parting" "count" "I") ∈ llTb := llTb_of (List.mem_append_right _ (List.mem_of_getElem? (i := 381) (by decide +kernel))) (by decide)
set_option maxRecDepth 100000 in
theorem wd_382 : (Cond.fieldLink "LeagueLevels$Parting" (95 : Nat) "LeagueLevels$Parting" "size" "I") ∈ llTb := llTb_of (List.mem_append_right _ (List.mem_of_getElem? (i := 382) (by decide +kernel))) (by decide)
set_option maxRecDepth 100000 in
theorem wd_383 : (Cond.fieldLink "LeagueLevels$Parting" (100 : Nat) "LeagueLevels$Parting" "divisions" "I") ∈ llTb := llTb_of (List.mem_append_right _ (List.mem_of_getElem? (i := 383) (by decide +kernel))) (by decide)
set_option maxRecDepth 100000 in
theorem wd_384 : (Cond.fieldLink "LeagueLevels$Parting" (29 : Nat) "LeagueLevels$Parting" "row" "[I") ∈ llTb := llTb_of (List.mem_append_right _ (List.mem_of_getElem? (i := 384) (by decide +kernel))) (by decide)
set_option maxRecDepth 100000 in
theorem wd_385 : (Cond.fieldLink "LeagueLevels$Parting" (32 : Nat) "LeagueLevels$Parting" "picked" "[I") ∈ llTb := llTb_of (List.mem_append_right _ (List.mem_of_getElem? (i := 385) (by decide +kernel))) (by decide)
set_option maxRecDepth 100000 in
theorem wd_386 : (Cond.fieldLink "LeagueLevels$Parting" (102 : Nat) "LeagueLevels$Parting" "setCount" "I") ∈ llTb := llTb_of (List.mem_append_right _ (List.mem_of_getElem? (i := 386) (by decide +kernel))) (by decide)
set_option maxRecDepth 100000 in
theorem wd_387 : (Cond.fieldLink "LeagueLevels$Parting" (35 : Nat) "LeagueLevels$Parting" "sets" "[I") ∈ llTb := llTb_of (List.mem_append_right _ (List.mem_of_getElem? (i := 387) (by decide +kernel))) (by decide)
set_option maxRecDepth 100000 in
theorem wd_388 : (Cond.fieldLink "LeagueLevels$Parting" (38 : Nat) "LeagueLevels$Parting" "setMiles" "[I") ∈ llTb := llTb_of (List.mem_append_right _ (List.mem_of_getElem? (i := 388) (by decide +kernel))) (by decide)
set_option maxRecDepth 100000 in
theorem wd_389 : (Cond.fieldLink "LeagueLevels$Parting" (41 : Nat) "LeagueLevels$Parting" "firstWith" "[I") ∈ llTb := llTb_of (List.mem_append_right _ (List.mem_of_getElem? (i := 389) (by decide +kernel))) (by decide)
set_option maxRecDepth 100000 in
theorem wd_390 : (Cond.fieldLink "LeagueLevels$Parting" (44 : Nat) "LeagueLevels$Parting" "chosen" "[I") ∈ llTb := llTb_of (List.mem_append_right _ (List.mem_of_getElem? (i := 390) (by decide +kernel))) (by decide)
set_option maxRecDepth 100000 in
theorem wd_391 : (Cond.fieldLink "LeagueLevels$Parting" (47 : Nat) "LeagueLevels$Parting" "best" "[I") ∈ llTb := llTb_of (List.mem_append_right _ (List.mem_of_getElem? (i := 391) (by decide +kernel))) (by decide)
set_option maxRecDepth 100000 in
theorem wd_392 : (Cond.fieldLink "LeagueLevels$Parting" (112 : Nat) "LeagueLevels$Parting" "bestMiles" "I") ∈ llTb := llTb_of (List.mem_append_right _ (List.mem_of_getElem? (i := 392) (by decide +kernel))) (by decide)
set_option maxRecDepth 100000 in
theorem wd_434 : (Cond.fieldLink "LeagueLevels$Ending" (9 : Nat) "LeagueLevels$Ending" "pyramid" "LLeagueLevels$Pyramid;") ∈ llTb := llTb_of (List.mem_append_right _ (List.mem_of_getElem? (i := 434) (by decide +kernel))) (by decide)
set_option maxRecDepth 100000 in
theorem wd_435 : (Cond.fieldLink "LeagueLevels$Ending" (15 : Nat) "LeagueLevels$Ending" "season" "LLeagueLevels$Season;") ∈ llTb := llTb_of (List.mem_append_right _ (List.mem_of_getElem? (i := 435) (by decide +kernel))) (by decide)
set_option maxRecDepth 100000 in
theorem wd_436 : (Cond.fieldLink "LeagueLevels$Ending" (19 : Nat) "LeagueLevels$Ending" "table" "LLeagueLevels$Table;") ∈ llTb := llTb_of (List.mem_append_right _ (List.mem_of_getElem? (i := 436) (by decide +kernel))) (by decide)
set_option maxRecDepth 100000 in
theorem wd_437 : (Cond.fieldLink "LeagueLevels$Ending" (23 : Nat) "LeagueLevels$Ending" "rising" "[I") ∈ llTb := llTb_of (List.mem_append_right _ (List.mem_of_getElem? (i := 437) (by decide +kernel))) (by decide)
set_option maxRecDepth 100000 in
theorem wd_438 : (Cond.fieldLink "LeagueLevels$Ending" (27 : Nat) "LeagueLevels$Ending" "falling" "[I") ∈ llTb := llTb_of (List.mem_append_right _ (List.mem_of_getElem? (i := 438) (by decide +kernel))) (by decide)
set_option maxRecDepth 100000 in
theorem wd_439 : (Cond.fieldLink "LeagueLevels$Ending" (30 : Nat) "LeagueLevels$Ending" "counts" "[I") ∈ llTb := llTb_of (List.mem_append_right _ (List.mem_of_getElem? (i := 439) (by decide +kernel))) (by decide)
set_option maxRecDepth 100000 in
theorem wd_440 : (Cond.fieldLink "LeagueLevels$Ending" (33 : Nat) "LeagueLevels$Ending" "movers" "[I") ∈ llTb := llTb_of (List.mem_append_right _ (List.mem_of_getElem? (i := 440) (by decide +kernel))) (by decide)
set_option maxRecDepth 100000 in
theorem wd_441 : (Cond.fieldLink "LeagueLevels$Ending" (36 : Nat) "LeagueLevels$Ending" "goal" "[I") ∈ llTb := llTb_of (List.mem_append_right _ (List.mem_of_getElem? (i := 441) (by decide +kernel))) (by decide)
set_option maxRecDepth 100000 in
theorem wd_442 : (Cond.fieldLink "LeagueLevels" (189 : Nat) "LeagueLevels$Ending" "goal" "[I") ∈ llTb := llTb_of (List.mem_append_right _ (List.mem_of_getElem? (i := 442) (by decide +kernel))) (by decide)
set_option maxRecDepth 100000 in
theorem wd_460 : (Cond.fieldLink "LeagueLevels" (10 : Nat) "LeagueLevels" "tape" "LLeagueLevels$Tape;") ∈ llTb := llTb_of (List.mem_append_right _ (List.mem_of_getElem? (i := 460) (by decide +kernel))) (by decide)
set_option maxRecDepth 100000 in
theorem wd_461 : (Cond.fieldLink "LeagueLevels" (19 : Nat) "LeagueLevels" "pyramid" "LLeagueLevels$Pyramid;") ∈ llTb := llTb_of (List.mem_append_right _ (List.mem_of_getElem? (i := 461) (by decide +kernel))) (by decide)
set_option maxRecDepth 100000 in
theorem wd_462 : (Cond.fieldLink "LeagueLevels" (26 : Nat) "LeagueLevels" "season" "LLeagueLevels$Season;") ∈ llTb := llTb_of (List.mem_append_right _ (List.mem_of_getElem? (i := 462) (by decide +kernel))) (by decide)
set_option maxRecDepth 100000 in
theorem wd_463 : (Cond.fieldLink "LeagueLevels" (35 : Nat) "LeagueLevels" "deeds" "LLeagueLevels$Deeds;") ∈ llTb := llTb_of (List.mem_append_right _ (List.mem_of_getElem? (i := 463) (by decide +kernel))) (by decide)
set_option maxRecDepth 100000 in
theorem wd_464 : (Cond.fieldLink "LeagueLevels" (44 : Nat) "LeagueLevels" "pyramidText" "LLeagueLevels$PyramidText;") ∈ llTb := llTb_of (List.mem_append_right _ (List.mem_of_getElem? (i := 464) (by decide +kernel))) (by decide)
set_option maxRecDepth 100000 in
theorem wd_465 : (Cond.fieldLink "LeagueLevels" (53 : Nat) "LeagueLevels" "dayText" "LLeagueLevels$DayText;") ∈ llTb := llTb_of (List.mem_append_right _ (List.mem_of_getElem? (i := 465) (by decide +kernel))) (by decide)
set_option maxRecDepth 100000 in
theorem wd_466 : (Cond.fieldLink "LeagueLevels" (60 : Nat) "LeagueLevels" "table" "LLeagueLevels$Table;") ∈ llTb := llTb_of (List.mem_append_right _ (List.mem_of_getElem? (i := 466) (by decide +kernel))) (by decide)
set_option maxRecDepth 100000 in
theorem wd_467 : (Cond.fieldLink "LeagueLevels" (69 : Nat) "LeagueLevels" "travel" "LLeagueLevels$Travel;") ∈ llTb := llTb_of (List.mem_append_right _ (List.mem_of_getElem? (i := 467) (by decide +kernel))) (by decide)
set_option maxRecDepth 100000 in
theorem wd_468 : (Cond.fieldLink "LeagueLevels" (78 : Nat) "LeagueLevels" "parting" "LLeagueLevels$Parting;") ∈ llTb := llTb_of (List.mem_append_right _ (List.mem_of_getElem? (i := 468) (by decide +kernel))) (by decide)
set_option maxRecDepth 100000 in
theorem wd_469 : (Cond.fieldLink "LeagueLevels" (87 : Nat) "LeagueLevels" "ending" "LLeagueLevels$Ending;") ∈ llTb := llTb_of (List.mem_append_right _ (List.mem_of_getElem? (i := 469) (by decide +kernel))) (by decide)
set_option maxRecDepth 100000 in
theorem wd_492 : (Cond.instanceMethod ({ cls := "LeagueLevels", name := "feed", desc := "(IIIII)I" } : MethodName)) ∈ llTb := llTb_of (List.mem_append_right _ (List.mem_of_getElem? (i := 492) (by decide +kernel))) (by decide)
set_option maxRecDepth 100000 in
theorem wd_493 : (Cond.selects "LeagueLevels" ({ cls := "LeagueLevels", name := "feed", desc := "(IIIII)I" } : MethodName) ({ cls := "LeagueLevels", name := "feed", desc := "(IIIII)I" } : MethodName)) ∈ llTb := llTb_of (List.mem_append_right _ (List.mem_of_getElem? (i := 493) (by decide +kernel))) (by decide)
set_option maxRecDepth 100000 in
theorem wd_494 : (Cond.code ({ cls := "LeagueLevels", name := "feed", desc := "(IIIII)I" } : MethodName) prog_1_method_2_code (6 : Nat) (Option.some ClassFile.FieldType.int)) ∈ llTb := llTb_of (List.mem_append_right _ (List.mem_of_getElem? (i := 494) (by exact rfl))) (by decide)
set_option maxRecDepth 100000 in
theorem wd_495 : (Cond.methodLink "LeagueLevels" (95 : Nat) ({ cls := "LeagueLevels$Tape", name := "put", desc := "(I)V" } : MethodName)) ∈ llTb := llTb_of (List.mem_append_right _ (List.mem_of_getElem? (i := 495) (by decide +kernel))) (by decide)
set_option maxRecDepth 100000 in
theorem wd_496 : (Cond.instanceMethod ({ cls := "LeagueLevels$Tape", name := "put", desc := "(I)V" } : MethodName)) ∈ llTb := llTb_of (List.mem_append_right _ (List.mem_of_getElem? (i := 496) (by decide +kernel))) (by decide)
set_option maxRecDepth 100000 in
theorem wd_497 : (Cond.selects "LeagueLevels$Tape" ({ cls := "LeagueLevels$Tape", name := "put", desc := "(I)V" } : MethodName) ({ cls := "LeagueLevels$Tape", name := "put", desc := "(I)V" } : MethodName)) ∈ llTb := llTb_of (List.mem_append_right _ (List.mem_of_getElem? (i := 497) (by decide +kernel))) (by decide)
set_option maxRecDepth 100000 in
theorem wd_498 : (Cond.code ({ cls := "LeagueLevels$Tape", name := "put", desc := "(I)V" } : MethodName) prog_11_method_2_code (3 : Nat) (Option.none : Option ClassFile.FieldType)) ∈ llTb := llTb_of (List.mem_append_right _ (List.mem_of_getElem? (i := 498) (by exact rfl))) (by decide)
set_option maxRecDepth 100000 in
theorem wd_500 : (Cond.instanceMethod ({ cls := "LeagueLevels", name := "end", desc := "(I)Z" } : MethodName)) ∈ llTb := llTb_of (List.mem_append_right _ (List.mem_of_getElem? (i := 500) (by decide +kernel))) (by decide)
set_option maxRecDepth 100000 in
theorem wd_501 : (Cond.selects "LeagueLevels" ({ cls := "LeagueLevels", name := "end", desc := "(I)Z" } : MethodName) ({ cls := "LeagueLevels", name := "end", desc := "(I)Z" } : MethodName)) ∈ llTb := llTb_of (List.mem_append_right _ (List.mem_of_getElem? (i := 501) (by decide +kernel))) (by decide)
set_option maxRecDepth 100000 in
theorem wd_502 : (Cond.code ({ cls := "LeagueLevels", name := "end", desc := "(I)Z" } : MethodName) prog_1_method_3_code (2 : Nat) (Option.some ClassFile.FieldType.boolean)) ∈ llTb := llTb_of (List.mem_append_right _ (List.mem_of_getElem? (i := 502) (by exact rfl))) (by decide)
set_option maxRecDepth 100000 in
theorem wd_504 : (Cond.instanceMethod ({ cls := "LeagueLevels", name := "pyramid", desc := "()I" } : MethodName)) ∈ llTb := llTb_of (List.mem_append_right _ (List.mem_of_getElem? (i := 504) (by decide +kernel))) (by decide)
set_option maxRecDepth 100000 in
theorem wd_505 : (Cond.selects "LeagueLevels" ({ cls := "LeagueLevels", name := "pyramid", desc := "()I" } : MethodName) ({ cls := "LeagueLevels", name := "pyramid", desc := "()I" } : MethodName)) ∈ llTb := llTb_of (List.mem_append_right _ (List.mem_of_getElem? (i := 505) (by decide +kernel))) (by decide)
set_option maxRecDepth 100000 in
theorem wd_506 : (Cond.code ({ cls := "LeagueLevels", name := "pyramid", desc := "()I" } : MethodName) prog_1_method_4_code (2 : Nat) (Option.some ClassFile.FieldType.int)) ∈ llTb := llTb_of (List.mem_append_right _ (List.mem_of_getElem? (i := 506) (by exact rfl))) (by decide)
set_option maxRecDepth 100000 in
theorem wd_507 : (Cond.methodLink "LeagueLevels" (99 : Nat) ({ cls := "LeagueLevels$PyramidText", name := "read", desc := "()Z" } : MethodName)) ∈ llTb := llTb_of (List.mem_append_right _ (List.mem_of_getElem? (i := 507) (by decide +kernel))) (by decide)
set_option maxRecDepth 100000 in
theorem wd_508 : (Cond.instanceMethod ({ cls := "LeagueLevels$PyramidText", name := "read", desc := "()Z" } : MethodName)) ∈ llTb := llTb_of (List.mem_append_right _ (List.mem_of_getElem? (i := 508) (by decide +kernel))) (by decide)
set_option maxRecDepth 100000 in
theorem wd_509 : (Cond.selects "LeagueLevels$PyramidText" ({ cls := "LeagueLevels$PyramidText", name := "read", desc := "()Z" } : MethodName) ({ cls := "LeagueLevels$PyramidText", name := "read", desc := "()Z" } : MethodName)) ∈ llTb := llTb_of (List.mem_append_right _ (List.mem_of_getElem? (i := 509) (by decide +kernel))) (by decide)
set_option maxRecDepth 100000 in
theorem wd_510 : (Cond.code ({ cls := "LeagueLevels$PyramidText", name := "read", desc := "()Z" } : MethodName) prog_8_method_2_code (3 : Nat) (Option.some ClassFile.FieldType.boolean)) ∈ llTb := llTb_of (List.mem_append_right _ (List.mem_of_getElem? (i := 510) (by exact rfl))) (by decide)
set_option maxRecDepth 100000 in
theorem wd_511 : (Cond.methodLink "LeagueLevels$PyramidText" (29 : Nat) ({ cls := "LeagueLevels$Tape", name := "startText", desc := "()V" } : MethodName)) ∈ llTb := llTb_of (List.mem_append_right _ (List.mem_of_getElem? (i := 511) (by decide +kernel))) (by decide)
set_option maxRecDepth 100000 in
theorem wd_512 : (Cond.instanceMethod ({ cls := "LeagueLevels$Tape", name := "startText", desc := "()V" } : MethodName)) ∈ llTb := llTb_of (List.mem_append_right _ (List.mem_of_getElem? (i := 512) (by decide +kernel))) (by decide)
set_option maxRecDepth 100000 in
theorem wd_513 : (Cond.selects "LeagueLevels$Tape" ({ cls := "LeagueLevels$Tape", name := "startText", desc := "()V" } : MethodName) ({ cls := "LeagueLevels$Tape", name := "startText", desc := "()V" } : MethodName)) ∈ llTb := llTb_of (List.mem_append_right _ (List.mem_of_getElem? (i := 513) (by decide +kernel))) (by decide)
set_option maxRecDepth 100000 in
theorem wd_514 : (Cond.code ({ cls := "LeagueLevels$Tape", name := "startText", desc := "()V" } : MethodName) prog_11_method_4_code (1 : Nat) (Option.none : Option ClassFile.FieldType)) ∈ llTb := llTb_of (List.mem_append_right _ (List.mem_of_getElem? (i := 514) (by exact rfl))) (by decide)
set_option maxRecDepth 100000 in
theorem wd_515 : (Cond.methodLink "LeagueLevels$PyramidText" (34 : Nat) ({ cls := "LeagueLevels$Tape", name := "next", desc := "()V" } : MethodName)) ∈ llTb := llTb_of (List.mem_append_right _ (List.mem_of_getElem? (i := 515) (by decide +kernel))) (by decide)
set_option maxRecDepth 100000 in
theorem wd_516 : (Cond.instanceMethod ({ cls := "LeagueLevels$Tape", name := "next", desc := "()V" } : MethodName)) ∈ llTb := llTb_of (List.mem_append_right _ (List.mem_of_getElem? (i := 516) (by decide +kernel))) (by decide)
set_option maxRecDepth 100000 in
theorem wd_517 : (Cond.selects "LeagueLevels$Tape" ({ cls := "LeagueLevels$Tape", name := "next", desc := "()V" } : MethodName) ({ cls := "LeagueLevels$Tape", name := "next", desc := "()V" } : MethodName)) ∈ llTb := llTb_of (List.mem_append_right _ (List.mem_of_getElem? (i := 517) (by decide +kernel))) (by decide)
set_option maxRecDepth 100000 in
theorem wd_518 : (Cond.code ({ cls := "LeagueLevels$Tape", name := "next", desc := "()V" } : MethodName) prog_11_method_6_code (1 : Nat) (Option.none : Option ClassFile.FieldType)) ∈ llTb := llTb_of (List.mem_append_right _ (List.mem_of_getElem? (i := 518) (by exact rfl))) (by decide)
set_option maxRecDepth 100000 in
theorem wd_519 : (Cond.methodLink "LeagueLevels$Tape" (37 : Nat) ({ cls := "LeagueLevels$Tape", name := "readWord", desc := "()V" } : MethodName)) ∈ llTb := llTb_of (List.mem_append_right _ (List.mem_of_getElem? (i := 519) (by decide +kernel))) (by decide)
set_option maxRecDepth 100000 in
theorem wd_521 : (Cond.instanceMethod ({ cls := "LeagueLevels$Tape", name := "readWord", desc := "()V" } : MethodName)) ∈ llTb := llTb_of (List.mem_append_right _ (List.mem_of_getElem? (i := 521) (by decide +kernel))) (by decide)
set_option maxRecDepth 100000 in
theorem wd_522 : (Cond.code ({ cls := "LeagueLevels$Tape", name := "readWord", desc := "()V" } : MethodName) prog_11_method_7_code (1 : Nat) (Option.none : Option ClassFile.FieldType)) ∈ llTb := llTb_of (List.mem_append_right _ (List.mem_of_getElem? (i := 522) (by exact rfl))) (by decide)
set_option maxRecDepth 100000 in
theorem wd_523 : (Cond.methodLink "LeagueLevels$Tape" (40 : Nat) ({ cls := "LeagueLevels$Tape", name := "readNumber", desc := "()V" } : MethodName)) ∈ llTb := llTb_of (List.mem_append_right _ (List.mem_of_getElem? (i := 523) (by decide +kernel))) (by decide)
set_option maxRecDepth 100000 in
theorem wd_525 : (Cond.instanceMethod ({ cls := "LeagueLevels$Tape", name := "readNumber", desc := "()V" } : MethodName)) ∈ llTb := llTb_of (List.mem_append_right _ (List.mem_of_getElem? (i := 525) (by decide +kernel))) (by decide)
set_option maxRecDepth 100000 in
theorem wd_526 : (Cond.code ({ cls := "LeagueLevels$Tape", name := "readNumber", desc := "()V" } : MethodName) prog_11_method_8_code (1 : Nat) (Option.none : Option ClassFile.FieldType)) ∈ llTb := llTb_of (List.mem_append_right _ (List.mem_of_getElem? (i := 526) (by exact rfl))) (by decide)
set_option maxRecDepth 100000 in
theorem wd_527 : (Cond.methodLink "LeagueLevels$PyramidText" (40 : Nat) ({ cls := "LeagueLevels$PyramidText", name := "allFull", desc := "()Z" } : MethodName)) ∈ llTb := llTb_of (List.mem_append_right _ (List.mem_of_getElem? (i := 527) (by decide +kernel))) (by decide)
set_option maxRecDepth 100000 in
theorem wd_529 : (Cond.instanceMethod ({ cls := "LeagueLevels$PyramidText", name := "allFull", desc := "()Z" } : MethodName)) ∈ llTb := llTb_of (List.mem_append_right _ (List.mem_of_getElem? (i := 529) (by decide +kernel))) (by decide)
set_option maxRecDepth 100000 in
theorem wd_530 : (Cond.code ({ cls := "LeagueLevels$PyramidText", name := "allFull", desc := "()Z" } : MethodName) prog_8_method_6_code (2 : Nat) (Option.some ClassFile.FieldType.boolean)) ∈ llTb := llTb_of (List.mem_append_right _ (List.mem_of_getElem? (i := 530) (by exact rfl))) (by decide)
set_option maxRecDepth 100000 in
theorem wd_531 : (Cond.methodLink "LeagueLevels$PyramidText" (143 : Nat) ({ cls := "LeagueLevels$Pyramid", name := "howMany", desc := "(I)I" } : MethodName)) ∈ llTb := llTb_of (List.mem_append_right _ (List.mem_of_getElem? (i := 531) (by decide +kernel))) (by decide)
set_option maxRecDepth 100000 in
theorem wd_532 : (Cond.instanceMethod ({ cls := "LeagueLevels$Pyramid", name := "howMany", desc := "(I)I" } : MethodName)) ∈ llTb := llTb_of (List.mem_append_right _ (List.mem_of_getElem? (i := 532) (by decide +kernel))) (by decide)
set_option maxRecDepth 100000 in
theorem wd_533 : (Cond.selects "LeagueLevels$Pyramid" ({ cls := "LeagueLevels$Pyramid", name := "howMany", desc := "(I)I" } : MethodName) ({ cls := "LeagueLevels$Pyramid", name := "howMany", desc := "(I)I" } : MethodName)) ∈ llTb := llTb_of (List.mem_append_right _ (List.mem_of_getElem? (i := 533) (by decide +kernel))) (by decide)
set_option maxRecDepth 100000 in
theorem wd_534 : (Cond.code ({ cls := "LeagueLevels$Pyramid", name := "howMany", desc := "(I)I" } : MethodName) prog_7_method_10_code (4 : Nat) (Option.some ClassFile.FieldType.int)) ∈ llTb := llTb_of (List.mem_append_right _ (List.mem_of_getElem? (i := 534) (by exact rfl))) (by decide)
set_option maxRecDepth 100000 in
theorem wd_535 : (Cond.methodLink "LeagueLevels$PyramidText" (44 : Nat) ({ cls := "LeagueLevels$Tape", name := "fail", desc := "(I)Z" } : MethodName)) ∈ llTb := llTb_of (List.mem_append_right _ (List.mem_of_getElem? (i := 535) (by decide +kernel))) (by decide)
set_option maxRecDepth 100000 in
theorem wd_536 : (Cond.instanceMethod ({ cls := "LeagueLevels$Tape", name := "fail", desc := "(I)Z" } : MethodName)) ∈ llTb := llTb_of (List.mem_append_right _ (List.mem_of_getElem? (i := 536) (by decide +kernel))) (by decide)
set_option maxRecDepth 100000 in
theorem wd_537 : (Cond.selects "LeagueLevels$Tape" ({ cls := "LeagueLevels$Tape", name := "fail", desc := "(I)Z" } : MethodName) ({ cls := "LeagueLevels$Tape", name := "fail", desc := "(I)Z" } : MethodName)) ∈ llTb := llTb_of (List.mem_append_right _ (List.mem_of_getElem? (i := 537) (by decide +kernel))) (by decide)
set_option maxRecDepth 100000 in
theorem wd_538 : (Cond.code ({ cls := "LeagueLevels$Tape", name := "fail", desc := "(I)Z" } : MethodName) prog_11_method_5_code (2 : Nat) (Option.some ClassFile.FieldType.boolean)) ∈ llTb := llTb_of (List.mem_append_right _ (List.mem_of_getElem? (i := 538) (by exact rfl))) (by decide)
set_option maxRecDepth 100000 in
theorem wd_539 : (Cond.constantLong "LeagueLevels$PyramidText" (48 : Nat) (465558725996 : Int64)) ∈ llTb := llTb_of (List.mem_append_right _ (List.mem_of_getElem? (i := 539) (by decide +kernel))) (by decide)
set_option maxRecDepth 100000 in
theorem wd_540 : (Cond.methodLink "LeagueLevels$PyramidText" (50 : Nat) ({ cls := "LeagueLevels$Tape", name := "isWord", desc := "(J)Z" } : MethodName)) ∈ llTb := llTb_of (List.mem_append_right _ (List.mem_of_getElem? (i := 540) (by decide +kernel))) (by decide)
set_option maxRecDepth 100000 in
theorem wd_541 : (Cond.instanceMethod ({ cls := "LeagueLevels$Tape", name := "isWord", desc := "(J)Z" } : MethodName)) ∈ llTb := llTb_of (List.mem_append_right _ (List.mem_of_getElem? (i := 541) (by decide +kernel))) (by decide)
set_option maxRecDepth 100000 in
theorem wd_542 : (Cond.selects "LeagueLevels$Tape" ({ cls := "LeagueLevels$Tape", name := "isWord", desc := "(J)Z" } : MethodName) ({ cls := "LeagueLevels$Tape", name := "isWord", desc := "(J)Z" } : MethodName)) ∈ llTb := llTb_of (List.mem_append_right _ (List.mem_of_getElem? (i := 542) (by decide +kernel))) (by decide)
set_option maxRecDepth 100000 in
theorem wd_543 : (Cond.code ({ cls := "LeagueLevels$Tape", name := "isWord", desc := "(J)Z" } : MethodName) prog_11_method_9_code (3 : Nat) (Option.some ClassFile.FieldType.boolean)) ∈ llTb := llTb_of (List.mem_append_right _ (List.mem_of_getElem? (i := 543) (by exact rfl))) (by decide)
set_option maxRecDepth 100000 in
theorem wd_544 : (Cond.methodLink "LeagueLevels$PyramidText" (54 : Nat) ({ cls := "LeagueLevels$PyramidText", name := "readLevel", desc := "(I)Z" } : MethodName)) ∈ llTb := llTb_of (List.mem_append_right _ (List.mem_of_getElem? (i := 544) (by decide +kernel))) (by decide)
set_option maxRecDepth 100000 in
theorem wd_546 : (Cond.instanceMethod ({ cls := "LeagueLevels$PyramidText", name := "readLevel", desc := "(I)Z" } : MethodName)) ∈ llTb := llTb_of (List.mem_append_right _ (List.mem_of_getElem? (i := 546) (by decide +kernel))) (by decide)
set_option maxRecDepth 100000 in
theorem wd_547 : (Cond.code ({ cls := "LeagueLevels$PyramidText", name := "readLevel", desc := "(I)Z" } : MethodName) prog_8_method_3_code (6 : Nat) (Option.some ClassFile.FieldType.boolean)) ∈ llTb := llTb_of (List.mem_append_right _ (List.mem_of_getElem? (i := 547) (by exact rfl))) (by decide)
set_option maxRecDepth 100000 in
theorem wd_548 : (Cond.methodLink "LeagueLevels$PyramidText" (62 : Nat) ({ cls := "LeagueLevels$Tape", name := "takeNumber", desc := "(II)I" } : MethodName)) ∈ llTb := llTb_of (List.mem_append_right _ (List.mem_of_getElem? (i := 548) (by decide +kernel))) (by decide)
set_option maxRecDepth 100000 in
theorem wd_549 : (Cond.instanceMethod ({ cls := "LeagueLevels$Tape", name := "takeNumber", desc := "(II)I" } : MethodName)) ∈ llTb := llTb_of (List.mem_append_right _ (List.mem_of_getElem? (i := 549) (by decide +kernel))) (by decide)
set_option maxRecDepth 100000 in
theorem wd_550 : (Cond.selects "LeagueLevels$Tape" ({ cls := "LeagueLevels$Tape", name := "takeNumber", desc := "(II)I" } : MethodName) ({ cls := "LeagueLevels$Tape", name := "takeNumber", desc := "(II)I" } : MethodName)) ∈ llTb := llTb_of (List.mem_append_right _ (List.mem_of_getElem? (i := 550) (by decide +kernel))) (by decide)
set_option maxRecDepth 100000 in
theorem wd_551 : (Cond.code ({ cls := "LeagueLevels$Tape", name := "takeNumber", desc := "(II)I" } : MethodName) prog_11_method_15_code (3 : Nat) (Option.some ClassFile.FieldType.int)) ∈ llTb := llTb_of (List.mem_append_right _ (List.mem_of_getElem? (i := 551) (by exact rfl))) (by decide)
set_option maxRecDepth 100000 in
theorem wd_552 : (Cond.methodLink "LeagueLevels$Tape" (64 : Nat) ({ cls := "LeagueLevels$Tape", name := "next", desc := "()V" } : MethodName)) ∈ llTb := llTb_of (List.mem_append_right _ (List.mem_of_getElem? (i := 552) (by decide +kernel))) (by decide)
set_option maxRecDepth 100000 in
theorem wd_553 : (Cond.methodLink "LeagueLevels$Tape" (71 : Nat) ({ cls := "LeagueLevels$Tape", name := "fail", desc := "(I)Z" } : MethodName)) ∈ llTb := llTb_of (List.mem_append_right _ (List.mem_of_getElem? (i := 553) (by decide +kernel))) (by decide)
set_option maxRecDepth 100000 in
theorem wd_554 : (Cond.constantLong "LeagueLevels$PyramidText" (66 : Nat) (28518 : Int64)) ∈ llTb := llTb_of (List.mem_append_right _ (List.mem_of_getElem? (i := 554) (by decide +kernel))) (by decide)
set_option maxRecDepth 100000 in
theorem wd_555 : (Cond.methodLink "LeagueLevels$PyramidText" (68 : Nat) ({ cls := "LeagueLevels$Tape", name := "takeWord", desc := "(J)Z" } : MethodName)) ∈ llTb := llTb_of (List.mem_append_right _ (List.mem_of_getElem? (i := 555) (by decide +kernel))) (by decide)
set_option maxRecDepth 100000 in
theorem wd_556 : (Cond.instanceMethod ({ cls := "LeagueLevels$Tape", name := "takeWord", desc := "(J)Z" } : MethodName)) ∈ llTb := llTb_of (List.mem_append_right _ (List.mem_of_getElem? (i := 556) (by decide +kernel))) (by decide)
set_option maxRecDepth 100000 in
theorem wd_557 : (Cond.selects "LeagueLevels$Tape" ({ cls := "LeagueLevels$Tape", name := "takeWord", desc := "(J)Z" } : MethodName) ({ cls := "LeagueLevels$Tape", name := "takeWord", desc := "(J)Z" } : MethodName)) ∈ llTb := llTb_of (List.mem_append_right _ (List.mem_of_getElem? (i := 557) (by decide +kernel))) (by decide)
set_option maxRecDepth 100000 in
theorem wd_558 : (Cond.code ({ cls := "LeagueLevels$Tape", name := "takeWord", desc := "(J)Z" } : MethodName) prog_11_method_12_code (3 : Nat) (Option.some ClassFile.FieldType.boolean)) ∈ llTb := llTb_of (List.mem_append_right _ (List.mem_of_getElem? (i := 558) (by exact rfl))) (by decide)
set_option maxRecDepth 100000 in
theorem wd_559 : (Cond.methodLink "LeagueLevels$Tape" (67 : Nat) ({ cls := "LeagueLevels$Tape", name := "isWord", desc := "(J)Z" } : MethodName)) ∈ llTb := llTb_of (List.mem_append_right _ (List.mem_of_getElem? (i := 559) (by decide +kernel))) (by decide)
set_option maxRecDepth 100000 in
theorem wd_560 : (Cond.methodLink "LeagueLevels$PyramidText" (71 : Nat) ({ cls := "java/lang/Math", name := "min", desc := "(II)I" } : MethodName)) ∈ llTb := llTb_of (List.mem_append_right _ (List.mem_of_getElem? (i := 560) (by decide +kernel))) (by decide)
set_option maxRecDepth 100000 in
theorem wd_561 : (Cond.static ({ cls := "java/lang/Math", name := "min", desc := "(II)I" } : MethodName)) ∈ llTb := llTb_of (List.mem_append_right _ (List.mem_of_getElem? (i := 561) (by decide +kernel))) (by decide)
set_option maxRecDepth 100000 in
theorem wd_562 : (Cond.code ({ cls := "java/lang/Math", name := "min", desc := "(II)I" } : MethodName) prog_18_method_69_code (2 : Nat) (Option.some ClassFile.FieldType.int)) ∈ llTb := llTb_of (List.mem_append_right _ (List.mem_of_getElem? (i := 562) (by exact rfl))) (by decide)
set_option maxRecDepth 100000 in
theorem wd_563 : (Cond.constantLong "LeagueLevels$PyramidText" (76 : Nat) (1685026670 : Int64)) ∈ llTb := llTb_of (List.mem_append_right _ (List.mem_of_getElem? (i := 563) (by decide +kernel))) (by decide)
set_option maxRecDepth 100000 in
theorem wd_564 : (Cond.constantLong "LeagueLevels$PyramidText" (78 : Nat) (1852138852 : Int64)) ∈ llTb := llTb_of (List.mem_append_right _ (List.mem_of_getElem? (i := 564) (by decide +kernel))) (by decide)
set_option maxRecDepth 100000 in
theorem wd_565 : (Cond.methodLink "LeagueLevels$PyramidText" (80 : Nat) ({ cls := "LeagueLevels$Tape", name := "takeSign", desc := "(C)Z" } : MethodName)) ∈ llTb := llTb_of (List.mem_append_right _ (List.mem_of_getElem? (i := 565) (by decide +kernel))) (by decide)
set_option maxRecDepth 100000 in
theorem wd_566 : (Cond.instanceMethod ({ cls := "LeagueLevels$Tape", name := "takeSign", desc := "(C)Z" } : MethodName)) ∈ llTb := llTb_of (List.mem_append_right _ (List.mem_of_getElem? (i := 566) (by decide +kernel))) (by decide)
set_option maxRecDepth 100000 in
theorem wd_567 : (Cond.selects "LeagueLevels$Tape" ({ cls := "LeagueLevels$Tape", name := "takeSign", desc := "(C)Z" } : MethodName) ({ cls := "LeagueLevels$Tape", name := "takeSign", desc := "(C)Z" } : MethodName)) ∈ llTb := llTb_of (List.mem_append_right _ (List.mem_of_getElem? (i := 567) (by decide +kernel))) (by decide)
set_option maxRecDepth 100000 in
theorem wd_568 : (Cond.code ({ cls := "LeagueLevels$Tape", name := "takeSign", desc := "(C)Z" } : MethodName) prog_11_method_13_code (2 : Nat) (Option.some ClassFile.FieldType.boolean)) ∈ llTb := llTb_of (List.mem_append_right _ (List.mem_of_getElem? (i := 568) (by exact rfl))) (by decide)
set_option maxRecDepth 100000 in
theorem wd_569 : (Cond.methodLink "LeagueLevels$Tape" (75 : Nat) ({ cls := "LeagueLevels$Tape", name := "isSign", desc := "(C)Z" } : MethodName)) ∈ llTb := llTb_of (List.mem_append_right _ (List.mem_of_getElem? (i := 569) (by decide +kernel))) (by decide)
set_option maxRecDepth 100000 in
theorem wd_570 : (Cond.instanceMethod ({ cls := "LeagueLevels$Tape", name := "isSign", desc := "(C)Z" } : MethodName)) ∈ llTb := llTb_of (List.mem_append_right _ (List.mem_of_getElem? (i := 570) (by decide +kernel))) (by decide)
set_option maxRecDepth 100000 in
theorem wd_571 : (Cond.selects "LeagueLevels$Tape" ({ cls := "LeagueLevels$Tape", name := "isSign", desc := "(C)Z" } : MethodName) ({ cls := "LeagueLevels$Tape", name := "isSign", desc := "(C)Z" } : MethodName)) ∈ llTb := llTb_of (List.mem_append_right _ (List.mem_of_getElem? (i := 571) (by decide +kernel))) (by decide)
set_option maxRecDepth 100000 in
theorem wd_572 : (Cond.code ({ cls := "LeagueLevels$Tape", name := "isSign", desc := "(C)Z" } : MethodName) prog_11_method_10_code (2 : Nat) (Option.some ClassFile.FieldType.boolean)) ∈ llTb := llTb_of (List.mem_append_right _ (List.mem_of_getElem? (i := 572) (by exact rfl))) (by decide)
set_option maxRecDepth 100000 in
theorem wd_573 : (Cond.constantLong "LeagueLevels$PyramidText" (57 : Nat) (1668052322 : Int64)) ∈ llTb := llTb_of (List.mem_append_right _ (List.mem_of_getElem? (i := 573) (by decide +kernel))) (by decide)
set_option maxRecDepth 100000 in
theorem wd_574 : (Cond.methodLink "LeagueLevels$PyramidText" (59 : Nat) ({ cls := "LeagueLevels$PyramidText", name := "readClub", desc := "(I)Z" } : MethodName)) ∈ llTb := llTb_of (List.mem_append_right _ (List.mem_of_getElem? (i := 574) (by decide +kernel))) (by decide)
set_option maxRecDepth 100000 in
theorem wd_576 : (Cond.instanceMethod ({ cls := "LeagueLevels$PyramidText", name := "readClub", desc := "(I)Z" } : MethodName)) ∈ llTb := llTb_of (List.mem_append_right _ (List.mem_of_getElem? (i := 576) (by decide +kernel))) (by decide)
set_option maxRecDepth 100000 in
theorem wd_577 : (Cond.code ({ cls := "LeagueLevels$PyramidText", name := "readClub", desc := "(I)Z" } : MethodName) prog_8_method_4_code (2 : Nat) (Option.some ClassFile.FieldType.boolean)) ∈ llTb := llTb_of (List.mem_append_right _ (List.mem_of_getElem? (i := 577) (by exact rfl))) (by decide)
set_option maxRecDepth 100000 in
theorem wd_578 : (Cond.methodLink "LeagueLevels$PyramidText" (97 : Nat) ({ cls := "LeagueLevels$Tape", name := "takeName", desc := "()Z" } : MethodName)) ∈ llTb := llTb_of (List.mem_append_right _ (List.mem_of_getElem? (i := 578) (by decide +kernel))) (by decide)
set_option maxRecDepth 100000 in
theorem wd_579 : (Cond.instanceMethod ({ cls := "LeagueLevels$Tape", name := "takeName", desc := "()Z" } : MethodName)) ∈ llTb := llTb_of (List.mem_append_right _ (List.mem_of_getElem? (i := 579) (by decide +kernel))) (by decide)
set_option maxRecDepth 100000 in
theorem wd_580 : (Cond.selects "LeagueLevels$Tape" ({ cls := "LeagueLevels$Tape", name := "takeName", desc := "()Z" } : MethodName) ({ cls := "LeagueLevels$Tape", name := "takeName", desc := "()Z" } : MethodName)) ∈ llTb := llTb_of (List.mem_append_right _ (List.mem_of_getElem? (i := 580) (by decide +kernel))) (by decide)
set_option maxRecDepth 100000 in
theorem wd_581 : (Cond.code ({ cls := "LeagueLevels$Tape", name := "takeName", desc := "()Z" } : MethodName) prog_11_method_14_code (1 : Nat) (Option.some ClassFile.FieldType.boolean)) ∈ llTb := llTb_of (List.mem_append_right _ (List.mem_of_getElem? (i := 581) (by exact rfl))) (by decide)
set_option maxRecDepth 100000 in
theorem wd_582 : (Cond.methodLink "LeagueLevels$Tape" (79 : Nat) ({ cls := "LeagueLevels$Tape", name := "isName", desc := "()Z" } : MethodName)) ∈ llTb := llTb_of (List.mem_append_right _ (List.mem_of_getElem? (i := 582) (by decide +kernel))) (by decide)
set_option maxRecDepth 100000 in
theorem wd_583 : (Cond.instanceMethod ({ cls := "LeagueLevels$Tape", name := "isName", desc := "()Z" } : MethodName)) ∈ llTb := llTb_of (List.mem_append_right _ (List.mem_of_getElem? (i := 583) (by decide +kernel))) (by decide)
set_option maxRecDepth 100000 in
theorem wd_584 : (Cond.selects "LeagueLevels$Tape" ({ cls := "LeagueLevels$Tape", name := "isName", desc := "()Z" } : MethodName) ({ cls := "LeagueLevels$Tape", name := "isName", desc := "()Z" } : MethodName)) ∈ llTb := llTb_of (List.mem_append_right _ (List.mem_of_getElem? (i := 584) (by decide +kernel))) (by decide)
set_option maxRecDepth 100000 in
theorem wd_585 : (Cond.code ({ cls := "LeagueLevels$Tape", name := "isName", desc := "()Z" } : MethodName) prog_11_method_11_code (1 : Nat) (Option.some ClassFile.FieldType.boolean)) ∈ llTb := llTb_of (List.mem_append_right _ (List.mem_of_getElem? (i := 585) (by exact rfl))) (by decide)
set_option maxRecDepth 100000 in
theorem wd_586 : (Cond.constantLong "LeagueLevels$Tape" (50 : Nat) (465558725996 : Int64)) ∈ llTb := llTb_of (List.mem_append_right _ (List.mem_of_getElem? (i := 586) (by decide +kernel))) (by decide)
set_option maxRecDepth 100000 in
theorem wd_587 : (Cond.constantLong "LeagueLevels$Tape" (52 : Nat) (28518 : Int64)) ∈ llTb := llTb_of (List.mem_append_right _ (List.mem_of_getElem? (i := 587) (by decide +kernel))) (by decide)
set_option maxRecDepth 100000 in
theorem wd_588 : (Cond.constantLong "LeagueLevels$Tape" (54 : Nat) (1685026670 : Int64)) ∈ llTb := llTb_of (List.mem_append_right _ (List.mem_of_getElem? (i := 588) (by decide +kernel))) (by decide)
set_option maxRecDepth 100000 in
theorem wd_589 : (Cond.constantLong "LeagueLevels$Tape" (56 : Nat) (1852138852 : Int64)) ∈ llTb := llTb_of (List.mem_append_right _ (List.mem_of_getElem? (i := 589) (by decide +kernel))) (by decide)
set_option maxRecDepth 100000 in
theorem wd_590 : (Cond.constantLong "LeagueLevels$Tape" (58 : Nat) (1668052322 : Int64)) ∈ llTb := llTb_of (List.mem_append_right _ (List.mem_of_getElem? (i := 590) (by decide +kernel))) (by decide)
set_option maxRecDepth 100000 in
theorem wd_591 : (Cond.constantLong "LeagueLevels$Tape" (60 : Nat) (444300616805 : Int64)) ∈ llTb := llTb_of (List.mem_append_right _ (List.mem_of_getElem? (i := 591) (by decide +kernel))) (by decide)
set_option maxRecDepth 100000 in
theorem wd_592 : (Cond.constantLong "LeagueLevels$Tape" (62 : Nat) (26990 : Int64)) ∈ llTb := llTb_of (List.mem_append_right _ (List.mem_of_getElem? (i := 592) (by decide +kernel))) (by decide)
set_option maxRecDepth 100000 in
theorem wd_593 : (Cond.methodLink "LeagueLevels$PyramidText" (104 : Nat) ({ cls := "LeagueLevels$Pyramid", name := "find", desc := "(J)I" } : MethodName)) ∈ llTb := llTb_of (List.mem_append_right _ (List.mem_of_getElem? (i := 593) (by decide +kernel))) (by decide)
set_option maxRecDepth 100000 in
theorem wd_594 : (Cond.instanceMethod ({ cls := "LeagueLevels$Pyramid", name := "find", desc := "(J)I" } : MethodName)) ∈ llTb := llTb_of (List.mem_append_right _ (List.mem_of_getElem? (i := 594) (by decide +kernel))) (by decide)
set_option maxRecDepth 100000 in
theorem wd_595 : (Cond.selects "LeagueLevels$Pyramid" ({ cls := "LeagueLevels$Pyramid", name := "find", desc := "(J)I" } : MethodName) ({ cls := "LeagueLevels$Pyramid", name := "find", desc := "(J)I" } : MethodName)) ∈ llTb := llTb_of (List.mem_append_right _ (List.mem_of_getElem? (i := 595) (by decide +kernel))) (by decide)
set_option maxRecDepth 100000 in
theorem wd_596 : (Cond.code ({ cls := "LeagueLevels$Pyramid", name := "find", desc := "(J)I" } : MethodName) prog_7_method_9_code (4 : Nat) (Option.some ClassFile.FieldType.int)) ∈ llTb := llTb_of (List.mem_append_right _ (List.mem_of_getElem? (i := 596) (by exact rfl))) (by decide)
set_option maxRecDepth 100000 in
theorem wd_597 : (Cond.constantLong "LeagueLevels$PyramidText" (118 : Nat) (444300616805 : Int64)) ∈ llTb := llTb_of (List.mem_append_right _ (List.mem_of_getElem? (i := 597) (by decide +kernel))) (by decide)
set_option maxRecDepth 100000 in
theorem wd_598 : (Cond.methodLink "LeagueLevels$PyramidText" (123 : Nat) ({ cls := "LeagueLevels$PyramidText", name := "readPlace", desc := "(I)Z" } : MethodName)) ∈ llTb := llTb_of (List.mem_append_right _ (List.mem_of_getElem? (i := 598) (by decide +kernel))) (by decide)
set_option maxRecDepth 100000 in
theorem wd_600 : (Cond.instanceMethod ({ cls := "LeagueLevels$PyramidText", name := "readPlace", desc := "(I)Z" } : MethodName)) ∈ llTb := llTb_of (List.mem_append_right _ (List.mem_of_getElem? (i := 600) (by decide +kernel))) (by decide)
set_option maxRecDepth 100000 in
theorem wd_601 : (Cond.code ({ cls := "LeagueLevels$PyramidText", name := "readPlace", desc := "(I)Z" } : MethodName) prog_8_method_5_code (4 : Nat) (Option.some ClassFile.FieldType.boolean)) ∈ llTb := llTb_of (List.mem_append_right _ (List.mem_of_getElem? (i := 601) (by exact rfl))) (by decide)
set_option maxRecDepth 100000 in
theorem wd_602 : (Cond.constantLong "LeagueLevels$PyramidText" (132 : Nat) (26990 : Int64)) ∈ llTb := llTb_of (List.mem_append_right _ (List.mem_of_getElem? (i := 602) (by decide +kernel))) (by decide)
set_option maxRecDepth 100000 in
theorem wd_603 : (Cond.methodLink "LeagueLevels$PyramidText" (134 : Nat) ({ cls := "LeagueLevels$Tape", name := "isSign", desc := "(C)Z" } : MethodName)) ∈ llTb := llTb_of (List.mem_append_right _ (List.mem_of_getElem? (i := 603) (by decide +kernel))) (by decide)
set_option maxRecDepth 100000 in
theorem wd_604 : (Cond.methodLink "LeagueLevels$PyramidText" (137 : Nat) ({ cls := "LeagueLevels$Pyramid", name := "hasLevel", desc := "(I)Z" } : MethodName)) ∈ llTb := llTb_of (List.mem_append_right _ (List.mem_of_getElem? (i := 604) (by decide +kernel))) (by decide)
set_option maxRecDepth 100000 in
theorem wd_605 : (Cond.instanceMethod ({ cls := "LeagueLevels$Pyramid", name := "hasLevel", desc := "(I)Z" } : MethodName)) ∈ llTb := llTb_of (List.mem_append_right _ (List.mem_of_getElem? (i := 605) (by decide +kernel))) (by decide)
set_option maxRecDepth 100000 in
theorem wd_606 : (Cond.selects "LeagueLevels$Pyramid" ({ cls := "LeagueLevels$Pyramid", name := "hasLevel", desc := "(I)Z" } : MethodName) ({ cls := "LeagueLevels$Pyramid", name := "hasLevel", desc := "(I)Z" } : MethodName)) ∈ llTb := llTb_of (List.mem_append_right _ (List.mem_of_getElem? (i := 606) (by decide +kernel))) (by decide)
set_option maxRecDepth 100000 in
theorem wd_607 : (Cond.code ({ cls := "LeagueLevels$Pyramid", name := "hasLevel", desc := "(I)Z" } : MethodName) prog_7_method_3_code (2 : Nat) (Option.some ClassFile.FieldType.boolean)) ∈ llTb := llTb_of (List.mem_append_right _ (List.mem_of_getElem? (i := 607) (by exact rfl))) (by decide)
set_option maxRecDepth 100000 in
theorem wd_608 : (Cond.methodLink "LeagueLevels$PyramidText" (140 : Nat) ({ cls := "LeagueLevels$Pyramid", name := "howManyIn", desc := "(II)I" } : MethodName)) ∈ llTb := llTb_of (List.mem_append_right _ (List.mem_of_getElem? (i := 608) (by decide +kernel))) (by decide)
set_option maxRecDepth 100000 in
theorem wd_609 : (Cond.instanceMethod ({ cls := "LeagueLevels$Pyramid", name := "howManyIn", desc := "(II)I" } : MethodName)) ∈ llTb := llTb_of (List.mem_append_right _ (List.mem_of_getElem? (i := 609) (by decide +kernel))) (by decide)
set_option maxRecDepth 100000 in
theorem wd_610 : (Cond.selects "LeagueLevels$Pyramid" ({ cls := "LeagueLevels$Pyramid", name := "howManyIn", desc := "(II)I" } : MethodName) ({ cls := "LeagueLevels$Pyramid", name := "howManyIn", desc := "(II)I" } : MethodName)) ∈ llTb := llTb_of (List.mem_append_right _ (List.mem_of_getElem? (i := 610) (by decide +kernel))) (by decide)
set_option maxRecDepth 100000 in
theorem wd_611 : (Cond.code ({ cls := "LeagueLevels$Pyramid", name := "howManyIn", desc := "(II)I" } : MethodName) prog_7_method_11_code (5 : Nat) (Option.some ClassFile.FieldType.int)) ∈ llTb := llTb_of (List.mem_append_right _ (List.mem_of_getElem? (i := 611) (by exact rfl))) (by decide)
set_option maxRecDepth 100000 in
theorem wd_612 : (Cond.methodLink "LeagueLevels$Pyramid" (66 : Nat) ({ cls := "LeagueLevels$Pyramid", name := "standsIn", desc := "(III)Z" } : MethodName)) ∈ llTb := llTb_of (List.mem_append_right _ (List.mem_of_getElem? (i := 612) (by decide +kernel))) (by decide)
set_option maxRecDepth 100000 in
theorem wd_613 : (Cond.instanceMethod ({ cls := "LeagueLevels$Pyramid", name := "standsIn", desc := "(III)Z" } : MethodName)) ∈ llTb := llTb_of (List.mem_append_right _ (List.mem_of_getElem? (i := 613) (by decide +kernel))) (by decide)
set_option maxRecDepth 100000 in
theorem wd_614 : (Cond.selects "LeagueLevels$Pyramid" ({ cls := "LeagueLevels$Pyramid", name := "standsIn", desc := "(III)Z" } : MethodName) ({ cls := "LeagueLevels$Pyramid", name := "standsIn", desc := "(III)Z" } : MethodName)) ∈ llTb := llTb_of (List.mem_append_right _ (List.mem_of_getElem? (i := 614) (by decide +kernel))) (by decide)
set_option maxRecDepth 100000 in
theorem wd_615 : (Cond.code ({ cls := "LeagueLevels$Pyramid", name := "standsIn", desc := "(III)Z" } : MethodName) prog_7_method_7_code (4 : Nat) (Option.some ClassFile.FieldType.boolean)) ∈ llTb := llTb_of (List.mem_append_right _ (List.mem_of_getElem? (i := 615) (by exact rfl))) (by decide)
set_option maxRecDepth 100000 in
theorem wd_616 : (Cond.methodLink "LeagueLevels" (106 : Nat) ({ cls := "LeagueLevels$Pyramid", name := "copy", desc := "(LLeagueLevels$Pyramid;)V" } : MethodName)) ∈ llTb := llTb_of (List.mem_append_right _ (List.mem_of_getElem? (i := 616) (by decide +kernel))) (by decide)
set_option maxRecDepth 100000 in
theorem wd_617 : (Cond.instanceMethod ({ cls := "LeagueLevels$Pyramid", name := "copy", desc := "(LLeagueLevels$Pyramid;)V" } : MethodName)) ∈ llTb := llTb_of (List.mem_append_right _ (List.mem_of_getElem? (i := 617) (by decide +kernel))) (by decide)
set_option maxRecDepth 100000 in
theorem wd_618 : (Cond.selects "LeagueLevels$Pyramid" ({ cls := "LeagueLevels$Pyramid", name := "copy", desc := "(LLeagueLevels$Pyramid;)V" } : MethodName) ({ cls := "LeagueLevels$Pyramid", name := "copy", desc := "(LLeagueLevels$Pyramid;)V" } : MethodName)) ∈ llTb := llTb_of (List.mem_append_right _ (List.mem_of_getElem? (i := 618) (by decide +kernel))) (by decide)
set_option maxRecDepth 100000 in
theorem wd_619 : (Cond.code ({ cls := "LeagueLevels$Pyramid", name := "copy", desc := "(LLeagueLevels$Pyramid;)V" } : MethodName) prog_7_method_2_code (2 : Nat) (Option.none : Option ClassFile.FieldType)) ∈ llTb := llTb_of (List.mem_append_right _ (List.mem_of_getElem? (i := 619) (by exact rfl))) (by decide)
set_option maxRecDepth 100000 in
theorem wd_620 : (Cond.methodLink "LeagueLevels$Pyramid" (47 : Nat) ({ cls := "java/lang/System", name := "arraycopy", desc := "(Ljava/lang/Object;ILjava/lang/Object;II)V" } : MethodName)) ∈ llTb := llTb_of (List.mem_append_right _ (List.mem_of_getElem? (i := 620) (by decide +kernel))) (by decide)
set_option maxRecDepth 100000 in
theorem wd_621 : (Cond.static ({ cls := "java/lang/System", name := "arraycopy", desc := "(Ljava/lang/Object;ILjava/lang/Object;II)V" } : MethodName)) ∈ llTb := llTb_of (List.mem_append_right _ (List.mem_of_getElem? (i := 621) (by decide +kernel))) (by decide)
set_option maxRecDepth 100000 in
theorem wd_622 : (Cond.native ({ cls := "java/lang/System", name := "arraycopy", desc := "(Ljava/lang/Object;ILjava/lang/Object;II)V" } : MethodName)) ∈ llTb := llTb_of (List.mem_append_right _ (List.mem_of_getElem? (i := 622) (by decide +kernel))) (by decide)
set_option maxRecDepth 100000 in
theorem wd_623 : (Cond.methodLink "LeagueLevels" (109 : Nat) ({ cls := "LeagueLevels$Travel", name := "measure", desc := "()V" } : MethodName)) ∈ llTb := llTb_of (List.mem_append_right _ (List.mem_of_getElem? (i := 623) (by decide +kernel))) (by decide)
set_option maxRecDepth 100000 in
theorem wd_624 : (Cond.instanceMethod ({ cls := "LeagueLevels$Travel", name := "measure", desc := "()V" } : MethodName)) ∈ llTb := llTb_of (List.mem_append_right _ (List.mem_of_getElem? (i := 624) (by decide +kernel))) (by decide)
set_option maxRecDepth 100000 in
theorem wd_625 : (Cond.selects "LeagueLevels$Travel" ({ cls := "LeagueLevels$Travel", name := "measure", desc := "()V" } : MethodName) ({ cls := "LeagueLevels$Travel", name := "measure", desc := "()V" } : MethodName)) ∈ llTb := llTb_of (List.mem_append_right _ (List.mem_of_getElem? (i := 625) (by decide +kernel))) (by decide)
set_option maxRecDepth 100000 in
theorem wd_626 : (Cond.code ({ cls := "LeagueLevels$Travel", name := "measure", desc := "()V" } : MethodName) prog_12_method_2_code (6 : Nat) (Option.none : Option ClassFile.FieldType)) ∈ llTb := llTb_of (List.mem_append_right _ (List.mem_of_getElem? (i := 626) (by exact rfl))) (by decide)
set_option maxRecDepth 100000 in
theorem wd_627 : (Cond.methodLink "LeagueLevels$Travel" (37 : Nat) ({ cls := "LeagueLevels$Travel", name := "rootOf", desc := "(I)I" } : MethodName)) ∈ llTb := llTb_of (List.mem_append_right _ (List.mem_of_getElem? (i := 627) (by decide +kernel))) (by decide)
set_option maxRecDepth 100000 in
theorem wd_628 : (Cond.static ({ cls := "LeagueLevels$Travel", name := "rootOf", desc := "(I)I" } : MethodName)) ∈ llTb := llTb_of (List.mem_append_right _ (List.mem_of_getElem? (i := 628) (by decide +kernel))) (by decide)
set_option maxRecDepth 100000 in
theorem wd_629 : (Cond.code ({ cls := "LeagueLevels$Travel", name := "rootOf", desc := "(I)I" } : MethodName) prog_12_method_3_code (4 : Nat) (Option.some ClassFile.FieldType.int)) ∈ llTb := llTb_of (List.mem_append_right _ (List.mem_of_getElem? (i := 629) (by exact rfl))) (by decide)
set_option maxRecDepth 100000 in
theorem wd_630 : (Cond.methodLink "LeagueLevels" (112 : Nat) ({ cls := "LeagueLevels$Parting", name := "forgetAll", desc := "()V" } : MethodName)) ∈ llTb := llTb_of (List.mem_append_right _ (List.mem_of_getElem? (i := 630) (by decide +kernel))) (by decide)
set_option maxRecDepth 100000 in
theorem wd_631 : (Cond.instanceMethod ({ cls := "LeagueLevels$Parting", name := "forgetAll", desc := "()V" } : MethodName)) ∈ llTb := llTb_of (List.mem_append_right _ (List.mem_of_getElem? (i := 631) (by decide +kernel))) (by decide)
set_option maxRecDepth 100000 in
theorem wd_632 : (Cond.selects "LeagueLevels$Parting" ({ cls := "LeagueLevels$Parting", name := "forgetAll", desc := "()V" } : MethodName) ({ cls := "LeagueLevels$Parting", name := "forgetAll", desc := "()V" } : MethodName)) ∈ llTb := llTb_of (List.mem_append_right _ (List.mem_of_getElem? (i := 632) (by decide +kernel))) (by decide)
set_option maxRecDepth 100000 in
theorem wd_633 : (Cond.code ({ cls := "LeagueLevels$Parting", name := "forgetAll", desc := "()V" } : MethodName) prog_6_method_2_code (1 : Nat) (Option.none : Option ClassFile.FieldType)) ∈ llTb := llTb_of (List.mem_append_right _ (List.mem_of_getElem? (i := 633) (by exact rfl))) (by decide)
set_option maxRecDepth 100000 in
theorem wd_634 : (Cond.methodLink "LeagueLevels$Parting" (50 : Nat) ({ cls := "java/util/Arrays", name := "fill", desc := "([II)V" } : MethodName)) ∈ llTb := llTb_of (List.mem_append_right _ (List.mem_of_getElem? (i := 634) (by decide +kernel))) (by decide)
set_option maxRecDepth 100000 in
theorem wd_635 : (Cond.methodLink "LeagueLevels" (115 : Nat) ({ cls := "LeagueLevels$Season", name := "begin", desc := "()V" } : MethodName)) ∈ llTb := llTb_of (List.mem_append_right _ (List.mem_of_getElem? (i := 635) (by decide +kernel))) (by decide)
set_option maxRecDepth 100000 in
theorem wd_636 : (Cond.instanceMethod ({ cls := "LeagueLevels$Season", name := "begin", desc := "()V" } : MethodName)) ∈ llTb := llTb_of (List.mem_append_right _ (List.mem_of_getElem? (i := 636) (by decide +kernel))) (by decide)
set_option maxRecDepth 100000 in
theorem wd_637 : (Cond.selects "LeagueLevels$Season" ({ cls := "LeagueLevels$Season", name := "begin", desc := "()V" } : MethodName) ({ cls := "LeagueLevels$Season", name := "begin", desc := "()V" } : MethodName)) ∈ llTb := llTb_of (List.mem_append_right _ (List.mem_of_getElem? (i := 637) (by decide +kernel))) (by decide)
set_option maxRecDepth 100000 in
theorem wd_638 : (Cond.code ({ cls := "LeagueLevels$Season", name := "begin", desc := "()V" } : MethodName) prog_9_method_2_code (1 : Nat) (Option.none : Option ClassFile.FieldType)) ∈ llTb := llTb_of (List.mem_append_right _ (List.mem_of_getElem? (i := 638) (by exact rfl))) (by decide)
set_option maxRecDepth 100000 in
theorem wd_639 : (Cond.methodLink "LeagueLevels$Season" (51 : Nat) ({ cls := "LeagueLevels$Season", name := "keepFirst", desc := "(I)V" } : MethodName)) ∈ llTb := llTb_of (List.mem_append_right _ (List.mem_of_getElem? (i := 639) (by decide +kernel))) (by decide)
set_option maxRecDepth 100000 in
theorem wd_640 : (Cond.instanceMethod ({ cls := "LeagueLevels$Season", name := "keepFirst", desc := "(I)V" } : MethodName)) ∈ llTb := llTb_of (List.mem_append_right _ (List.mem_of_getElem? (i := 640) (by decide +kernel))) (by decide)
set_option maxRecDepth 100000 in
theorem wd_641 : (Cond.selects "LeagueLevels$Season" ({ cls := "LeagueLevels$Season", name := "keepFirst", desc := "(I)V" } : MethodName) ({ cls := "LeagueLevels$Season", name := "keepFirst", desc := "(I)V" } : MethodName)) ∈ llTb := llTb_of (List.mem_append_right _ (List.mem_of_getElem? (i := 641) (by decide +kernel))) (by decide)
set_option maxRecDepth 100000 in
theorem wd_642 : (Cond.code ({ cls := "LeagueLevels$Season", name := "keepFirst", desc := "(I)V" } : MethodName) prog_9_method_4_code (7 : Nat) (Option.none : Option ClassFile.FieldType)) ∈ llTb := llTb_of (List.mem_append_right _ (List.mem_of_getElem? (i := 642) (by exact rfl))) (by decide)
set_option maxRecDepth 100000 in
theorem wd_643 : (Cond.methodLink "LeagueLevels$Season" (63 : Nat) ({ cls := "LeagueLevels$Season", name := "homeGoals", desc := "(II)I" } : MethodName)) ∈ llTb := llTb_of (List.mem_append_right _ (List.mem_of_getElem? (i := 643) (by decide +kernel))) (by decide)
set_option maxRecDepth 100000 in
theorem wd_644 : (Cond.instanceMethod ({ cls := "LeagueLevels$Season", name := "homeGoals", desc := "(II)I" } : MethodName)) ∈ llTb := llTb_of (List.mem_append_right _ (List.mem_of_getElem? (i := 644) (by decide +kernel))) (by decide)
set_option maxRecDepth 100000 in
theorem wd_645 : (Cond.selects "LeagueLevels$Season" ({ cls := "LeagueLevels$Season", name := "homeGoals", desc := "(II)I" } : MethodName) ({ cls := "LeagueLevels$Season", name := "homeGoals", desc := "(II)I" } : MethodName)) ∈ llTb := llTb_of (List.mem_append_right _ (List.mem_of_getElem? (i := 645) (by decide +kernel))) (by decide)
set_option maxRecDepth 100000 in
theorem wd_646 : (Cond.code ({ cls := "LeagueLevels$Season", name := "homeGoals", desc := "(II)I" } : MethodName) prog_9_method_7_code (3 : Nat) (Option.some ClassFile.FieldType.int)) ∈ llTb := llTb_of (List.mem_append_right _ (List.mem_of_getElem? (i := 646) (by exact rfl))) (by decide)
set_option maxRecDepth 100000 in
theorem wd_647 : (Cond.methodLink "LeagueLevels$Season" (75 : Nat) ({ cls := "LeagueLevels$Season", name := "isTold", desc := "(II)Z" } : MethodName)) ∈ llTb := llTb_of (List.mem_append_right _ (List.mem_of_getElem? (i := 647) (by decide +kernel))) (by decide)
set_option maxRecDepth 100000 in
theorem wd_648 : (Cond.instanceMethod ({ cls := "LeagueLevels$Season", name := "isTold", desc := "(II)Z" } : MethodName)) ∈ llTb := llTb_of (List.mem_append_right _ (List.mem_of_getElem? (i := 648) (by decide +kernel))) (by decide)
set_option maxRecDepth 100000 in
theorem wd_649 : (Cond.selects "LeagueLevels$Season" ({ cls := "LeagueLevels$Season", name := "isTold", desc := "(II)Z" } : MethodName) ({ cls := "LeagueLevels$Season", name := "isTold", desc := "(II)Z" } : MethodName)) ∈ llTb := llTb_of (List.mem_append_right _ (List.mem_of_getElem? (i := 649) (by decide +kernel))) (by decide)
set_option maxRecDepth 100000 in
theorem wd_650 : (Cond.code ({ cls := "LeagueLevels$Season", name := "isTold", desc := "(II)Z" } : MethodName) prog_9_method_6_code (3 : Nat) (Option.some ClassFile.FieldType.boolean)) ∈ llTb := llTb_of (List.mem_append_right _ (List.mem_of_getElem? (i := 650) (by exact rfl))) (by decide)
set_option maxRecDepth 100000 in
theorem wd_651 : (Cond.methodLink "LeagueLevels$Season" (67 : Nat) ({ cls := "LeagueLevels$Season", name := "awayGoals", desc := "(II)I" } : MethodName)) ∈ llTb := llTb_of (List.mem_append_right _ (List.mem_of_getElem? (i := 651) (by decide +kernel))) (by decide)
set_option maxRecDepth 100000 in
theorem wd_652 : (Cond.instanceMethod ({ cls := "LeagueLevels$Season", name := "awayGoals", desc := "(II)I" } : MethodName)) ∈ llTb := llTb_of (List.mem_append_right _ (List.mem_of_getElem? (i := 652) (by decide +kernel))) (by decide)
set_option maxRecDepth 100000 in
theorem wd_653 : (Cond.selects "LeagueLevels$Season" ({ cls := "LeagueLevels$Season", name := "awayGoals", desc := "(II)I" } : MethodName) ({ cls := "LeagueLevels$Season", name := "awayGoals", desc := "(II)I" } : MethodName)) ∈ llTb := llTb_of (List.mem_append_right _ (List.mem_of_getElem? (i := 653) (by decide +kernel))) (by decide)
set_option maxRecDepth 100000 in
theorem wd_654 : (Cond.code ({ cls := "LeagueLevels$Season", name := "awayGoals", desc := "(II)I" } : MethodName) prog_9_method_8_code (3 : Nat) (Option.some ClassFile.FieldType.int)) ∈ llTb := llTb_of (List.mem_append_right _ (List.mem_of_getElem? (i := 654) (by exact rfl))) (by decide)
set_option maxRecDepth 100000 in
theorem wd_655 : (Cond.methodLink "LeagueLevels$Season" (59 : Nat) ({ cls := "LeagueLevels$Season", name := "tally", desc := "(IIII)V" } : MethodName)) ∈ llTb := llTb_of (List.mem_append_right _ (List.mem_of_getElem? (i := 655) (by decide +kernel))) (by decide)
set_option maxRecDepth 100000 in
theorem wd_657 : (Cond.instanceMethod ({ cls := "LeagueLevels$Season", name := "tally", desc := "(IIII)V" } : MethodName)) ∈ llTb := llTb_of (List.mem_append_right _ (List.mem_of_getElem? (i := 657) (by decide +kernel))) (by decide)
set_option maxRecDepth 100000 in
theorem wd_658 : (Cond.code ({ cls := "LeagueLevels$Season", name := "tally", desc := "(IIII)V" } : MethodName) prog_9_method_5_code (5 : Nat) (Option.none : Option ClassFile.FieldType)) ∈ llTb := llTb_of (List.mem_append_right _ (List.mem_of_getElem? (i := 658) (by exact rfl))) (by decide)
set_option maxRecDepth 100000 in
theorem wd_659 : (Cond.methodLink "LeagueLevels$Season" (70 : Nat) ({ cls := "java/lang/Math", name := "min", desc := "(II)I" } : MethodName)) ∈ llTb := llTb_of (List.mem_append_right _ (List.mem_of_getElem? (i := 659) (by decide +kernel))) (by decide)
set_option maxRecDepth 100000 in
theorem wd_661 : (Cond.instanceMethod ({ cls := "LeagueLevels", name := "day", desc := "()I" } : MethodName)) ∈ llTb := llTb_of (List.mem_append_right _ (List.mem_of_getElem? (i := 661) (by decide +kernel))) (by decide)
set_option maxRecDepth 100000 in
theorem wd_662 : (Cond.selects "LeagueLevels" ({ cls := "LeagueLevels", name := "day", desc := "()I" } : MethodName) ({ cls := "LeagueLevels", name := "day", desc := "()I" } : MethodName)) ∈ llTb := llTb_of (List.mem_append_right _ (List.mem_of_getElem? (i := 662) (by decide +kernel))) (by decide)
set_option maxRecDepth 100000 in
theorem wd_663 : (Cond.code ({ cls := "LeagueLevels", name := "day", desc := "()I" } : MethodName) prog_1_method_5_code (4 : Nat) (Option.some ClassFile.FieldType.int)) ∈ llTb := llTb_of (List.mem_append_right _ (List.mem_of_getElem? (i := 663) (by exact rfl))) (by decide)
set_option maxRecDepth 100000 in
theorem wd_664 : (Cond.methodLink "LeagueLevels" (128 : Nat) ({ cls := "LeagueLevels$DayText", name := "read", desc := "()Z" } : MethodName)) ∈ llTb := llTb_of (List.mem_append_right _ (List.mem_of_getElem? (i := 664) (by decide +kernel))) (by decide)
set_option maxRecDepth 100000 in
theorem wd_665 : (Cond.instanceMethod ({ cls := "LeagueLevels$DayText", name := "read", desc := "()Z" } : MethodName)) ∈ llTb := llTb_of (List.mem_append_right _ (List.mem_of_getElem? (i := 665) (by decide +kernel))) (by decide)
set_option maxRecDepth 100000 in
theorem wd_666 : (Cond.selects "LeagueLevels$DayText" ({ cls := "LeagueLevels$DayText", name := "read", desc := "()Z" } : MethodName) ({ cls := "LeagueLevels$DayText", name := "read", desc := "()Z" } : MethodName)) ∈ llTb := llTb_of (List.mem_append_right _ (List.mem_of_getElem? (i := 666) (by decide +kernel))) (by decide)
set_option maxRecDepth 100000 in
theorem wd_667 : (Cond.code ({ cls := "LeagueLevels$DayText", name := "read", desc := "()Z" } : MethodName) prog_3_method_2_code (2 : Nat) (Option.some ClassFile.FieldType.boolean)) ∈ llTb := llTb_of (List.mem_append_right _ (List.mem_of_getElem? (i := 667) (by exact rfl))) (by decide)
set_option maxRecDepth 100000 in
theorem wd_668 : (Cond.methodLink "LeagueLevels$DayText" (23 : Nat) ({ cls := "LeagueLevels$Tape", name := "startText", desc := "()V" } : MethodName)) ∈ llTb := llTb_of (List.mem_append_right _ (List.mem_of_getElem? (i := 668) (by decide +kernel))) (by decide)
set_option maxRecDepth 100000 in
theorem wd_669 : (Cond.methodLink "LeagueLevels$DayText" (28 : Nat) ({ cls := "LeagueLevels$Tape", name := "next", desc := "()V" } : MethodName)) ∈ llTb := llTb_of (List.mem_append_right _ (List.mem_of_getElem? (i := 669) (by decide +kernel))) (by decide)
set_option maxRecDepth 100000 in
theorem wd_670 : (Cond.methodLink "LeagueLevels$DayText" (35 : Nat) ({ cls := "LeagueLevels$DayText", name := "readMatch", desc := "()Z" } : MethodName)) ∈ llTb := llTb_of (List.mem_append_right _ (List.mem_of_getElem? (i := 670) (by decide +kernel))) (by decide)
set_option maxRecDepth 100000 in
theorem wd_672 : (Cond.instanceMethod ({ cls := "LeagueLevels$DayText", name := "readMatch", desc := "()Z" } : MethodName)) ∈ llTb := llTb_of (List.mem_append_right _ (List.mem_of_getElem? (i := 672) (by decide +kernel))) (by decide)
set_option maxRecDepth 100000 in
theorem wd_673 : (Cond.code ({ cls := "LeagueLevels$DayText", name := "readMatch", desc := "()Z" } : MethodName) prog_3_method_3_code (5 : Nat) (Option.some ClassFile.FieldType.boolean)) ∈ llTb := llTb_of (List.mem_append_right _ (List.mem_of_getElem? (i := 673) (by exact rfl))) (by decide)
set_option maxRecDepth 100000 in
theorem wd_674 : (Cond.methodLink "LeagueLevels$DayText" (43 : Nat) ({ cls := "LeagueLevels$DayText", name := "clubHere", desc := "()I" } : MethodName)) ∈ llTb := llTb_of (List.mem_append_right _ (List.mem_of_getElem? (i := 674) (by decide +kernel))) (by decide)
set_option maxRecDepth 100000 in
theorem wd_676 : (Cond.instanceMethod ({ cls := "LeagueLevels$DayText", name := "clubHere", desc := "()I" } : MethodName)) ∈ llTb := llTb_of (List.mem_append_right _ (List.mem_of_getElem? (i := 676) (by decide +kernel))) (by decide)
set_option maxRecDepth 100000 in
theorem wd_677 : (Cond.code ({ cls := "LeagueLevels$DayText", name := "clubHere", desc := "()I" } : MethodName) prog_3_method_4_code (2 : Nat) (Option.some ClassFile.FieldType.int)) ∈ llTb := llTb_of (List.mem_append_right _ (List.mem_of_getElem? (i := 677) (by exact rfl))) (by decide)
set_option maxRecDepth 100000 in
theorem wd_678 : (Cond.methodLink "LeagueLevels$DayText" (70 : Nat) ({ cls := "LeagueLevels$Tape", name := "isName", desc := "()Z" } : MethodName)) ∈ llTb := llTb_of (List.mem_append_right _ (List.mem_of_getElem? (i := 678) (by decide +kernel))) (by decide)
set_option maxRecDepth 100000 in
theorem wd_679 : (Cond.methodLink "LeagueLevels$DayText" (39 : Nat) ({ cls := "LeagueLevels$Tape", name := "fail", desc := "(I)Z" } : MethodName)) ∈ llTb := llTb_of (List.mem_append_right _ (List.mem_of_getElem? (i := 679) (by decide +kernel))) (by decide)
set_option maxRecDepth 100000 in
theorem wd_680 : (Cond.methodLink "LeagueLevels$DayText" (77 : Nat) ({ cls := "LeagueLevels$Pyramid", name := "find", desc := "(J)I" } : MethodName)) ∈ llTb := llTb_of (List.mem_append_right _ (List.mem_of_getElem? (i := 680) (by decide +kernel))) (by decide)
set_option maxRecDepth 100000 in
theorem wd_681 : (Cond.methodLink "LeagueLevels$DayText" (47 : Nat) ({ cls := "LeagueLevels$Tape", name := "takeNumber", desc := "(II)I" } : MethodName)) ∈ llTb := llTb_of (List.mem_append_right _ (List.mem_of_getElem? (i := 681) (by decide +kernel))) (by decide)
set_option maxRecDepth 100000 in
theorem wd_682 : (Cond.methodLink "LeagueLevels$DayText" (51 : Nat) ({ cls := "LeagueLevels$Tape", name := "takeSign", desc := "(C)Z" } : MethodName)) ∈ llTb := llTb_of (List.mem_append_right _ (List.mem_of_getElem? (i := 682) (by decide +kernel))) (by decide)
set_option maxRecDepth 100000 in
theorem wd_683 : (Cond.methodLink "LeagueLevels$DayText" (55 : Nat) ({ cls := "LeagueLevels$Pyramid", name := "together", desc := "(II)Z" } : MethodName)) ∈ llTb := llTb_of (List.mem_append_right _ (List.mem_of_getElem? (i := 683) (by decide +kernel))) (by decide)
set_option maxRecDepth 100000 in
theorem wd_684 : (Cond.instanceMethod ({ cls := "LeagueLevels$Pyramid", name := "together", desc := "(II)Z" } : MethodName)) ∈ llTb := llTb_of (List.mem_append_right _ (List.mem_of_getElem? (i := 684) (by decide +kernel))) (by decide)
set_option maxRecDepth 100000 in
theorem wd_685 : (Cond.selects "LeagueLevels$Pyramid" ({ cls := "LeagueLevels$Pyramid", name := "together", desc := "(II)Z" } : MethodName) ({ cls := "LeagueLevels$Pyramid", name := "together", desc := "(II)Z" } : MethodName)) ∈ llTb := llTb_of (List.mem_append_right _ (List.mem_of_getElem? (i := 685) (by decide +kernel))) (by decide)
set_option maxRecDepth 100000 in
theorem wd_686 : (Cond.code ({ cls := "LeagueLevels$Pyramid", name := "together", desc := "(II)Z" } : MethodName) prog_7_method_8_code (3 : Nat) (Option.some ClassFile.FieldType.boolean)) ∈ llTb := llTb_of (List.mem_append_right _ (List.mem_of_getElem? (i := 686) (by exact rfl))) (by decide)
set_option maxRecDepth 100000 in
theorem wd_687 : (Cond.methodLink "LeagueLevels$Pyramid" (63 : Nat) ({ cls := "LeagueLevels$Pyramid", name := "plays", desc := "(I)Z" } : MethodName)) ∈ llTb := llTb_of (List.mem_append_right _ (List.mem_of_getElem? (i := 687) (by decide +kernel))) (by decide)
set_option maxRecDepth 100000 in
theorem wd_688 : (Cond.instanceMethod ({ cls := "LeagueLevels$Pyramid", name := "plays", desc := "(I)Z" } : MethodName)) ∈ llTb := llTb_of (List.mem_append_right _ (List.mem_of_getElem? (i := 688) (by decide +kernel))) (by decide)
set_option maxRecDepth 100000 in
theorem wd_689 : (Cond.selects "LeagueLevels$Pyramid" ({ cls := "LeagueLevels$Pyramid", name := "plays", desc := "(I)Z" } : MethodName) ({ cls := "LeagueLevels$Pyramid", name := "plays", desc := "(I)Z" } : MethodName)) ∈ llTb := llTb_of (List.mem_append_right _ (List.mem_of_getElem? (i := 689) (by decide +kernel))) (by decide)
set_option maxRecDepth 100000 in
theorem wd_690 : (Cond.code ({ cls := "LeagueLevels$Pyramid", name := "plays", desc := "(I)Z" } : MethodName) prog_7_method_6_code (2 : Nat) (Option.some ClassFile.FieldType.boolean)) ∈ llTb := llTb_of (List.mem_append_right _ (List.mem_of_getElem? (i := 690) (by exact rfl))) (by decide)
set_option maxRecDepth 100000 in
theorem wd_691 : (Cond.methodLink "LeagueLevels$Pyramid" (60 : Nat) ({ cls := "LeagueLevels$Pyramid", name := "isClub", desc := "(I)Z" } : MethodName)) ∈ llTb := llTb_of (List.mem_append_right _ (List.mem_of_getElem? (i := 691) (by decide +kernel))) (by decide)
set_option maxRecDepth 100000 in
theorem wd_692 : (Cond.instanceMethod ({ cls := "LeagueLevels$Pyramid", name := "isClub", desc := "(I)Z" } : MethodName)) ∈ llTb := llTb_of (List.mem_append_right _ (List.mem_of_getElem? (i := 692) (by decide +kernel))) (by decide)
set_option maxRecDepth 100000 in
theorem wd_693 : (Cond.selects "LeagueLevels$Pyramid" ({ cls := "LeagueLevels$Pyramid", name := "isClub", desc := "(I)Z" } : MethodName) ({ cls := "LeagueLevels$Pyramid", name := "isClub", desc := "(I)Z" } : MethodName)) ∈ llTb := llTb_of (List.mem_append_right _ (List.mem_of_getElem? (i := 693) (by decide +kernel))) (by decide)
set_option maxRecDepth 100000 in
theorem wd_694 : (Cond.code ({ cls := "LeagueLevels$Pyramid", name := "isClub", desc := "(I)Z" } : MethodName) prog_7_method_5_code (2 : Nat) (Option.some ClassFile.FieldType.boolean)) ∈ llTb := llTb_of (List.mem_append_right _ (List.mem_of_getElem? (i := 694) (by exact rfl))) (by decide)
set_option maxRecDepth 100000 in
theorem wd_695 : (Cond.methodLink "LeagueLevels$Pyramid" (56 : Nat) ({ cls := "LeagueLevels$Pyramid", name := "hasLevel", desc := "(I)Z" } : MethodName)) ∈ llTb := llTb_of (List.mem_append_right _ (List.mem_of_getElem? (i := 695) (by decide +kernel))) (by decide)
set_option maxRecDepth 100000 in
theorem wd_696 : (Cond.methodLink "LeagueLevels$DayText" (61 : Nat) ({ cls := "LeagueLevels$Season", name := "isTold", desc := "(II)Z" } : MethodName)) ∈ llTb := llTb_of (List.mem_append_right _ (List.mem_of_getElem? (i := 696) (by decide +kernel))) (by decide)
set_option maxRecDepth 100000 in
theorem wd_697 : (Cond.methodLink "LeagueLevels$DayText" (66 : Nat) ({ cls := "LeagueLevels$Season", name := "tell", desc := "(IIII)V" } : MethodName)) ∈ llTb := llTb_of (List.mem_append_right _ (List.mem_of_getElem? (i := 697) (by decide +kernel))) (by decide)
set_option maxRecDepth 100000 in
theorem wd_698 : (Cond.instanceMethod ({ cls := "LeagueLevels$Season", name := "tell", desc := "(IIII)V" } : MethodName)) ∈ llTb := llTb_of (List.mem_append_right _ (List.mem_of_getElem? (i := 698) (by decide +kernel))) (by decide)
set_option maxRecDepth 100000 in
theorem wd_699 : (Cond.selects "LeagueLevels$Season" ({ cls := "LeagueLevels$Season", name := "tell", desc := "(IIII)V" } : MethodName) ({ cls := "LeagueLevels$Season", name := "tell", desc := "(IIII)V" } : MethodName)) ∈ llTb := llTb_of (List.mem_append_right _ (List.mem_of_getElem? (i := 699) (by decide +kernel))) (by decide)
set_option maxRecDepth 100000 in
theorem wd_700 : (Cond.code ({ cls := "LeagueLevels$Season", name := "tell", desc := "(IIII)V" } : MethodName) prog_9_method_3_code (5 : Nat) (Option.none : Option ClassFile.FieldType)) ∈ llTb := llTb_of (List.mem_append_right _ (List.mem_of_getElem? (i := 700) (by exact rfl))) (by decide)
set_option maxRecDepth 100000 in
theorem wd_701 : (Cond.methodLink "LeagueLevels" (129 : Nat) ({ cls := "LeagueLevels$Season", name := "keepFirst", desc := "(I)V" } : MethodName)) ∈ llTb := llTb_of (List.mem_append_right _ (List.mem_of_getElem? (i := 701) (by decide +kernel))) (by decide)
set_option maxRecDepth 100000 in
theorem wd_702 : (Cond.methodLink "LeagueLevels" (132 : Nat) ({ cls := "LeagueLevels$Deeds", name := "keep", desc := "(III)V" } : MethodName)) ∈ llTb := llTb_of (List.mem_append_right _ (List.mem_of_getElem? (i := 702) (by decide +kernel))) (by decide)
set_option maxRecDepth 100000 in
theorem wd_703 : (Cond.instanceMethod ({ cls := "LeagueLevels$Deeds", name := "keep", desc := "(III)V" } : MethodName)) ∈ llTb := llTb_of (List.mem_append_right _ (List.mem_of_getElem? (i := 703) (by decide +kernel))) (by decide)
set_option maxRecDepth 100000 in
theorem wd_704 : (Cond.selects "LeagueLevels$Deeds" ({ cls := "LeagueLevels$Deeds", name := "keep", desc := "(III)V" } : MethodName) ({ cls := "LeagueLevels$Deeds", name := "keep", desc := "(III)V" } : MethodName)) ∈ llTb := llTb_of (List.mem_append_right _ (List.mem_of_getElem? (i := 704) (by decide +kernel))) (by decide)
set_option maxRecDepth 100000 in
theorem wd_705 : (Cond.code ({ cls := "LeagueLevels$Deeds", name := "keep", desc := "(III)V" } : MethodName) prog_4_method_2_code (4 : Nat) (Option.none : Option ClassFile.FieldType)) ∈ llTb := llTb_of (List.mem_append_right _ (List.mem_of_getElem? (i := 705) (by exact rfl))) (by decide)
set_option maxRecDepth 100000 in
theorem wd_706 : (Cond.methodLink "LeagueLevels$Deeds" (31 : Nat) ({ cls := "java/lang/System", name := "arraycopy", desc := "(Ljava/lang/Object;ILjava/lang/Object;II)V" } : MethodName)) ∈ llTb := llTb_of (List.mem_append_right _ (List.mem_of_getElem? (i := 706) (by decide +kernel))) (by decide)
set_option maxRecDepth 100000 in
theorem wd_708 : (Cond.instanceMethod ({ cls := "LeagueLevels", name := "fault", desc := "(I)I" } : MethodName)) ∈ llTb := llTb_of (List.mem_append_right _ (List.mem_of_getElem? (i := 708) (by decide +kernel))) (by decide)
set_option maxRecDepth 100000 in
theorem wd_709 : (Cond.selects "LeagueLevels" ({ cls := "LeagueLevels", name := "fault", desc := "(I)I" } : MethodName) ({ cls := "LeagueLevels", name := "fault", desc := "(I)I" } : MethodName)) ∈ llTb := llTb_of (List.mem_append_right _ (List.mem_of_getElem? (i := 709) (by decide +kernel))) (by decide)
set_option maxRecDepth 100000 in
theorem wd_710 : (Cond.code ({ cls := "LeagueLevels", name := "fault", desc := "(I)I" } : MethodName) prog_1_method_6_code (2 : Nat) (Option.some ClassFile.FieldType.int)) ∈ llTb := llTb_of (List.mem_append_right _ (List.mem_of_getElem? (i := 710) (by exact rfl))) (by decide)
set_option maxRecDepth 100000 in
theorem wd_712 : (Cond.instanceMethod ({ cls := "LeagueLevels", name := "named", desc := "()I" } : MethodName)) ∈ llTb := llTb_of (List.mem_append_right _ (List.mem_of_getElem? (i := 712) (by decide +kernel))) (by decide)
set_option maxRecDepth 100000 in
theorem wd_713 : (Cond.selects "LeagueLevels" ({ cls := "LeagueLevels", name := "named", desc := "()I" } : MethodName) ({ cls := "LeagueLevels", name := "named", desc := "()I" } : MethodName)) ∈ llTb := llTb_of (List.mem_append_right _ (List.mem_of_getElem? (i := 713) (by decide +kernel))) (by decide)
set_option maxRecDepth 100000 in
theorem wd_714 : (Cond.code ({ cls := "LeagueLevels", name := "named", desc := "()I" } : MethodName) prog_1_method_7_code (5 : Nat) (Option.some ClassFile.FieldType.int)) ∈ llTb := llTb_of (List.mem_append_right _ (List.mem_of_getElem? (i := 714) (by exact rfl))) (by decide)
set_option maxRecDepth 100000 in
theorem wd_715 : (Cond.methodLink "LeagueLevels" (142 : Nat) ({ cls := "LeagueLevels$Tape", name := "rewind", desc := "()V" } : MethodName)) ∈ llTb := llTb_of (List.mem_append_right _ (List.mem_of_getElem? (i := 715) (by decide +kernel))) (by decide)
set_option maxRecDepth 100000 in
theorem wd_716 : (Cond.instanceMethod ({ cls := "LeagueLevels$Tape", name := "rewind", desc := "()V" } : MethodName)) ∈ llTb := llTb_of (List.mem_append_right _ (List.mem_of_getElem? (i := 716) (by decide +kernel))) (by decide)
set_option maxRecDepth 100000 in
theorem wd_717 : (Cond.selects "LeagueLevels$Tape" ({ cls := "LeagueLevels$Tape", name := "rewind", desc := "()V" } : MethodName) ({ cls := "LeagueLevels$Tape", name := "rewind", desc := "()V" } : MethodName)) ∈ llTb := llTb_of (List.mem_append_right _ (List.mem_of_getElem? (i := 717) (by decide +kernel))) (by decide)
set_option maxRecDepth 100000 in
theorem wd_718 : (Cond.code ({ cls := "LeagueLevels$Tape", name := "rewind", desc := "()V" } : MethodName) prog_11_method_3_code (1 : Nat) (Option.none : Option ClassFile.FieldType)) ∈ llTb := llTb_of (List.mem_append_right _ (List.mem_of_getElem? (i := 718) (by exact rfl))) (by decide)
set_option maxRecDepth 100000 in
theorem wd_719 : (Cond.methodLink "LeagueLevels" (145 : Nat) ({ cls := "LeagueLevels$Tape", name := "next", desc := "()V" } : MethodName)) ∈ llTb := llTb_of (List.mem_append_right _ (List.mem_of_getElem? (i := 719) (by decide +kernel))) (by decide)
set_option maxRecDepth 100000 in
theorem wd_720 : (Cond.methodLink "LeagueLevels" (155 : Nat) ({ cls := "LeagueLevels$Pyramid", name := "find", desc := "(J)I" } : MethodName)) ∈ llTb := llTb_of (List.mem_append_right _ (List.mem_of_getElem? (i := 720) (by decide +kernel))) (by decide)
set_option maxRecDepth 100000 in
theorem wd_722 : (Cond.instanceMethod ({ cls := "LeagueLevels", name := "resign", desc := "(I)Z" } : MethodName)) ∈ llTb := llTb_of (List.mem_append_right _ (List.mem_of_getElem? (i := 722) (by decide +kernel))) (by decide)
set_option maxRecDepth 100000 in
theorem wd_723 : (Cond.selects "LeagueLevels" ({ cls := "LeagueLevels", name := "resign", desc := "(I)Z" } : MethodName) ({ cls := "LeagueLevels", name := "resign", desc := "(I)Z" } : MethodName)) ∈ llTb := llTb_of (List.mem_append_right _ (List.mem_of_getElem? (i := 723) (by decide +kernel))) (by decide)
set_option maxRecDepth 100000 in
theorem wd_724 : (Cond.code ({ cls := "LeagueLevels", name := "resign", desc := "(I)Z" } : MethodName) prog_1_method_8_code (2 : Nat) (Option.some ClassFile.FieldType.boolean)) ∈ llTb := llTb_of (List.mem_append_right _ (List.mem_of_getElem? (i := 724) (by exact rfl))) (by decide)
set_option maxRecDepth 100000 in
theorem wd_725 : (Cond.methodLink "LeagueLevels" (159 : Nat) ({ cls := "LeagueLevels$Pyramid", name := "plays", desc := "(I)Z" } : MethodName)) ∈ llTb := llTb_of (List.mem_append_right _ (List.mem_of_getElem? (i := 725) (by decide +kernel))) (by decide)
set_option maxRecDepth 100000 in
theorem wd_727 : (Cond.instanceMethod ({ cls := "LeagueLevels", name := "refuse", desc := "(I)Z" } : MethodName)) ∈ llTb := llTb_of (List.mem_append_right _ (List.mem_of_getElem? (i := 727) (by decide +kernel))) (by decide)
set_option maxRecDepth 100000 in
theorem wd_728 : (Cond.selects "LeagueLevels" ({ cls := "LeagueLevels", name := "refuse", desc := "(I)Z" } : MethodName) ({ cls := "LeagueLevels", name := "refuse", desc := "(I)Z" } : MethodName)) ∈ llTb := llTb_of (List.mem_append_right _ (List.mem_of_getElem? (i := 728) (by decide +kernel))) (by decide)
set_option maxRecDepth 100000 in
theorem wd_729 : (Cond.code ({ cls := "LeagueLevels", name := "refuse", desc := "(I)Z" } : MethodName) prog_1_method_9_code (2 : Nat) (Option.some ClassFile.FieldType.boolean)) ∈ llTb := llTb_of (List.mem_append_right _ (List.mem_of_getElem? (i := 729) (by exact rfl))) (by decide)
set_option maxRecDepth 100000 in
theorem wd_731 : (Cond.instanceMethod ({ cls := "LeagueLevels", name := "deduct", desc := "(II)Z" } : MethodName)) ∈ llTb := llTb_of (List.mem_append_right _ (List.mem_of_getElem? (i := 731) (by decide +kernel))) (by decide)
set_option maxRecDepth 100000 in
theorem wd_732 : (Cond.selects "LeagueLevels" ({ cls := "LeagueLevels", name := "deduct", desc := "(II)Z" } : MethodName) ({ cls := "LeagueLevels", name := "deduct", desc := "(II)Z" } : MethodName)) ∈ llTb := llTb_of (List.mem_append_right _ (List.mem_of_getElem? (i := 732) (by decide +kernel))) (by decide)
set_option maxRecDepth 100000 in
theorem wd_733 : (Cond.code ({ cls := "LeagueLevels", name := "deduct", desc := "(II)Z" } : MethodName) prog_1_method_10_code (3 : Nat) (Option.some ClassFile.FieldType.boolean)) ∈ llTb := llTb_of (List.mem_append_right _ (List.mem_of_getElem? (i := 733) (by exact rfl))) (by decide)
set_option maxRecDepth 100000 in
theorem wd_735 : (Cond.instanceMethod ({ cls := "LeagueLevels", name := "grade", desc := "(II)Z" } : MethodName)) ∈ llTb := llTb_of (List.mem_append_right _ (List.mem_of_getElem? (i := 735) (by decide +kernel))) (by decide)
set_option maxRecDepth 100000 in
theorem wd_736 : (Cond.selects "LeagueLevels" ({ cls := "LeagueLevels", name := "grade", desc := "(II)Z" } : MethodName) ({ cls := "LeagueLevels", name := "grade", desc := "(II)Z" } : MethodName)) ∈ llTb := llTb_of (List.mem_append_right _ (List.mem_of_getElem? (i := 736) (by decide +kernel))) (by decide)
set_option maxRecDepth 100000 in
theorem wd_737 : (Cond.code ({ cls := "LeagueLevels", name := "grade", desc := "(II)Z" } : MethodName) prog_1_method_11_code (4 : Nat) (Option.some ClassFile.FieldType.boolean)) ∈ llTb := llTb_of (List.mem_append_right _ (List.mem_of_getElem? (i := 737) (by exact rfl))) (by decide)
set_option maxRecDepth 100000 in
theorem wd_738 : (Cond.methodLink "LeagueLevels" (173 : Nat) ({ cls := "LeagueLevels$Pyramid", name := "isClub", desc := "(I)Z" } : MethodName)) ∈ llTb := llTb_of (List.mem_append_right _ (List.mem_of_getElem? (i := 738) (by decide +kernel))) (by decide)
set_option maxRecDepth 100000 in
theorem wd_740 : (Cond.instanceMethod ({ cls := "LeagueLevels", name := "close", desc := "()I" } : MethodName)) ∈ llTb := llTb_of (List.mem_append_right _ (List.mem_of_getElem? (i := 740) (by decide +kernel))) (by decide)
set_option maxRecDepth 100000 in
theorem wd_741 : (Cond.selects "LeagueLevels" ({ cls := "LeagueLevels", name := "close", desc := "()I" } : MethodName) ({ cls := "LeagueLevels", name := "close", desc := "()I" } : MethodName)) ∈ llTb := llTb_of (List.mem_append_right _ (List.mem_of_getElem? (i := 741) (by decide +kernel))) (by decide)
set_option maxRecDepth 100000 in
theorem wd_742 : (Cond.code ({ cls := "LeagueLevels", name := "close", desc := "()I" } : MethodName) prog_1_method_12_code (2 : Nat) (Option.some ClassFile.FieldType.int)) ∈ llTb := llTb_of (List.mem_append_right _ (List.mem_of_getElem? (i := 742) (by exact rfl))) (by decide)
set_option maxRecDepth 100000 in
theorem wd_743 : (Cond.methodLink "LeagueLevels" (182 : Nat) ({ cls := "LeagueLevels$Ending", name := "weigh", desc := "()Z" } : MethodName)) ∈ llTb := llTb_of (List.mem_append_right _ (List.mem_of_getElem? (i := 743) (by decide +kernel))) (by decide)
set_option maxRecDepth 100000 in
theorem wd_744 : (Cond.instanceMethod ({ cls := "LeagueLevels$Ending", name := "weigh", desc := "()Z" } : MethodName)) ∈ llTb := llTb_of (List.mem_append_right _ (List.mem_of_getElem? (i := 744) (by decide +kernel))) (by decide)
set_option maxRecDepth 100000 in
theorem wd_745 : (Cond.selects "LeagueLevels$Ending" ({ cls := "LeagueLevels$Ending", name := "weigh", desc := "()Z" } : MethodName) ({ cls := "LeagueLevels$Ending", name := "weigh", desc := "()Z" } : MethodName)) ∈ llTb := llTb_of (List.mem_append_right _ (List.mem_of_getElem? (i := 745) (by decide +kernel))) (by decide)
set_option maxRecDepth 100000 in
theorem wd_746 : (Cond.code ({ cls := "LeagueLevels$Ending", name := "weigh", desc := "()Z" } : MethodName) prog_5_method_9_code (2 : Nat) (Option.some ClassFile.FieldType.boolean)) ∈ llTb := llTb_of (List.mem_append_right _ (List.mem_of_getElem? (i := 746) (by exact rfl))) (by decide)
set_option maxRecDepth 100000 in
theorem wd_747 : (Cond.methodLink "LeagueLevels$Ending" (76 : Nat) ({ cls := "java/util/Arrays", name := "fill", desc := "([II)V" } : MethodName)) ∈ llTb := llTb_of (List.mem_append_right _ (List.mem_of_getElem? (i := 747) (by decide +kernel))) (by decide)
set_option maxRecDepth 100000 in
theorem wd_748 : (Cond.methodLink "LeagueLevels$Ending" (82 : Nat) ({ cls := "LeagueLevels$Ending", name := "setNumbers", desc := "(I)V" } : MethodName)) ∈ llTb := llTb_of (List.mem_append_right _ (List.mem_of_getElem? (i := 748) (by decide +kernel))) (by decide)
set_option maxRecDepth 100000 in
theorem wd_750 : (Cond.instanceMethod ({ cls := "LeagueLevels$Ending", name := "setNumbers", desc := "(I)V" } : MethodName)) ∈ llTb := llTb_of (List.mem_append_right _ (List.mem_of_getElem? (i := 750) (by decide +kernel))) (by decide)
set_option maxRecDepth 100000 in
theorem wd_751 : (Cond.code ({ cls := "LeagueLevels$Ending", name := "setNumbers", desc := "(I)V" } : MethodName) prog_5_method_10_code (4 : Nat) (Option.none : Option ClassFile.FieldType)) ∈ llTb := llTb_of (List.mem_append_right _ (List.mem_of_getElem? (i := 751) (by exact rfl))) (by decide)
set_option maxRecDepth 100000 in
theorem wd_752 : (Cond.methodLink "LeagueLevels$Ending" (100 : Nat) ({ cls := "LeagueLevels$Ending", name := "wantingOf", desc := "(I)I" } : MethodName)) ∈ llTb := llTb_of (List.mem_append_right _ (List.mem_of_getElem? (i := 752) (by decide +kernel))) (by decide)
set_option maxRecDepth 100000 in
theorem wd_753 : (Cond.instanceMethod ({ cls := "LeagueLevels$Ending", name := "wantingOf", desc := "(I)I" } : MethodName)) ∈ llTb := llTb_of (List.mem_append_right _ (List.mem_of_getElem? (i := 753) (by decide +kernel))) (by decide)
set_option maxRecDepth 100000 in
theorem wd_754 : (Cond.selects "LeagueLevels$Ending" ({ cls := "LeagueLevels$Ending", name := "wantingOf", desc := "(I)I" } : MethodName) ({ cls := "LeagueLevels$Ending", name := "wantingOf", desc := "(I)I" } : MethodName)) ∈ llTb := llTb_of (List.mem_append_right _ (List.mem_of_getElem? (i := 754) (by decide +kernel))) (by decide)
set_option maxRecDepth 100000 in
theorem wd_755 : (Cond.code ({ cls := "LeagueLevels$Ending", name := "wantingOf", desc := "(I)I" } : MethodName) prog_5_method_2_code (4 : Nat) (Option.some ClassFile.FieldType.int)) ∈ llTb := llTb_of (List.mem_append_right _ (List.mem_of_getElem? (i := 755) (by exact rfl))) (by decide)
set_option maxRecDepth 100000 in
theorem wd_756 : (Cond.methodLink "LeagueLevels$Ending" (50 : Nat) ({ cls := "LeagueLevels$Pyramid", name := "plays", desc := "(I)Z" } : MethodName)) ∈ llTb := llTb_of (List.mem_append_right _ (List.mem_of_getElem? (i := 756) (by decide +kernel))) (by decide)
set_option maxRecDepth 100000 in
theorem wd_757 : (Cond.methodLink "LeagueLevels$Ending" (107 : Nat) ({ cls := "java/lang/Math", name := "max", desc := "(II)I" } : MethodName)) ∈ llTb := llTb_of (List.mem_append_right _ (List.mem_of_getElem? (i := 757) (by decide +kernel))) (by decide)
set_option maxRecDepth 100000 in
theorem wd_758 : (Cond.static ({ cls := "java/lang/Math", name := "max", desc := "(II)I" } : MethodName)) ∈ llTb := llTb_of (List.mem_append_right _ (List.mem_of_getElem? (i := 758) (by decide +kernel))) (by decide)
set_option maxRecDepth 100000 in
theorem wd_759 : (Cond.code ({ cls := "java/lang/Math", name := "max", desc := "(II)I" } : MethodName) prog_18_method_65_code (2 : Nat) (Option.some ClassFile.FieldType.int)) ∈ llTb := llTb_of (List.mem_append_right _ (List.mem_of_getElem? (i := 759) (by exact rfl))) (by decide)
set_option maxRecDepth 100000 in
theorem wd_760 : (Cond.methodLink "LeagueLevels$Ending" (112 : Nat) ({ cls := "LeagueLevels$Ending", name := "mayRiseFrom", desc := "(I)I" } : MethodName)) ∈ llTb := llTb_of (List.mem_append_right _ (List.mem_of_getElem? (i := 760) (by decide +kernel))) (by decide)
set_option maxRecDepth 100000 in
theorem wd_761 : (Cond.instanceMethod ({ cls := "LeagueLevels$Ending", name := "mayRiseFrom", desc := "(I)I" } : MethodName)) ∈ llTb := llTb_of (List.mem_append_right _ (List.mem_of_getElem? (i := 761) (by decide +kernel))) (by decide)
set_option maxRecDepth 100000 in
theorem wd_762 : (Cond.selects "LeagueLevels$Ending" ({ cls := "LeagueLevels$Ending", name := "mayRiseFrom", desc := "(I)I" } : MethodName) ({ cls := "LeagueLevels$Ending", name := "mayRiseFrom", desc := "(I)I" } : MethodName)) ∈ llTb := llTb_of (List.mem_append_right _ (List.mem_of_getElem? (i := 762) (by decide +kernel))) (by decide)
set_option maxRecDepth 100000 in
theorem wd_763 : (Cond.code ({ cls := "LeagueLevels$Ending", name := "mayRiseFrom", desc := "(I)I" } : MethodName) prog_5_method_4_code (4 : Nat) (Option.some ClassFile.FieldType.int)) ∈ llTb := llTb_of (List.mem_append_right _ (List.mem_of_getElem? (i := 763) (by exact rfl))) (by decide)
set_option maxRecDepth 100000 in
theorem wd_764 : (Cond.methodLink "LeagueLevels$Ending" (66 : Nat) ({ cls := "LeagueLevels$Ending", name := "mayRise", desc := "(I)Z" } : MethodName)) ∈ llTb := llTb_of (List.mem_append_right _ (List.mem_of_getElem? (i := 764) (by decide +kernel))) (by decide)
set_option maxRecDepth 100000 in
theorem wd_766 : (Cond.instanceMethod ({ cls := "LeagueLevels$Ending", name := "mayRise", desc := "(I)Z" } : MethodName)) ∈ llTb := llTb_of (List.mem_append_right _ (List.mem_of_getElem? (i := 766) (by decide +kernel))) (by decide)
set_option maxRecDepth 100000 in
theorem wd_767 : (Cond.code ({ cls := "LeagueLevels$Ending", name := "mayRise", desc := "(I)Z" } : MethodName) prog_5_method_3_code (3 : Nat) (Option.some ClassFile.FieldType.boolean)) ∈ llTb := llTb_of (List.mem_append_right _ (List.mem_of_getElem? (i := 767) (by exact rfl))) (by decide)
set_option maxRecDepth 100000 in
theorem wd_768 : (Cond.methodLink "LeagueLevels$Ending" (115 : Nat) ({ cls := "java/lang/Math", name := "min", desc := "(II)I" } : MethodName)) ∈ llTb := llTb_of (List.mem_append_right _ (List.mem_of_getElem? (i := 768) (by decide +kernel))) (by decide)
set_option maxRecDepth 100000 in
theorem wd_769 : (Cond.methodLink "LeagueLevels$Ending" (86 : Nat) ({ cls := "LeagueLevels$Table", name := "arrange", desc := "(I)V" } : MethodName)) ∈ llTb := llTb_of (List.mem_append_right _ (List.mem_of_getElem? (i := 769) (by decide +kernel))) (by decide)
set_option maxRecDepth 100000 in
theorem wd_770 : (Cond.instanceMethod ({ cls := "LeagueLevels$Table", name := "arrange", desc := "(I)V" } : MethodName)) ∈ llTb := llTb_of (List.mem_append_right _ (List.mem_of_getElem? (i := 770) (by decide +kernel))) (by decide)
set_option maxRecDepth 100000 in
theorem wd_771 : (Cond.selects "LeagueLevels$Table" ({ cls := "LeagueLevels$Table", name := "arrange", desc := "(I)V" } : MethodName) ({ cls := "LeagueLevels$Table", name := "arrange", desc := "(I)V" } : MethodName)) ∈ llTb := llTb_of (List.mem_append_right _ (List.mem_of_getElem? (i := 771) (by decide +kernel))) (by decide)
set_option maxRecDepth 100000 in
theorem wd_772 : (Cond.code ({ cls := "LeagueLevels$Table", name := "arrange", desc := "(I)V" } : MethodName) prog_10_method_2_code (3 : Nat) (Option.none : Option ClassFile.FieldType)) ∈ llTb := llTb_of (List.mem_append_right _ (List.mem_of_getElem? (i := 772) (by exact rfl))) (by decide)
set_option maxRecDepth 100000 in
theorem wd_773 : (Cond.methodLink "LeagueLevels$Table" (32 : Nat) ({ cls := "LeagueLevels$Pyramid", name := "gather", desc := "(I[I)I" } : MethodName)) ∈ llTb := llTb_of (List.mem_append_right _ (List.mem_of_getElem? (i := 773) (by decide +kernel))) (by decide)
set_option maxRecDepth 100000 in
theorem wd_774 : (Cond.instanceMethod ({ cls := "LeagueLevels$Pyramid", name := "gather", desc := "(I[I)I" } : MethodName)) ∈ llTb := llTb_of (List.mem_append_right _ (List.mem_of_getElem? (i := 774) (by decide +kernel))) (by decide)
set_option maxRecDepth 100000 in
theorem wd_775 : (Cond.selects "LeagueLevels$Pyramid" ({ cls := "LeagueLevels$Pyramid", name := "gather", desc := "(I[I)I" } : MethodName) ({ cls := "LeagueLevels$Pyramid", name := "gather", desc := "(I[I)I" } : MethodName)) ∈ llTb := llTb_of (List.mem_append_right _ (List.mem_of_getElem? (i := 775) (by decide +kernel))) (by decide)
set_option maxRecDepth 100000 in
theorem wd_776 : (Cond.code ({ cls := "LeagueLevels$Pyramid", name := "gather", desc := "(I[I)I" } : MethodName) prog_7_method_12_code (5 : Nat) (Option.some ClassFile.FieldType.int)) ∈ llTb := llTb_of (List.mem_append_right _ (List.mem_of_getElem? (i := 776) (by exact rfl))) (by decide)
set_option maxRecDepth 100000 in
theorem wd_777 : (Cond.methodLink "LeagueLevels$Table" (42 : Nat) ({ cls := "LeagueLevels$Season", name := "pointsOf", desc := "(I)I" } : MethodName)) ∈ llTb := llTb_of (List.mem_append_right _ (List.mem_of_getElem? (i := 777) (by decide +kernel))) (by decide)
set_option maxRecDepth 100000 in
theorem wd_778 : (Cond.instanceMethod ({ cls := "LeagueLevels$Season", name := "pointsOf", desc := "(I)I" } : MethodName)) ∈ llTb := llTb_of (List.mem_append_right _ (List.mem_of_getElem? (i := 778) (by decide +kernel))) (by decide)
set_option maxRecDepth 100000 in
theorem wd_779 : (Cond.selects "LeagueLevels$Season" ({ cls := "LeagueLevels$Season", name := "pointsOf", desc := "(I)I" } : MethodName) ({ cls := "LeagueLevels$Season", name := "pointsOf", desc := "(I)I" } : MethodName)) ∈ llTb := llTb_of (List.mem_append_right _ (List.mem_of_getElem? (i := 779) (by decide +kernel))) (by decide)
set_option maxRecDepth 100000 in
theorem wd_780 : (Cond.code ({ cls := "LeagueLevels$Season", name := "pointsOf", desc := "(I)I" } : MethodName) prog_9_method_9_code (2 : Nat) (Option.some ClassFile.FieldType.int)) ∈ llTb := llTb_of (List.mem_append_right _ (List.mem_of_getElem? (i := 780) (by exact rfl))) (by decide)
set_option maxRecDepth 100000 in
theorem wd_781 : (Cond.methodLink "LeagueLevels$Table" (48 : Nat) ({ cls := "LeagueLevels$Table", name := "rankNow", desc := "(I)I" } : MethodName)) ∈ llTb := llTb_of (List.mem_append_right _ (List.mem_of_getElem? (i := 781) (by decide +kernel))) (by decide)
set_option maxRecDepth 100000 in
theorem wd_783 : (Cond.instanceMethod ({ cls := "LeagueLevels$Table", name := "rankNow", desc := "(I)I" } : MethodName)) ∈ llTb := llTb_of (List.mem_append_right _ (List.mem_of_getElem? (i := 783) (by decide +kernel))) (by decide)
set_option maxRecDepth 100000 in
theorem wd_784 : (Cond.code ({ cls := "LeagueLevels$Table", name := "rankNow", desc := "(I)I" } : MethodName) prog_10_method_3_code (4 : Nat) (Option.some ClassFile.FieldType.int)) ∈ llTb := llTb_of (List.mem_append_right _ (List.mem_of_getElem? (i := 784) (by exact rfl))) (by decide)
set_option maxRecDepth 100000 in
theorem wd_785 : (Cond.methodLink "LeagueLevels$Table" (58 : Nat) ({ cls := "LeagueLevels$Table", name := "outranks", desc := "(II)Z" } : MethodName)) ∈ llTb := llTb_of (List.mem_append_right _ (List.mem_of_getElem? (i := 785) (by decide +kernel))) (by decide)
set_option maxRecDepth 100000 in
theorem wd_787 : (Cond.instanceMethod ({ cls := "LeagueLevels$Table", name := "outranks", desc := "(II)Z" } : MethodName)) ∈ llTb := llTb_of (List.mem_append_right _ (List.mem_of_getElem? (i := 787) (by decide +kernel))) (by decide)
set_option maxRecDepth 100000 in
theorem wd_788 : (Cond.code ({ cls := "LeagueLevels$Table", name := "outranks", desc := "(II)Z" } : MethodName) prog_10_method_4_code (4 : Nat) (Option.some ClassFile.FieldType.boolean)) ∈ llTb := llTb_of (List.mem_append_right _ (List.mem_of_getElem? (i := 788) (by exact rfl))) (by decide)
set_option maxRecDepth 100000 in
theorem wd_789 : (Cond.methodLink "LeagueLevels$Table" (62 : Nat) ({ cls := "LeagueLevels$Season", name := "goalsLessAgainst", desc := "(I)I" } : MethodName)) ∈ llTb := llTb_of (List.mem_append_right _ (List.mem_of_getElem? (i := 789) (by decide +kernel))) (by decide)
set_option maxRecDepth 100000 in
theorem wd_790 : (Cond.instanceMethod ({ cls := "LeagueLevels$Season", name := "goalsLessAgainst", desc := "(I)I" } : MethodName)) ∈ llTb := llTb_of (List.mem_append_right _ (List.mem_of_getElem? (i := 790) (by decide +kernel))) (by decide)
set_option maxRecDepth 100000 in
theorem wd_791 : (Cond.selects "LeagueLevels$Season" ({ cls := "LeagueLevels$Season", name := "goalsLessAgainst", desc := "(I)I" } : MethodName) ({ cls := "LeagueLevels$Season", name := "goalsLessAgainst", desc := "(I)I" } : MethodName)) ∈ llTb := llTb_of (List.mem_append_right _ (List.mem_of_getElem? (i := 791) (by decide +kernel))) (by decide)
set_option maxRecDepth 100000 in
theorem wd_792 : (Cond.code ({ cls := "LeagueLevels$Season", name := "goalsLessAgainst", desc := "(I)I" } : MethodName) prog_9_method_10_code (2 : Nat) (Option.some ClassFile.FieldType.int)) ∈ llTb := llTb_of (List.mem_append_right _ (List.mem_of_getElem? (i := 792) (by exact rfl))) (by decide)
set_option maxRecDepth 100000 in
theorem wd_793 : (Cond.methodLink "LeagueLevels$Table" (51 : Nat) ({ cls := "LeagueLevels$Table", name := "sink", desc := "(I)V" } : MethodName)) ∈ llTb := llTb_of (List.mem_append_right _ (List.mem_of_getElem? (i := 793) (by decide +kernel))) (by decide)
set_option maxRecDepth 100000 in
theorem wd_795 : (Cond.instanceMethod ({ cls := "LeagueLevels$Table", name := "sink", desc := "(I)V" } : MethodName)) ∈ llTb := llTb_of (List.mem_append_right _ (List.mem_of_getElem? (i := 795) (by decide +kernel))) (by decide)
set_option maxRecDepth 100000 in
theorem wd_796 : (Cond.code ({ cls := "LeagueLevels$Table", name := "sink", desc := "(I)V" } : MethodName) prog_10_method_5_code (4 : Nat) (Option.none : Option ClassFile.FieldType)) ∈ llTb := llTb_of (List.mem_append_right _ (List.mem_of_getElem? (i := 796) (by exact rfl))) (by decide)
set_option maxRecDepth 100000 in
theorem wd_797 : (Cond.methodLink "LeagueLevels$Table" (68 : Nat) ({ cls := "LeagueLevels$Table", name := "isAhead", desc := "(II)Z" } : MethodName)) ∈ llTb := llTb_of (List.mem_append_right _ (List.mem_of_getElem? (i := 797) (by decide +kernel))) (by decide)
set_option maxRecDepth 100000 in
theorem wd_799 : (Cond.instanceMethod ({ cls := "LeagueLevels$Table", name := "isAhead", desc := "(II)Z" } : MethodName)) ∈ llTb := llTb_of (List.mem_append_right _ (List.mem_of_getElem? (i := 799) (by decide +kernel))) (by decide)
set_option maxRecDepth 100000 in
theorem wd_800 : (Cond.code ({ cls := "LeagueLevels$Table", name := "isAhead", desc := "(II)Z" } : MethodName) prog_10_method_6_code (4 : Nat) (Option.some ClassFile.FieldType.boolean)) ∈ llTb := llTb_of (List.mem_append_right _ (List.mem_of_getElem? (i := 800) (by exact rfl))) (by decide)
set_option maxRecDepth 100000 in
theorem wd_801 : (Cond.methodLink "LeagueLevels$Table" (71 : Nat) ({ cls := "LeagueLevels$Table", name := "averagePoints", desc := "(I)I" } : MethodName)) ∈ llTb := llTb_of (List.mem_append_right _ (List.mem_of_getElem? (i := 801) (by decide +kernel))) (by decide)
set_option maxRecDepth 100000 in
theorem wd_803 : (Cond.instanceMethod ({ cls := "LeagueLevels$Table", name := "averagePoints", desc := "(I)I" } : MethodName)) ∈ llTb := llTb_of (List.mem_append_right _ (List.mem_of_getElem? (i := 803) (by decide +kernel))) (by decide)
set_option maxRecDepth 100000 in
theorem wd_804 : (Cond.code ({ cls := "LeagueLevels$Table", name := "averagePoints", desc := "(I)I" } : MethodName) prog_10_method_7_code (2 : Nat) (Option.some ClassFile.FieldType.int)) ∈ llTb := llTb_of (List.mem_append_right _ (List.mem_of_getElem? (i := 804) (by exact rfl))) (by decide)
set_option maxRecDepth 100000 in
theorem wd_805 : (Cond.methodLink "LeagueLevels$Table" (77 : Nat) ({ cls := "java/lang/Math", name := "max", desc := "(II)I" } : MethodName)) ∈ llTb := llTb_of (List.mem_append_right _ (List.mem_of_getElem? (i := 805) (by decide +kernel))) (by decide)
set_option maxRecDepth 100000 in
theorem wd_806 : (Cond.methodLink "LeagueLevels$Ending" (91 : Nat) ({ cls := "LeagueLevels$Ending", name := "sendUp", desc := "(I)Z" } : MethodName)) ∈ llTb := llTb_of (List.mem_append_right _ (List.mem_of_getElem? (i := 806) (by decide +kernel))) (by decide)
set_option maxRecDepth 100000 in
theorem wd_808 : (Cond.instanceMethod ({ cls := "LeagueLevels$Ending", name := "sendUp", desc := "(I)Z" } : MethodName)) ∈ llTb := llTb_of (List.mem_append_right _ (List.mem_of_getElem? (i := 808) (by decide +kernel))) (by decide)
set_option maxRecDepth 100000 in
theorem wd_809 : (Cond.code ({ cls := "LeagueLevels$Ending", name := "sendUp", desc := "(I)Z" } : MethodName) prog_5_method_11_code (2 : Nat) (Option.some ClassFile.FieldType.boolean)) ∈ llTb := llTb_of (List.mem_append_right _ (List.mem_of_getElem? (i := 809) (by exact rfl))) (by decide)
set_option maxRecDepth 100000 in
theorem wd_810 : (Cond.methodLink "LeagueLevels$Ending" (118 : Nat) ({ cls := "LeagueLevels$Ending", name := "sendUpThose", desc := "(IZ)V" } : MethodName)) ∈ llTb := llTb_of (List.mem_append_right _ (List.mem_of_getElem? (i := 810) (by decide +kernel))) (by decide)
set_option maxRecDepth 100000 in
theorem wd_812 : (Cond.instanceMethod ({ cls := "LeagueLevels$Ending", name := "sendUpThose", desc := "(IZ)V" } : MethodName)) ∈ llTb := llTb_of (List.mem_append_right _ (List.mem_of_getElem? (i := 812) (by decide +kernel))) (by decide)
set_option maxRecDepth 100000 in
theorem wd_813 : (Cond.code ({ cls := "LeagueLevels$Ending", name := "sendUpThose", desc := "(IZ)V" } : MethodName) prog_5_method_12_code (5 : Nat) (Option.none : Option ClassFile.FieldType)) ∈ llTb := llTb_of (List.mem_append_right _ (List.mem_of_getElem? (i := 813) (by exact rfl))) (by decide)
set_option maxRecDepth 100000 in
theorem wd_814 : (Cond.methodLink "LeagueLevels$Ending" (72 : Nat) ({ cls := "LeagueLevels$Ending", name := "countOf", desc := "(II)I" } : MethodName)) ∈ llTb := llTb_of (List.mem_append_right _ (List.mem_of_getElem? (i := 814) (by decide +kernel))) (by decide)
set_option maxRecDepth 100000 in
theorem wd_815 : (Cond.instanceMethod ({ cls := "LeagueLevels$Ending", name := "countOf", desc := "(II)I" } : MethodName)) ∈ llTb := llTb_of (List.mem_append_right _ (List.mem_of_getElem? (i := 815) (by decide +kernel))) (by decide)
set_option maxRecDepth 100000 in
theorem wd_816 : (Cond.selects "LeagueLevels$Ending" ({ cls := "LeagueLevels$Ending", name := "countOf", desc := "(II)I" } : MethodName) ({ cls := "LeagueLevels$Ending", name := "countOf", desc := "(II)I" } : MethodName)) ∈ llTb := llTb_of (List.mem_append_right _ (List.mem_of_getElem? (i := 816) (by decide +kernel))) (by decide)
set_option maxRecDepth 100000 in
theorem wd_817 : (Cond.code ({ cls := "LeagueLevels$Ending", name := "countOf", desc := "(II)I" } : MethodName) prog_5_method_5_code (3 : Nat) (Option.some ClassFile.FieldType.int)) ∈ llTb := llTb_of (List.mem_append_right _ (List.mem_of_getElem? (i := 817) (by exact rfl))) (by decide)
set_option maxRecDepth 100000 in
theorem wd_818 : (Cond.methodLink "LeagueLevels$Ending" (128 : Nat) ({ cls := "LeagueLevels$Ending", name := "add", desc := "(IIII)V" } : MethodName)) ∈ llTb := llTb_of (List.mem_append_right _ (List.mem_of_getElem? (i := 818) (by decide +kernel))) (by decide)
set_option maxRecDepth 100000 in
theorem wd_820 : (Cond.instanceMethod ({ cls := "LeagueLevels$Ending", name := "add", desc := "(IIII)V" } : MethodName)) ∈ llTb := llTb_of (List.mem_append_right _ (List.mem_of_getElem? (i := 820) (by decide +kernel))) (by decide)
set_option maxRecDepth 100000 in
theorem wd_821 : (Cond.code ({ cls := "LeagueLevels$Ending", name := "add", desc := "(IIII)V" } : MethodName) prog_5_method_7_code (6 : Nat) (Option.none : Option ClassFile.FieldType)) ∈ llTb := llTb_of (List.mem_append_right _ (List.mem_of_getElem? (i := 821) (by exact rfl))) (by decide)
set_option maxRecDepth 100000 in
theorem wd_822 : (Cond.methodLink "LeagueLevels$Ending" (94 : Nat) ({ cls := "LeagueLevels$Ending", name := "sendDown", desc := "(I)Z" } : MethodName)) ∈ llTb := llTb_of (List.mem_append_right _ (List.mem_of_getElem? (i := 822) (by decide +kernel))) (by decide)
set_option maxRecDepth 100000 in
theorem wd_824 : (Cond.instanceMethod ({ cls := "LeagueLevels$Ending", name := "sendDown", desc := "(I)Z" } : MethodName)) ∈ llTb := llTb_of (List.mem_append_right _ (List.mem_of_getElem? (i := 824) (by decide +kernel))) (by decide)
set_option maxRecDepth 100000 in
theorem wd_825 : (Cond.code ({ cls := "LeagueLevels$Ending", name := "sendDown", desc := "(I)Z" } : MethodName) prog_5_method_13_code (6 : Nat) (Option.some ClassFile.FieldType.boolean)) ∈ llTb := llTb_of (List.mem_append_right _ (List.mem_of_getElem? (i := 825) (by exact rfl))) (by decide)
set_option maxRecDepth 100000 in
theorem wd_826 : (Cond.methodLink "LeagueLevels$Ending" (97 : Nat) ({ cls := "LeagueLevels$Ending", name := "bringIn", desc := "(I)Z" } : MethodName)) ∈ llTb := llTb_of (List.mem_append_right _ (List.mem_of_getElem? (i := 826) (by decide +kernel))) (by decide)
set_option maxRecDepth 100000 in
theorem wd_828 : (Cond.instanceMethod ({ cls := "LeagueLevels$Ending", name := "bringIn", desc := "(I)Z" } : MethodName)) ∈ llTb := llTb_of (List.mem_append_right _ (List.mem_of_getElem? (i := 828) (by decide +kernel))) (by decide)
set_option maxRecDepth 100000 in
theorem wd_829 : (Cond.code ({ cls := "LeagueLevels$Ending", name := "bringIn", desc := "(I)Z" } : MethodName) prog_5_method_14_code (4 : Nat) (Option.some ClassFile.FieldType.boolean)) ∈ llTb := llTb_of (List.mem_append_right _ (List.mem_of_getElem? (i := 829) (by exact rfl))) (by decide)
set_option maxRecDepth 100000 in
theorem wd_830 : (Cond.methodLink "LeagueLevels" (185 : Nat) ({ cls := "LeagueLevels$Ending", name := "risenInAll", desc := "()I" } : MethodName)) ∈ llTb := llTb_of (List.mem_append_right _ (List.mem_of_getElem? (i := 830) (by decide +kernel))) (by decide)
set_option maxRecDepth 100000 in
theorem wd_831 : (Cond.instanceMethod ({ cls := "LeagueLevels$Ending", name := "risenInAll", desc := "()I" } : MethodName)) ∈ llTb := llTb_of (List.mem_append_right _ (List.mem_of_getElem? (i := 831) (by decide +kernel))) (by decide)
set_option maxRecDepth 100000 in
theorem wd_832 : (Cond.selects "LeagueLevels$Ending" ({ cls := "LeagueLevels$Ending", name := "risenInAll", desc := "()I" } : MethodName) ({ cls := "LeagueLevels$Ending", name := "risenInAll", desc := "()I" } : MethodName)) ∈ llTb := llTb_of (List.mem_append_right _ (List.mem_of_getElem? (i := 832) (by decide +kernel))) (by decide)
set_option maxRecDepth 100000 in
theorem wd_833 : (Cond.code ({ cls := "LeagueLevels$Ending", name := "risenInAll", desc := "()I" } : MethodName) prog_5_method_8_code (3 : Nat) (Option.some ClassFile.FieldType.int)) ∈ llTb := llTb_of (List.mem_append_right _ (List.mem_of_getElem? (i := 833) (by exact rfl))) (by decide)
set_option maxRecDepth 100000 in
theorem wd_834 : (Cond.methodLink "LeagueLevels" (192 : Nat) ({ cls := "LeagueLevels$Parting", name := "forgetChanged", desc := "([I)V" } : MethodName)) ∈ llTb := llTb_of (List.mem_append_right _ (List.mem_of_getElem? (i := 834) (by decide +kernel))) (by decide)
set_option maxRecDepth 100000 in
theorem wd_835 : (Cond.instanceMethod ({ cls := "LeagueLevels$Parting", name := "forgetChanged", desc := "([I)V" } : MethodName)) ∈ llTb := llTb_of (List.mem_append_right _ (List.mem_of_getElem? (i := 835) (by decide +kernel))) (by decide)
set_option maxRecDepth 100000 in
theorem wd_836 : (Cond.selects "LeagueLevels$Parting" ({ cls := "LeagueLevels$Parting", name := "forgetChanged", desc := "([I)V" } : MethodName) ({ cls := "LeagueLevels$Parting", name := "forgetChanged", desc := "([I)V" } : MethodName)) ∈ llTb := llTb_of (List.mem_append_right _ (List.mem_of_getElem? (i := 836) (by decide +kernel))) (by decide)
set_option maxRecDepth 100000 in
theorem wd_837 : (Cond.code ({ cls := "LeagueLevels$Parting", name := "forgetChanged", desc := "([I)V" } : MethodName) prog_6_method_3_code (3 : Nat) (Option.none : Option ClassFile.FieldType)) ∈ llTb := llTb_of (List.mem_append_right _ (List.mem_of_getElem? (i := 837) (by exact rfl))) (by decide)
set_option maxRecDepth 100000 in
theorem wd_838 : (Cond.methodLink "LeagueLevels$Parting" (65 : Nat) ({ cls := "LeagueLevels$Parting", name := "forgetLevel", desc := "(I)V" } : MethodName)) ∈ llTb := llTb_of (List.mem_append_right _ (List.mem_of_getElem? (i := 838) (by decide +kernel))) (by decide)
set_option maxRecDepth 100000 in
theorem wd_840 : (Cond.instanceMethod ({ cls := "LeagueLevels$Parting", name := "forgetLevel", desc := "(I)V" } : MethodName)) ∈ llTb := llTb_of (List.mem_append_right _ (List.mem_of_getElem? (i := 840) (by decide +kernel))) (by decide)
set_option maxRecDepth 100000 in
theorem wd_841 : (Cond.code ({ cls := "LeagueLevels$Parting", name := "forgetLevel", desc := "(I)V" } : MethodName) prog_6_method_4_code (2 : Nat) (Option.none : Option ClassFile.FieldType)) ∈ llTb := llTb_of (List.mem_append_right _ (List.mem_of_getElem? (i := 841) (by exact rfl))) (by decide)
set_option maxRecDepth 100000 in
theorem wd_842 : (Cond.methodLink "LeagueLevels$Parting" (69 : Nat) ({ cls := "LeagueLevels$Pyramid", name := "hasLevel", desc := "(I)Z" } : MethodName)) ∈ llTb := llTb_of (List.mem_append_right _ (List.mem_of_getElem? (i := 842) (by decide +kernel))) (by decide)
set_option maxRecDepth 100000 in
theorem wd_843 : (Cond.methodLink "LeagueLevels" (196 : Nat) ({ cls := "LeagueLevels$Ending", name := "moveClubs", desc := "()V" } : MethodName)) ∈ llTb := llTb_of (List.mem_append_right _ (List.mem_of_getElem? (i := 843) (by decide +kernel))) (by decide)
set_option maxRecDepth 100000 in
theorem wd_844 : (Cond.instanceMethod ({ cls := "LeagueLevels$Ending", name := "moveClubs", desc := "()V" } : MethodName)) ∈ llTb := llTb_of (List.mem_append_right _ (List.mem_of_getElem? (i := 844) (by decide +kernel))) (by decide)
set_option maxRecDepth 100000 in
theorem wd_845 : (Cond.selects "LeagueLevels$Ending" ({ cls := "LeagueLevels$Ending", name := "moveClubs", desc := "()V" } : MethodName) ({ cls := "LeagueLevels$Ending", name := "moveClubs", desc := "()V" } : MethodName)) ∈ llTb := llTb_of (List.mem_append_right _ (List.mem_of_getElem? (i := 845) (by decide +kernel))) (by decide)
set_option maxRecDepth 100000 in
theorem wd_846 : (Cond.code ({ cls := "LeagueLevels$Ending", name := "moveClubs", desc := "()V" } : MethodName) prog_5_method_16_code (2 : Nat) (Option.none : Option ClassFile.FieldType)) ∈ llTb := llTb_of (List.mem_append_right _ (List.mem_of_getElem? (i := 846) (by exact rfl))) (by decide)
set_option maxRecDepth 100000 in
theorem wd_847 : (Cond.methodLink "LeagueLevels" (199 : Nat) ({ cls := "LeagueLevels$Parting", name := "settle", desc := "()V" } : MethodName)) ∈ llTb := llTb_of (List.mem_append_right _ (List.mem_of_getElem? (i := 847) (by decide +kernel))) (by decide)
set_option maxRecDepth 100000 in
theorem wd_848 : (Cond.instanceMethod ({ cls := "LeagueLevels$Parting", name := "settle", desc := "()V" } : MethodName)) ∈ llTb := llTb_of (List.mem_append_right _ (List.mem_of_getElem? (i := 848) (by decide +kernel))) (by decide)
set_option maxRecDepth 100000 in
theorem wd_849 : (Cond.selects "LeagueLevels$Parting" ({ cls := "LeagueLevels$Parting", name := "settle", desc := "()V" } : MethodName) ({ cls := "LeagueLevels$Parting", name := "settle", desc := "()V" } : MethodName)) ∈ llTb := llTb_of (List.mem_append_right _ (List.mem_of_getElem? (i := 849) (by decide +kernel))) (by decide)
set_option maxRecDepth 100000 in
theorem wd_850 : (Cond.code ({ cls := "LeagueLevels$Parting", name := "settle", desc := "()V" } : MethodName) prog_6_method_5_code (2 : Nat) (Option.none : Option ClassFile.FieldType)) ∈ llTb := llTb_of (List.mem_append_right _ (List.mem_of_getElem? (i := 850) (by exact rfl))) (by decide)
set_option maxRecDepth 100000 in
theorem wd_851 : (Cond.methodLink "LeagueLevels$Parting" (76 : Nat) ({ cls := "LeagueLevels$Parting", name := "partAnew", desc := "(I)V" } : MethodName)) ∈ llTb := llTb_of (List.mem_append_right _ (List.mem_of_getElem? (i := 851) (by decide +kernel))) (by decide)
set_option maxRecDepth 100000 in
theorem wd_852 : (Cond.instanceMethod ({ cls := "LeagueLevels$Parting", name := "partAnew", desc := "(I)V" } : MethodName)) ∈ llTb := llTb_of (List.mem_append_right _ (List.mem_of_getElem? (i := 852) (by decide +kernel))) (by decide)
set_option maxRecDepth 100000 in
theorem wd_853 : (Cond.selects "LeagueLevels$Parting" ({ cls := "LeagueLevels$Parting", name := "partAnew", desc := "(I)V" } : MethodName) ({ cls := "LeagueLevels$Parting", name := "partAnew", desc := "(I)V" } : MethodName)) ∈ llTb := llTb_of (List.mem_append_right _ (List.mem_of_getElem? (i := 853) (by decide +kernel))) (by decide)
set_option maxRecDepth 100000 in
theorem wd_854 : (Cond.code ({ cls := "LeagueLevels$Parting", name := "partAnew", desc := "(I)V" } : MethodName) prog_6_method_6_code (3 : Nat) (Option.none : Option ClassFile.FieldType)) ∈ llTb := llTb_of (List.mem_append_right _ (List.mem_of_getElem? (i := 854) (by exact rfl))) (by decide)
set_option maxRecDepth 100000 in
theorem wd_855 : (Cond.methodLink "LeagueLevels$Parting" (85 : Nat) ({ cls := "LeagueLevels$Pyramid", name := "gather", desc := "(I[I)I" } : MethodName)) ∈ llTb := llTb_of (List.mem_append_right _ (List.mem_of_getElem? (i := 855) (by decide +kernel))) (by decide)
set_option maxRecDepth 100000 in
theorem wd_856 : (Cond.methodLink "LeagueLevels$Parting" (105 : Nat) ({ cls := "LeagueLevels$Parting", name := "listSets", desc := "(IIII)V" } : MethodName)) ∈ llTb := llTb_of (List.mem_append_right _ (List.mem_of_getElem? (i := 856) (by decide +kernel))) (by decide)
set_option maxRecDepth 100000 in
theorem wd_858 : (Cond.instanceMethod ({ cls := "LeagueLevels$Parting", name := "listSets", desc := "(IIII)V" } : MethodName)) ∈ llTb := llTb_of (List.mem_append_right _ (List.mem_of_getElem? (i := 858) (by decide +kernel))) (by decide)
set_option maxRecDepth 100000 in
theorem wd_859 : (Cond.code ({ cls := "LeagueLevels$Parting", name := "listSets", desc := "(IIII)V" } : MethodName) prog_6_method_8_code (6 : Nat) (Option.none : Option ClassFile.FieldType)) ∈ llTb := llTb_of (List.mem_append_right _ (List.mem_of_getElem? (i := 859) (by exact rfl))) (by decide)
set_option maxRecDepth 100000 in
theorem wd_860 : (Cond.methodLink "LeagueLevels$Parting" (123 : Nat) ({ cls := "LeagueLevels$Parting", name := "milesTo", desc := "(I)I" } : MethodName)) ∈ llTb := llTb_of (List.mem_append_right _ (List.mem_of_getElem? (i := 860) (by decide +kernel))) (by decide)
set_option maxRecDepth 100000 in
theorem wd_862 : (Cond.instanceMethod ({ cls := "LeagueLevels$Parting", name := "milesTo", desc := "(I)I" } : MethodName)) ∈ llTb := llTb_of (List.mem_append_right _ (List.mem_of_getElem? (i := 862) (by decide +kernel))) (by decide)
set_option maxRecDepth 100000 in
theorem wd_863 : (Cond.code ({ cls := "LeagueLevels$Parting", name := "milesTo", desc := "(I)I" } : MethodName) prog_6_method_9_code (4 : Nat) (Option.some ClassFile.FieldType.int)) ∈ llTb := llTb_of (List.mem_append_right _ (List.mem_of_getElem? (i := 863) (by exact rfl))) (by decide)
set_option maxRecDepth 100000 in
theorem wd_864 : (Cond.methodLink "LeagueLevels$Parting" (126 : Nat) ({ cls := "LeagueLevels$Travel", name := "between", desc := "(II)I" } : MethodName)) ∈ llTb := llTb_of (List.mem_append_right _ (List.mem_of_getElem? (i := 864) (by decide +kernel))) (by decide)
set_option maxRecDepth 100000 in
theorem wd_865 : (Cond.instanceMethod ({ cls := "LeagueLevels$Travel", name := "between", desc := "(II)I" } : MethodName)) ∈ llTb := llTb_of (List.mem_append_right _ (List.mem_of_getElem? (i := 865) (by decide +kernel))) (by decide)
set_option maxRecDepth 100000 in
theorem wd_866 : (Cond.selects "LeagueLevels$Travel" ({ cls := "LeagueLevels$Travel", name := "between", desc := "(II)I" } : MethodName) ({ cls := "LeagueLevels$Travel", name := "between", desc := "(II)I" } : MethodName)) ∈ llTb := llTb_of (List.mem_append_right _ (List.mem_of_getElem? (i := 866) (by decide +kernel))) (by decide)
set_option maxRecDepth 100000 in
theorem wd_867 : (Cond.code ({ cls := "LeagueLevels$Travel", name := "between", desc := "(II)I" } : MethodName) prog_12_method_4_code (3 : Nat) (Option.some ClassFile.FieldType.int)) ∈ llTb := llTb_of (List.mem_append_right _ (List.mem_of_getElem? (i := 867) (by exact rfl))) (by decide)
set_option maxRecDepth 100000 in
theorem wd_868 : (Cond.constant "LeagueLevels$Parting" (111 : Nat) (2147483647 : Int32)) ∈ llTb := llTb_of (List.mem_append_right _ (List.mem_of_getElem? (i := 868) (by decide +kernel))) (by decide)
set_option maxRecDepth 100000 in
theorem wd_869 : (Cond.methodLink "LeagueLevels$Parting" (115 : Nat) ({ cls := "LeagueLevels$Parting", name := "choose", desc := "(III)V" } : MethodName)) ∈ llTb := llTb_of (List.mem_append_right _ (List.mem_of_getElem? (i := 869) (by decide +kernel))) (by decide)
set_option maxRecDepth 100000 in
theorem wd_871 : (Cond.instanceMethod ({ cls := "LeagueLevels$Parting", name := "choose", desc := "(III)V" } : MethodName)) ∈ llTb := llTb_of (List.mem_append_right _ (List.mem_of_getElem? (i := 871) (by decide +kernel))) (by decide)
set_option maxRecDepth 100000 in
theorem wd_872 : (Cond.code ({ cls := "LeagueLevels$Parting", name := "choose", desc := "(III)V" } : MethodName) prog_6_method_10_code (7 : Nat) (Option.none : Option ClassFile.FieldType)) ∈ llTb := llTb_of (List.mem_append_right _ (List.mem_of_getElem? (i := 872) (by exact rfl))) (by decide)
set_option maxRecDepth 100000 in
theorem wd_873 : (Cond.methodLink "LeagueLevels$Parting" (132 : Nat) ({ cls := "java/lang/System", name := "arraycopy", desc := "(Ljava/lang/Object;ILjava/lang/Object;II)V" } : MethodName)) ∈ llTb := llTb_of (List.mem_append_right _ (List.mem_of_getElem? (i := 873) (by decide +kernel))) (by decide)
set_option maxRecDepth 100000 in
theorem wd_874 : (Cond.methodLink "LeagueLevels$Parting" (138 : Nat) ({ cls := "java/lang/Integer", name := "bitCount", desc := "(I)I" } : MethodName)) ∈ llTb := llTb_of (List.mem_append_right _ (List.mem_of_getElem? (i := 874) (by decide +kernel))) (by decide)
set_option maxRecDepth 100000 in
theorem wd_875 : (Cond.static ({ cls := "java/lang/Integer", name := "bitCount", desc := "(I)I" } : MethodName)) ∈ llTb := llTb_of (List.mem_append_right _ (List.mem_of_getElem? (i := 875) (by decide +kernel))) (by decide)
set_option maxRecDepth 100000 in
theorem wd_876 : (Cond.code ({ cls := "java/lang/Integer", name := "bitCount", desc := "(I)I" } : MethodName) prog_17_method_49_code (1 : Nat) (Option.some ClassFile.FieldType.int)) ∈ llTb := llTb_of (List.mem_append_right _ (List.mem_of_getElem? (i := 876) (by exact rfl))) (by decide)
set_option maxRecDepth 100000 in
theorem wd_877 : (Cond.constant "java/lang/Integer" (265 : Nat) (1431655765 : Int32)) ∈ llTb := llTb_of (List.mem_append_right _ (List.mem_of_getElem? (i := 877) (by decide +kernel))) (by decide)
set_option maxRecDepth 100000 in
theorem wd_878 : (Cond.constant "java/lang/Integer" (266 : Nat) (858993459 : Int32)) ∈ llTb := llTb_of (List.mem_append_right _ (List.mem_of_getElem? (i := 878) (by decide +kernel))) (by decide)
set_option maxRecDepth 100000 in
theorem wd_879 : (Cond.constant "java/lang/Integer" (267 : Nat) (252645135 : Int32)) ∈ llTb := llTb_of (List.mem_append_right _ (List.mem_of_getElem? (i := 879) (by decide +kernel))) (by decide)
set_option maxRecDepth 100000 in
theorem wd_880 : (Cond.methodLink "LeagueLevels$Parting" (119 : Nat) ({ cls := "LeagueLevels$Parting", name := "bestDivisionOf", desc := "(I)I" } : MethodName)) ∈ llTb := llTb_of (List.mem_append_right _ (List.mem_of_getElem? (i := 880) (by decide +kernel))) (by decide)
set_option maxRecDepth 100000 in
theorem wd_882 : (Cond.instanceMethod ({ cls := "LeagueLevels$Parting", name := "bestDivisionOf", desc := "(I)I" } : MethodName)) ∈ llTb := llTb_of (List.mem_append_right _ (List.mem_of_getElem? (i := 882) (by decide +kernel))) (by decide)
set_option maxRecDepth 100000 in
theorem wd_883 : (Cond.code ({ cls := "LeagueLevels$Parting", name := "bestDivisionOf", desc := "(I)I" } : MethodName) prog_6_method_7_code (3 : Nat) (Option.some ClassFile.FieldType.int)) ∈ llTb := llTb_of (List.mem_append_right _ (List.mem_of_getElem? (i := 883) (by exact rfl))) (by decide)
set_option maxRecDepth 100000 in
theorem wd_884 : (Cond.methodLink "LeagueLevels$Parting" (82 : Nat) ({ cls := "LeagueLevels$Pyramid", name := "plays", desc := "(I)Z" } : MethodName)) ∈ llTb := llTb_of (List.mem_append_right _ (List.mem_of_getElem? (i := 884) (by decide +kernel))) (by decide)
set_option maxRecDepth 100000 in
theorem wd_886 : (Cond.instanceMethod ({ cls := "LeagueLevels", name := "undo", desc := "()Z" } : MethodName)) ∈ llTb := llTb_of (List.mem_append_right _ (List.mem_of_getElem? (i := 886) (by decide +kernel))) (by decide)
set_option maxRecDepth 100000 in
theorem wd_887 : (Cond.selects "LeagueLevels" ({ cls := "LeagueLevels", name := "undo", desc := "()Z" } : MethodName) ({ cls := "LeagueLevels", name := "undo", desc := "()Z" } : MethodName)) ∈ llTb := llTb_of (List.mem_append_right _ (List.mem_of_getElem? (i := 887) (by decide +kernel))) (by decide)
set_option maxRecDepth 100000 in
theorem wd_888 : (Cond.code ({ cls := "LeagueLevels", name := "undo", desc := "()Z" } : MethodName) prog_1_method_13_code (1 : Nat) (Option.some ClassFile.FieldType.boolean)) ∈ llTb := llTb_of (List.mem_append_right _ (List.mem_of_getElem? (i := 888) (by exact rfl))) (by decide)
set_option maxRecDepth 100000 in
theorem wd_889 : (Cond.methodLink "LeagueLevels" (202 : Nat) ({ cls := "LeagueLevels$Deeds", name := "takeBack", desc := "()Z" } : MethodName)) ∈ llTb := llTb_of (List.mem_append_right _ (List.mem_of_getElem? (i := 889) (by decide +kernel))) (by decide)
set_option maxRecDepth 100000 in
theorem wd_890 : (Cond.instanceMethod ({ cls := "LeagueLevels$Deeds", name := "takeBack", desc := "()Z" } : MethodName)) ∈ llTb := llTb_of (List.mem_append_right _ (List.mem_of_getElem? (i := 890) (by decide +kernel))) (by decide)
set_option maxRecDepth 100000 in
theorem wd_891 : (Cond.selects "LeagueLevels$Deeds" ({ cls := "LeagueLevels$Deeds", name := "takeBack", desc := "()Z" } : MethodName) ({ cls := "LeagueLevels$Deeds", name := "takeBack", desc := "()Z" } : MethodName)) ∈ llTb := llTb_of (List.mem_append_right _ (List.mem_of_getElem? (i := 891) (by decide +kernel))) (by decide)
set_option maxRecDepth 100000 in
theorem wd_892 : (Cond.code ({ cls := "LeagueLevels$Deeds", name := "takeBack", desc := "()Z" } : MethodName) prog_4_method_3_code (1 : Nat) (Option.some ClassFile.FieldType.boolean)) ∈ llTb := llTb_of (List.mem_append_right _ (List.mem_of_getElem? (i := 892) (by exact rfl))) (by decide)
set_option maxRecDepth 100000 in
theorem wd_893 : (Cond.methodLink "LeagueLevels$Deeds" (37 : Nat) ({ cls := "LeagueLevels$Season", name := "keepFirst", desc := "(I)V" } : MethodName)) ∈ llTb := llTb_of (List.mem_append_right _ (List.mem_of_getElem? (i := 893) (by decide +kernel))) (by decide)
set_option maxRecDepth 100000 in
theorem wd_894 : (Cond.methodLink "LeagueLevels$Deeds" (43 : Nat) ({ cls := "LeagueLevels$Pyramid", name := "isClub", desc := "(I)Z" } : MethodName)) ∈ llTb := llTb_of (List.mem_append_right _ (List.mem_of_getElem? (i := 894) (by decide +kernel))) (by decide)
set_option maxRecDepth 100000 in
theorem wd_895 : (Cond.methodLink "LeagueLevels$Deeds" (49 : Nat) ({ cls := "LeagueLevels$Deeds", name := "takeBackOf", desc := "(III)V" } : MethodName)) ∈ llTb := llTb_of (List.mem_append_right _ (List.mem_of_getElem? (i := 895) (by decide +kernel))) (by decide)
set_option maxRecDepth 100000 in
theorem wd_897 : (Cond.instanceMethod ({ cls := "LeagueLevels$Deeds", name := "takeBackOf", desc := "(III)V" } : MethodName)) ∈ llTb := llTb_of (List.mem_append_right _ (List.mem_of_getElem? (i := 897) (by decide +kernel))) (by decide)
set_option maxRecDepth 100000 in
theorem wd_898 : (Cond.code ({ cls := "LeagueLevels$Deeds", name := "takeBackOf", desc := "(III)V" } : MethodName) prog_4_method_4_code (4 : Nat) (Option.none : Option ClassFile.FieldType)) ∈ llTb := llTb_of (List.mem_append_right _ (List.mem_of_getElem? (i := 898) (by exact rfl))) (by decide)
set_option maxRecDepth 100000 in
theorem wd_900 : (Cond.instanceMethod ({ cls := "LeagueLevels", name := "club", desc := "(II)I" } : MethodName)) ∈ llTb := llTb_of (List.mem_append_right _ (List.mem_of_getElem? (i := 900) (by decide +kernel))) (by decide)
set_option maxRecDepth 100000 in
theorem wd_901 : (Cond.selects "LeagueLevels" ({ cls := "LeagueLevels", name := "club", desc := "(II)I" } : MethodName) ({ cls := "LeagueLevels", name := "club", desc := "(II)I" } : MethodName)) ∈ llTb := llTb_of (List.mem_append_right _ (List.mem_of_getElem? (i := 901) (by decide +kernel))) (by decide)
set_option maxRecDepth 100000 in
theorem wd_902 : (Cond.code ({ cls := "LeagueLevels", name := "club", desc := "(II)I" } : MethodName) prog_1_method_14_code (3 : Nat) (Option.some ClassFile.FieldType.int)) ∈ llTb := llTb_of (List.mem_append_right _ (List.mem_of_getElem? (i := 902) (by exact rfl))) (by decide)
set_option maxRecDepth 100000 in
theorem wd_904 : (Cond.instanceMethod ({ cls := "LeagueLevels", name := "of", desc := "(II)I" } : MethodName)) ∈ llTb := llTb_of (List.mem_append_right _ (List.mem_of_getElem? (i := 904) (by decide +kernel))) (by decide)
set_option maxRecDepth 100000 in
theorem wd_905 : (Cond.selects "LeagueLevels" ({ cls := "LeagueLevels", name := "of", desc := "(II)I" } : MethodName) ({ cls := "LeagueLevels", name := "of", desc := "(II)I" } : MethodName)) ∈ llTb := llTb_of (List.mem_append_right _ (List.mem_of_getElem? (i := 905) (by decide +kernel))) (by decide)
set_option maxRecDepth 100000 in
theorem wd_906 : (Cond.code ({ cls := "LeagueLevels", name := "of", desc := "(II)I" } : MethodName) prog_1_method_15_code (3 : Nat) (Option.some ClassFile.FieldType.int)) ∈ llTb := llTb_of (List.mem_append_right _ (List.mem_of_getElem? (i := 906) (by exact rfl))) (by decide)
set_option maxRecDepth 100000 in
theorem wd_907 : (Cond.methodLink "LeagueLevels" (229 : Nat) ({ cls := "LeagueLevels$Table", name := "arrange", desc := "(I)V" } : MethodName)) ∈ llTb := llTb_of (List.mem_append_right _ (List.mem_of_getElem? (i := 907) (by decide +kernel))) (by decide)
set_option maxRecDepth 100000 in
theorem wd_908 : (Cond.methodLink "LeagueLevels" (235 : Nat) ({ cls := "LeagueLevels$Table", name := "placeOf", desc := "(I)I" } : MethodName)) ∈ llTb := llTb_of (List.mem_append_right _ (List.mem_of_getElem? (i := 908) (by decide +kernel))) (by decide)
set_option maxRecDepth 100000 in
theorem wd_909 : (Cond.instanceMethod ({ cls := "LeagueLevels$Table", name := "placeOf", desc := "(I)I" } : MethodName)) ∈ llTb := llTb_of (List.mem_append_right _ (List.mem_of_getElem? (i := 909) (by decide +kernel))) (by decide)
set_option maxRecDepth 100000 in
theorem wd_910 : (Cond.selects "LeagueLevels$Table" ({ cls := "LeagueLevels$Table", name := "placeOf", desc := "(I)I" } : MethodName) ({ cls := "LeagueLevels$Table", name := "placeOf", desc := "(I)I" } : MethodName)) ∈ llTb := llTb_of (List.mem_append_right _ (List.mem_of_getElem? (i := 910) (by decide +kernel))) (by decide)
set_option maxRecDepth 100000 in
theorem wd_911 : (Cond.code ({ cls := "LeagueLevels$Table", name := "placeOf", desc := "(I)I" } : MethodName) prog_10_method_8_code (3 : Nat) (Option.some ClassFile.FieldType.int)) ∈ llTb := llTb_of (List.mem_append_right _ (List.mem_of_getElem? (i := 911) (by exact rfl))) (by decide)
set_option maxRecDepth 100000 in
theorem wd_912 : (Cond.methodLink "LeagueLevels" (239 : Nat) ({ cls := "LeagueLevels$Travel", name := "toDivision", desc := "(III)I" } : MethodName)) ∈ llTb := llTb_of (List.mem_append_right _ (List.mem_of_getElem? (i := 912) (by decide +kernel))) (by decide)
set_option maxRecDepth 100000 in
theorem wd_913 : (Cond.instanceMethod ({ cls := "LeagueLevels$Travel", name := "toDivision", desc := "(III)I" } : MethodName)) ∈ llTb := llTb_of (List.mem_append_right _ (List.mem_of_getElem? (i := 913) (by decide +kernel))) (by decide)
set_option maxRecDepth 100000 in
theorem wd_914 : (Cond.selects "LeagueLevels$Travel" ({ cls := "LeagueLevels$Travel", name := "toDivision", desc := "(III)I" } : MethodName) ({ cls := "LeagueLevels$Travel", name := "toDivision", desc := "(III)I" } : MethodName)) ∈ llTb := llTb_of (List.mem_append_right _ (List.mem_of_getElem? (i := 914) (by decide +kernel))) (by decide)
set_option maxRecDepth 100000 in
theorem wd_915 : (Cond.code ({ cls := "LeagueLevels$Travel", name := "toDivision", desc := "(III)I" } : MethodName) prog_12_method_5_code (6 : Nat) (Option.some ClassFile.FieldType.int)) ∈ llTb := llTb_of (List.mem_append_right _ (List.mem_of_getElem? (i := 915) (by exact rfl))) (by decide)
set_option maxRecDepth 100000 in
theorem wd_916 : (Cond.methodLink "LeagueLevels$Travel" (41 : Nat) ({ cls := "LeagueLevels$Pyramid", name := "standsIn", desc := "(III)Z" } : MethodName)) ∈ llTb := llTb_of (List.mem_append_right _ (List.mem_of_getElem? (i := 916) (by decide +kernel))) (by decide)
set_option maxRecDepth 100000 in
theorem wd_917 : (Cond.methodLink "LeagueLevels$Travel" (45 : Nat) ({ cls := "LeagueLevels$Travel", name := "between", desc := "(II)I" } : MethodName)) ∈ llTb := llTb_of (List.mem_append_right _ (List.mem_of_getElem? (i := 917) (by decide +kernel))) (by decide)
set_option maxRecDepth 100000 in
theorem wd_919 : (Cond.instanceMethod ({ cls := "LeagueLevels", name := "points", desc := "(I)I" } : MethodName)) ∈ llTb := llTb_of (List.mem_append_right _ (List.mem_of_getElem? (i := 919) (by decide +kernel))) (by decide)
set_option maxRecDepth 100000 in
theorem wd_920 : (Cond.selects "LeagueLevels" ({ cls := "LeagueLevels", name := "points", desc := "(I)I" } : MethodName) ({ cls := "LeagueLevels", name := "points", desc := "(I)I" } : MethodName)) ∈ llTb := llTb_of (List.mem_append_right _ (List.mem_of_getElem? (i := 920) (by decide +kernel))) (by decide)
set_option maxRecDepth 100000 in
theorem wd_921 : (Cond.code ({ cls := "LeagueLevels", name := "points", desc := "(I)I" } : MethodName) prog_1_method_16_code (2 : Nat) (Option.some ClassFile.FieldType.int)) ∈ llTb := llTb_of (List.mem_append_right _ (List.mem_of_getElem? (i := 921) (by exact rfl))) (by decide)
set_option maxRecDepth 100000 in
theorem wd_922 : (Cond.methodLink "LeagueLevels" (243 : Nat) ({ cls := "LeagueLevels$Season", name := "pointsOf", desc := "(I)I" } : MethodName)) ∈ llTb := llTb_of (List.mem_append_right _ (List.mem_of_getElem? (i := 922) (by decide +kernel))) (by decide)
set_option maxRecDepth 100000 in
theorem wd_923 : (Cond.constant "LeagueLevels" (248 : Nat) (-2147483648 : Int32)) ∈ llTb := llTb_of (List.mem_append_right _ (List.mem_of_getElem? (i := 923) (by decide +kernel))) (by decide)
set_option maxRecDepth 100000 in
theorem wd_925 : (Cond.instanceMethod ({ cls := "LeagueLevels", name := "average", desc := "(I)I" } : MethodName)) ∈ llTb := llTb_of (List.mem_append_right _ (List.mem_of_getElem? (i := 925) (by decide +kernel))) (by decide)
set_option maxRecDepth 100000 in
theorem wd_926 : (Cond.selects "LeagueLevels" ({ cls := "LeagueLevels", name := "average", desc := "(I)I" } : MethodName) ({ cls := "LeagueLevels", name := "average", desc := "(I)I" } : MethodName)) ∈ llTb := llTb_of (List.mem_append_right _ (List.mem_of_getElem? (i := 926) (by decide +kernel))) (by decide)
set_option maxRecDepth 100000 in
theorem wd_927 : (Cond.code ({ cls := "LeagueLevels", name := "average", desc := "(I)I" } : MethodName) prog_1_method_17_code (3 : Nat) (Option.some ClassFile.FieldType.int)) ∈ llTb := llTb_of (List.mem_append_right _ (List.mem_of_getElem? (i := 927) (by exact rfl))) (by decide)
set_option maxRecDepth 100000 in
theorem wd_928 : (Cond.methodLink "LeagueLevels" (249 : Nat) ({ cls := "LeagueLevels$Bits", name := "ofFloat", desc := "(F)I" } : MethodName)) ∈ llTb := llTb_of (List.mem_append_right _ (List.mem_of_getElem? (i := 928) (by decide +kernel))) (by decide)
set_option maxRecDepth 100000 in
theorem wd_929 : (Cond.static ({ cls := "LeagueLevels$Bits", name := "ofFloat", desc := "(F)I" } : MethodName)) ∈ llTb := llTb_of (List.mem_append_right _ (List.mem_of_getElem? (i := 929) (by decide +kernel))) (by decide)
set_option maxRecDepth 100000 in
theorem wd_930 : (Cond.code ({ cls := "LeagueLevels$Bits", name := "ofFloat", desc := "(F)I" } : MethodName) prog_2_method_3_code (5 : Nat) (Option.some ClassFile.FieldType.int)) ∈ llTb := llTb_of (List.mem_append_right _ (List.mem_of_getElem? (i := 930) (by exact rfl))) (by decide)
set_option maxRecDepth 100000 in
theorem wd_931 : (Cond.methodLink "LeagueLevels$Bits" (15 : Nat) ({ cls := "LeagueLevels$Bits", name := "ofDouble", desc := "(D)J" } : MethodName)) ∈ llTb := llTb_of (List.mem_append_right _ (List.mem_of_getElem? (i := 931) (by decide +kernel))) (by decide)
set_option maxRecDepth 100000 in
theorem wd_932 : (Cond.static ({ cls := "LeagueLevels$Bits", name := "ofDouble", desc := "(D)J" } : MethodName)) ∈ llTb := llTb_of (List.mem_append_right _ (List.mem_of_getElem? (i := 932) (by decide +kernel))) (by decide)
set_option maxRecDepth 100000 in
theorem wd_933 : (Cond.code ({ cls := "LeagueLevels$Bits", name := "ofDouble", desc := "(D)J" } : MethodName) prog_2_method_2_code (7 : Nat) (Option.some ClassFile.FieldType.long)) ∈ llTb := llTb_of (List.mem_append_right _ (List.mem_of_getElem? (i := 933) (by exact rfl))) (by decide)
set_option maxRecDepth 100000 in
theorem wd_934 : (Cond.constantDouble "LeagueLevels$Bits" (7 : Nat) (4611686018427387904 : UInt64)) ∈ llTb := llTb_of (List.mem_append_right _ (List.mem_of_getElem? (i := 934) (by decide +kernel))) (by decide)
set_option maxRecDepth 100000 in
theorem wd_935 : (Cond.constantDouble "LeagueLevels$Bits" (9 : Nat) (4841369599423283200 : UInt64)) ∈ llTb := llTb_of (List.mem_append_right _ (List.mem_of_getElem? (i := 935) (by decide +kernel))) (by decide)
set_option maxRecDepth 100000 in
theorem wd_936 : (Cond.constantLong "LeagueLevels$Bits" (13 : Nat) (-9223372036854775808 : Int64)) ∈ llTb := llTb_of (List.mem_append_right _ (List.mem_of_getElem? (i := 936) (by decide +kernel))) (by decide)
set_option maxRecDepth 100000 in
theorem wd_937 : (Cond.constant "LeagueLevels$Bits" (23 : Nat) (-2147483648 : Int32)) ∈ llTb := llTb_of (List.mem_append_right _ (List.mem_of_getElem? (i := 937) (by decide +kernel))) (by decide)
set_option maxRecDepth 100000 in
theorem wd_938 : (Cond.constantLong "LeagueLevels$Bits" (24 : Nat) (2047 : Int64)) ∈ llTb := llTb_of (List.mem_append_right _ (List.mem_of_getElem? (i := 938) (by decide +kernel))) (by decide)
set_option maxRecDepth 100000 in
theorem wd_939 : (Cond.constantLong "LeagueLevels$Bits" (26 : Nat) (8388607 : Int64)) ∈ llTb := llTb_of (List.mem_append_right _ (List.mem_of_getElem? (i := 939) (by decide +kernel))) (by decide)
set_option maxRecDepth 100000 in
theorem wd_941 : (Cond.instanceMethod ({ cls := "LeagueLevels", name := "ranked", desc := "(III)I" } : MethodName)) ∈ llTb := llTb_of (List.mem_append_right _ (List.mem_of_getElem? (i := 941) (by decide +kernel))) (by decide)
set_option maxRecDepth 100000 in
theorem wd_942 : (Cond.selects "LeagueLevels" ({ cls := "LeagueLevels", name := "ranked", desc := "(III)I" } : MethodName) ({ cls := "LeagueLevels", name := "ranked", desc := "(III)I" } : MethodName)) ∈ llTb := llTb_of (List.mem_append_right _ (List.mem_of_getElem? (i := 942) (by decide +kernel))) (by decide)
set_option maxRecDepth 100000 in
theorem wd_943 : (Cond.code ({ cls := "LeagueLevels", name := "ranked", desc := "(III)I" } : MethodName) prog_1_method_18_code (4 : Nat) (Option.some ClassFile.FieldType.int)) ∈ llTb := llTb_of (List.mem_append_right _ (List.mem_of_getElem? (i := 943) (by exact rfl))) (by decide)
set_option maxRecDepth 100000 in
theorem wd_944 : (Cond.methodLink "LeagueLevels" (255 : Nat) ({ cls := "LeagueLevels$Pyramid", name := "hasDivision", desc := "(II)Z" } : MethodName)) ∈ llTb := llTb_of (List.mem_append_right _ (List.mem_of_getElem? (i := 944) (by decide +kernel))) (by decide)
set_option maxRecDepth 100000 in
theorem wd_945 : (Cond.instanceMethod ({ cls := "LeagueLevels$Pyramid", name := "hasDivision", desc := "(II)Z" } : MethodName)) ∈ llTb := llTb_of (List.mem_append_right _ (List.mem_of_getElem? (i := 945) (by decide +kernel))) (by decide)
set_option maxRecDepth 100000 in
theorem wd_946 : (Cond.selects "LeagueLevels$Pyramid" ({ cls := "LeagueLevels$Pyramid", name := "hasDivision", desc := "(II)Z" } : MethodName) ({ cls := "LeagueLevels$Pyramid", name := "hasDivision", desc := "(II)Z" } : MethodName)) ∈ llTb := llTb_of (List.mem_append_right _ (List.mem_of_getElem? (i := 946) (by decide +kernel))) (by decide)
set_option maxRecDepth 100000 in
theorem wd_947 : (Cond.code ({ cls := "LeagueLevels$Pyramid", name := "hasDivision", desc := "(II)Z" } : MethodName) prog_7_method_4_code (3 : Nat) (Option.some ClassFile.FieldType.boolean)) ∈ llTb := llTb_of (List.mem_append_right _ (List.mem_of_getElem? (i := 947) (by exact rfl))) (by decide)
set_option maxRecDepth 100000 in
theorem wd_948 : (Cond.methodLink "LeagueLevels" (259 : Nat) ({ cls := "LeagueLevels$Table", name := "atRank", desc := "(II)I" } : MethodName)) ∈ llTb := llTb_of (List.mem_append_right _ (List.mem_of_getElem? (i := 948) (by decide +kernel))) (by decide)
set_option maxRecDepth 100000 in
theorem wd_949 : (Cond.instanceMethod ({ cls := "LeagueLevels$Table", name := "atRank", desc := "(II)I" } : MethodName)) ∈ llTb := llTb_of (List.mem_append_right _ (List.mem_of_getElem? (i := 949) (by decide +kernel))) (by decide)
set_option maxRecDepth 100000 in
theorem wd_950 : (Cond.selects "LeagueLevels$Table" ({ cls := "LeagueLevels$Table", name := "atRank", desc := "(II)I" } : MethodName) ({ cls := "LeagueLevels$Table", name := "atRank", desc := "(II)I" } : MethodName)) ∈ llTb := llTb_of (List.mem_append_right _ (List.mem_of_getElem? (i := 950) (by decide +kernel))) (by decide)
set_option maxRecDepth 100000 in
theorem wd_951 : (Cond.code ({ cls := "LeagueLevels$Table", name := "atRank", desc := "(II)I" } : MethodName) prog_10_method_9_code (4 : Nat) (Option.some ClassFile.FieldType.int)) ∈ llTb := llTb_of (List.mem_append_right _ (List.mem_of_getElem? (i := 951) (by exact rfl))) (by decide)
set_option maxRecDepth 100000 in
theorem wd_953 : (Cond.instanceMethod ({ cls := "LeagueLevels", name := "order", desc := "(II)I" } : MethodName)) ∈ llTb := llTb_of (List.mem_append_right _ (List.mem_of_getElem? (i := 953) (by decide +kernel))) (by decide)
set_option maxRecDepth 100000 in
theorem wd_954 : (Cond.selects "LeagueLevels" ({ cls := "LeagueLevels", name := "order", desc := "(II)I" } : MethodName) ({ cls := "LeagueLevels", name := "order", desc := "(II)I" } : MethodName)) ∈ llTb := llTb_of (List.mem_append_right _ (List.mem_of_getElem? (i := 954) (by decide +kernel))) (by decide)
set_option maxRecDepth 100000 in
theorem wd_955 : (Cond.code ({ cls := "LeagueLevels", name := "order", desc := "(II)I" } : MethodName) prog_1_method_19_code (3 : Nat) (Option.some ClassFile.FieldType.int)) ∈ llTb := llTb_of (List.mem_append_right _ (List.mem_of_getElem? (i := 955) (by exact rfl))) (by decide)
set_option maxRecDepth 100000 in
theorem wd_956 : (Cond.methodLink "LeagueLevels" (263 : Nat) ({ cls := "LeagueLevels$Pyramid", name := "hasLevel", desc := "(I)Z" } : MethodName)) ∈ llTb := llTb_of (List.mem_append_right _ (List.mem_of_getElem? (i := 956) (by decide +kernel))) (by decide)
set_option maxRecDepth 100000 in
theorem wd_958 : (Cond.instanceMethod ({ cls := "LeagueLevels", name := "level", desc := "(II)I" } : MethodName)) ∈ llTb := llTb_of (List.mem_append_right _ (List.mem_of_getElem? (i := 958) (by decide +kernel))) (by decide)
set_option maxRecDepth 100000 in
theorem wd_959 : (Cond.selects "LeagueLevels" ({ cls := "LeagueLevels", name := "level", desc := "(II)I" } : MethodName) ({ cls := "LeagueLevels", name := "level", desc := "(II)I" } : MethodName)) ∈ llTb := llTb_of (List.mem_append_right _ (List.mem_of_getElem? (i := 959) (by decide +kernel))) (by decide)
set_option maxRecDepth 100000 in
theorem wd_960 : (Cond.code ({ cls := "LeagueLevels", name := "level", desc := "(II)I" } : MethodName) prog_1_method_20_code (3 : Nat) (Option.some ClassFile.FieldType.int)) ∈ llTb := llTb_of (List.mem_append_right _ (List.mem_of_getElem? (i := 960) (by exact rfl))) (by decide)
set_option maxRecDepth 100000 in
theorem wd_961 : (Cond.methodLink "LeagueLevels" (282 : Nat) ({ cls := "LeagueLevels$Ending", name := "wantingOf", desc := "(I)I" } : MethodName)) ∈ llTb := llTb_of (List.mem_append_right _ (List.mem_of_getElem? (i := 961) (by decide +kernel))) (by decide)
set_option maxRecDepth 100000 in
theorem wd_962 : (Cond.methodLink "LeagueLevels" (285 : Nat) ({ cls := "LeagueLevels$Ending", name := "mayRiseFrom", desc := "(I)I" } : MethodName)) ∈ llTb := llTb_of (List.mem_append_right _ (List.mem_of_getElem? (i := 962) (by decide +kernel))) (by decide)
set_option maxRecDepth 100000 in
theorem wd_963 : (Cond.methodLink "LeagueLevels" (288 : Nat) ({ cls := "LeagueLevels$Travel", name := "ofLevel", desc := "(I)I" } : MethodName)) ∈ llTb := llTb_of (List.mem_append_right _ (List.mem_of_getElem? (i := 963) (by decide +kernel))) (by decide)
set_option maxRecDepth 100000 in
theorem wd_964 : (Cond.instanceMethod ({ cls := "LeagueLevels$Travel", name := "ofLevel", desc := "(I)I" } : MethodName)) ∈ llTb := llTb_of (List.mem_append_right _ (List.mem_of_getElem? (i := 964) (by decide +kernel))) (by decide)
set_option maxRecDepth 100000 in
theorem wd_965 : (Cond.selects "LeagueLevels$Travel" ({ cls := "LeagueLevels$Travel", name := "ofLevel", desc := "(I)I" } : MethodName) ({ cls := "LeagueLevels$Travel", name := "ofLevel", desc := "(I)I" } : MethodName)) ∈ llTb := llTb_of (List.mem_append_right _ (List.mem_of_getElem? (i := 965) (by decide +kernel))) (by decide)
set_option maxRecDepth 100000 in
theorem wd_966 : (Cond.code ({ cls := "LeagueLevels$Travel", name := "ofLevel", desc := "(I)I" } : MethodName) prog_12_method_7_code (4 : Nat) (Option.some ClassFile.FieldType.int)) ∈ llTb := llTb_of (List.mem_append_right _ (List.mem_of_getElem? (i := 966) (by exact rfl))) (by decide)
set_option maxRecDepth 100000 in
theorem wd_967 : (Cond.methodLink "LeagueLevels$Travel" (56 : Nat) ({ cls := "LeagueLevels$Travel", name := "withinTwice", desc := "(II)I" } : MethodName)) ∈ llTb := llTb_of (List.mem_append_right _ (List.mem_of_getElem? (i := 967) (by decide +kernel))) (by decide)
set_option maxRecDepth 100000 in
theorem wd_968 : (Cond.instanceMethod ({ cls := "LeagueLevels$Travel", name := "withinTwice", desc := "(II)I" } : MethodName)) ∈ llTb := llTb_of (List.mem_append_right _ (List.mem_of_getElem? (i := 968) (by decide +kernel))) (by decide)
set_option maxRecDepth 100000 in
theorem wd_969 : (Cond.selects "LeagueLevels$Travel" ({ cls := "LeagueLevels$Travel", name := "withinTwice", desc := "(II)I" } : MethodName) ({ cls := "LeagueLevels$Travel", name := "withinTwice", desc := "(II)I" } : MethodName)) ∈ llTb := llTb_of (List.mem_append_right _ (List.mem_of_getElem? (i := 969) (by decide +kernel))) (by decide)
set_option maxRecDepth 100000 in
theorem wd_970 : (Cond.code ({ cls := "LeagueLevels$Travel", name := "withinTwice", desc := "(II)I" } : MethodName) prog_12_method_6_code (5 : Nat) (Option.some ClassFile.FieldType.int)) ∈ llTb := llTb_of (List.mem_append_right _ (List.mem_of_getElem? (i := 970) (by exact rfl))) (by decide)
set_option maxRecDepth 100000 in
theorem wd_971 : (Cond.methodLink "LeagueLevels$Travel" (49 : Nat) ({ cls := "LeagueLevels$Travel", name := "toDivision", desc := "(III)I" } : MethodName)) ∈ llTb := llTb_of (List.mem_append_right _ (List.mem_of_getElem? (i := 971) (by decide +kernel))) (by decide)
set_option maxRecDepth 100000 in
theorem wd_972 : (Cond.methodLink "LeagueLevels" (291 : Nat) ({ cls := "LeagueLevels$Parting", name := "partAnew", desc := "(I)V" } : MethodName)) ∈ llTb := llTb_of (List.mem_append_right _ (List.mem_of_getElem? (i := 972) (by decide +kernel))) (by decide)
set_option maxRecDepth 100000 in
theorem wd_974 : (Cond.instanceMethod ({ cls := "LeagueLevels", name := "moves", desc := "(III)I" } : MethodName)) ∈ llTb := llTb_of (List.mem_append_right _ (List.mem_of_getElem? (i := 974) (by decide +kernel))) (by decide)
set_option maxRecDepth 100000 in
theorem wd_975 : (Cond.selects "LeagueLevels" ({ cls := "LeagueLevels", name := "moves", desc := "(III)I" } : MethodName) ({ cls := "LeagueLevels", name := "moves", desc := "(III)I" } : MethodName)) ∈ llTb := llTb_of (List.mem_append_right _ (List.mem_of_getElem? (i := 975) (by decide +kernel))) (by decide)
set_option maxRecDepth 100000 in
theorem wd_976 : (Cond.code ({ cls := "LeagueLevels", name := "moves", desc := "(III)I" } : MethodName) prog_1_method_21_code (5 : Nat) (Option.some ClassFile.FieldType.int)) ∈ llTb := llTb_of (List.mem_append_right _ (List.mem_of_getElem? (i := 976) (by exact rfl))) (by decide)
set_option maxRecDepth 100000 in
theorem wd_977 : (Cond.methodLink "LeagueLevels" (297 : Nat) ({ cls := "LeagueLevels$Ending", name := "countOf", desc := "(II)I" } : MethodName)) ∈ llTb := llTb_of (List.mem_append_right _ (List.mem_of_getElem? (i := 977) (by decide +kernel))) (by decide)
set_option maxRecDepth 100000 in
theorem wd_978 : (Cond.methodLink "LeagueLevels" (300 : Nat) ({ cls := "LeagueLevels$Ending", name := "mover", desc := "(III)I" } : MethodName)) ∈ llTb := llTb_of (List.mem_append_right _ (List.mem_of_getElem? (i := 978) (by decide +kernel))) (by decide)
set_option maxRecDepth 100000 in
theorem wd_979 : (Cond.instanceMethod ({ cls := "LeagueLevels$Ending", name := "mover", desc := "(III)I" } : MethodName)) ∈ llTb := llTb_of (List.mem_append_right _ (List.mem_of_getElem? (i := 979) (by decide +kernel))) (by decide)
set_option maxRecDepth 100000 in
theorem wd_980 : (Cond.selects "LeagueLevels$Ending" ({ cls := "LeagueLevels$Ending", name := "mover", desc := "(III)I" } : MethodName) ({ cls := "LeagueLevels$Ending", name := "mover", desc := "(III)I" } : MethodName)) ∈ llTb := llTb_of (List.mem_append_right _ (List.mem_of_getElem? (i := 980) (by decide +kernel))) (by decide)
set_option maxRecDepth 100000 in
theorem wd_981 : (Cond.code ({ cls := "LeagueLevels$Ending", name := "mover", desc := "(III)I" } : MethodName) prog_5_method_6_code (4 : Nat) (Option.some ClassFile.FieldType.int)) ∈ llTb := llTb_of (List.mem_append_right _ (List.mem_of_getElem? (i := 981) (by exact rfl))) (by decide)
set_option maxRecDepth 100000 in
theorem wd_983 : (Cond.instanceMethod ({ cls := "LeagueLevels", name := "would", desc := "(I)I" } : MethodName)) ∈ llTb := llTb_of (List.mem_append_right _ (List.mem_of_getElem? (i := 983) (by decide +kernel))) (by decide)
set_option maxRecDepth 100000 in
theorem wd_984 : (Cond.selects "LeagueLevels" ({ cls := "LeagueLevels", name := "would", desc := "(I)I" } : MethodName) ({ cls := "LeagueLevels", name := "would", desc := "(I)I" } : MethodName)) ∈ llTb := llTb_of (List.mem_append_right _ (List.mem_of_getElem? (i := 984) (by decide +kernel))) (by decide)
set_option maxRecDepth 100000 in
theorem wd_985 : (Cond.code ({ cls := "LeagueLevels", name := "would", desc := "(I)I" } : MethodName) prog_1_method_22_code (2 : Nat) (Option.some ClassFile.FieldType.int)) ∈ llTb := llTb_of (List.mem_append_right _ (List.mem_of_getElem? (i := 985) (by exact rfl))) (by decide)
set_option maxRecDepth 100000 in
theorem wd_987 : (Cond.instanceMethod ({ cls := "LeagueLevels", name := "needs", desc := "(I)I" } : MethodName)) ∈ llTb := llTb_of (List.mem_append_right _ (List.mem_of_getElem? (i := 987) (by decide +kernel))) (by decide)
set_option maxRecDepth 100000 in
theorem wd_988 : (Cond.selects "LeagueLevels" ({ cls := "LeagueLevels", name := "needs", desc := "(I)I" } : MethodName) ({ cls := "LeagueLevels", name := "needs", desc := "(I)I" } : MethodName)) ∈ llTb := llTb_of (List.mem_append_right _ (List.mem_of_getElem? (i := 988) (by decide +kernel))) (by decide)
set_option maxRecDepth 100000 in
theorem wd_989 : (Cond.code ({ cls := "LeagueLevels", name := "needs", desc := "(I)I" } : MethodName) prog_1_method_23_code (3 : Nat) (Option.some ClassFile.FieldType.int)) ∈ llTb := llTb_of (List.mem_append_right _ (List.mem_of_getElem? (i := 989) (by exact rfl))) (by decide)
set_option maxRecDepth 100000 in
theorem wd_990 : (Cond.methodLink "LeagueLevels" (303 : Nat) ({ cls := "LeagueLevels$Ending", name := "risesWith", desc := "(II)Z" } : MethodName)) ∈ llTb := llTb_of (List.mem_append_right _ (List.mem_of_getElem? (i := 990) (by decide +kernel))) (by decide)
set_option maxRecDepth 100000 in
theorem wd_991 : (Cond.instanceMethod ({ cls := "LeagueLevels$Ending", name := "risesWith", desc := "(II)Z" } : MethodName)) ∈ llTb := llTb_of (List.mem_append_right _ (List.mem_of_getElem? (i := 991) (by decide +kernel))) (by decide)
set_option maxRecDepth 100000 in
theorem wd_992 : (Cond.selects "LeagueLevels$Ending" ({ cls := "LeagueLevels$Ending", name := "risesWith", desc := "(II)Z" } : MethodName) ({ cls := "LeagueLevels$Ending", name := "risesWith", desc := "(II)Z" } : MethodName)) ∈ llTb := llTb_of (List.mem_append_right _ (List.mem_of_getElem? (i := 992) (by decide +kernel))) (by decide)
set_option maxRecDepth 100000 in
theorem wd_993 : (Cond.code ({ cls := "LeagueLevels$Ending", name := "risesWith", desc := "(II)Z" } : MethodName) prog_5_method_15_code (5 : Nat) (Option.some ClassFile.FieldType.boolean)) ∈ llTb := llTb_of (List.mem_append_right _ (List.mem_of_getElem? (i := 993) (by exact rfl))) (by decide)
set_option maxRecDepth 100000 in
theorem wd_994 : (Cond.methodLink "LeagueLevels$Ending" (132 : Nat) ({ cls := "LeagueLevels$Ending", name := "weigh", desc := "()Z" } : MethodName)) ∈ llTb := llTb_of (List.mem_append_right _ (List.mem_of_getElem? (i := 994) (by decide +kernel))) (by decide)
set_option maxRecDepth 100000 in
theorem wd_996 : (Cond.instanceMethod ({ cls := "LeagueLevels", name := "parted", desc := "(I)I" } : MethodName)) ∈ llTb := llTb_of (List.mem_append_right _ (List.mem_of_getElem? (i := 996) (by decide +kernel))) (by decide)
set_option maxRecDepth 100000 in
theorem wd_997 : (Cond.selects "LeagueLevels" ({ cls := "LeagueLevels", name := "parted", desc := "(I)I" } : MethodName) ({ cls := "LeagueLevels", name := "parted", desc := "(I)I" } : MethodName)) ∈ llTb := llTb_of (List.mem_append_right _ (List.mem_of_getElem? (i := 997) (by decide +kernel))) (by decide)
set_option maxRecDepth 100000 in
theorem wd_998 : (Cond.code ({ cls := "LeagueLevels", name := "parted", desc := "(I)I" } : MethodName) prog_1_method_24_code (2 : Nat) (Option.some ClassFile.FieldType.int)) ∈ llTb := llTb_of (List.mem_append_right _ (List.mem_of_getElem? (i := 998) (by exact rfl))) (by decide)
set_option maxRecDepth 100000 in
theorem wd_1000 : (Cond.instanceMethod ({ cls := "LeagueLevels", name := "swap", desc := "(II)I" } : MethodName)) ∈ llTb := llTb_of (List.mem_append_right _ (List.mem_of_getElem? (i := 1000) (by decide +kernel))) (by decide)
set_option maxRecDepth 100000 in
theorem wd_1001 : (Cond.selects "LeagueLevels" ({ cls := "LeagueLevels", name := "swap", desc := "(II)I" } : MethodName) ({ cls := "LeagueLevels", name := "swap", desc := "(II)I" } : MethodName)) ∈ llTb := llTb_of (List.mem_append_right _ (List.mem_of_getElem? (i := 1001) (by decide +kernel))) (by decide)
set_option maxRecDepth 100000 in
theorem wd_1002 : (Cond.code ({ cls := "LeagueLevels", name := "swap", desc := "(II)I" } : MethodName) prog_1_method_25_code (3 : Nat) (Option.some ClassFile.FieldType.int)) ∈ llTb := llTb_of (List.mem_append_right _ (List.mem_of_getElem? (i := 1002) (by exact rfl))) (by decide)
set_option maxRecDepth 100000 in
theorem wd_1003 : (Cond.methodLink "LeagueLevels" (309 : Nat) ({ cls := "LeagueLevels$Travel", name := "findSwap", desc := "(I)Z" } : MethodName)) ∈ llTb := llTb_of (List.mem_append_right _ (List.mem_of_getElem? (i := 1003) (by decide +kernel))) (by decide)
set_option maxRecDepth 100000 in
theorem wd_1004 : (Cond.instanceMethod ({ cls := "LeagueLevels$Travel", name := "findSwap", desc := "(I)Z" } : MethodName)) ∈ llTb := llTb_of (List.mem_append_right _ (List.mem_of_getElem? (i := 1004) (by decide +kernel))) (by decide)
set_option maxRecDepth 100000 in
theorem wd_1005 : (Cond.selects "LeagueLevels$Travel" ({ cls := "LeagueLevels$Travel", name := "findSwap", desc := "(I)Z" } : MethodName) ({ cls := "LeagueLevels$Travel", name := "findSwap", desc := "(I)Z" } : MethodName)) ∈ llTb := llTb_of (List.mem_append_right _ (List.mem_of_getElem? (i := 1005) (by decide +kernel))) (by decide)
set_option maxRecDepth 100000 in
theorem wd_1006 : (Cond.code ({ cls := "LeagueLevels$Travel", name := "findSwap", desc := "(I)Z" } : MethodName) prog_12_method_11_code (5 : Nat) (Option.some ClassFile.FieldType.boolean)) ∈ llTb := llTb_of (List.mem_append_right _ (List.mem_of_getElem? (i := 1006) (by exact rfl))) (by decide)
set_option maxRecDepth 100000 in
theorem wd_1007 : (Cond.methodLink "LeagueLevels$Travel" (69 : Nat) ({ cls := "LeagueLevels$Travel", name := "survey", desc := "(I)V" } : MethodName)) ∈ llTb := llTb_of (List.mem_append_right _ (List.mem_of_getElem? (i := 1007) (by decide +kernel))) (by decide)
set_option maxRecDepth 100000 in
theorem wd_1009 : (Cond.instanceMethod ({ cls := "LeagueLevels$Travel", name := "survey", desc := "(I)V" } : MethodName)) ∈ llTb := llTb_of (List.mem_append_right _ (List.mem_of_getElem? (i := 1009) (by decide +kernel))) (by decide)
set_option maxRecDepth 100000 in
theorem wd_1010 : (Cond.code ({ cls := "LeagueLevels$Travel", name := "survey", desc := "(I)V" } : MethodName) prog_12_method_8_code (4 : Nat) (Option.none : Option ClassFile.FieldType)) ∈ llTb := llTb_of (List.mem_append_right _ (List.mem_of_getElem? (i := 1010) (by exact rfl))) (by decide)
set_option maxRecDepth 100000 in
theorem wd_1011 : (Cond.methodLink "LeagueLevels$Travel" (59 : Nat) ({ cls := "LeagueLevels$Pyramid", name := "gather", desc := "(I[I)I" } : MethodName)) ∈ llTb := llTb_of (List.mem_append_right _ (List.mem_of_getElem? (i := 1011) (by decide +kernel))) (by decide)
set_option maxRecDepth 100000 in
theorem wd_1012 : (Cond.methodLink "LeagueLevels$Travel" (76 : Nat) ({ cls := "LeagueLevels$Travel", name := "divisionOf", desc := "(I)I" } : MethodName)) ∈ llTb := llTb_of (List.mem_append_right _ (List.mem_of_getElem? (i := 1012) (by decide +kernel))) (by decide)
set_option maxRecDepth 100000 in
theorem wd_1014 : (Cond.instanceMethod ({ cls := "LeagueLevels$Travel", name := "divisionOf", desc := "(I)I" } : MethodName)) ∈ llTb := llTb_of (List.mem_append_right _ (List.mem_of_getElem? (i := 1014) (by decide +kernel))) (by decide)
set_option maxRecDepth 100000 in
theorem wd_1015 : (Cond.code ({ cls := "LeagueLevels$Travel", name := "divisionOf", desc := "(I)I" } : MethodName) prog_12_method_10_code (2 : Nat) (Option.some ClassFile.FieldType.int)) ∈ llTb := llTb_of (List.mem_append_right _ (List.mem_of_getElem? (i := 1015) (by exact rfl))) (by decide)
set_option maxRecDepth 100000 in
theorem wd_1016 : (Cond.methodLink "LeagueLevels$Travel" (79 : Nat) ({ cls := "LeagueLevels$Travel", name := "savingOf", desc := "(II)I" } : MethodName)) ∈ llTb := llTb_of (List.mem_append_right _ (List.mem_of_getElem? (i := 1016) (by decide +kernel))) (by decide)
set_option maxRecDepth 100000 in
theorem wd_1018 : (Cond.instanceMethod ({ cls := "LeagueLevels$Travel", name := "savingOf", desc := "(II)I" } : MethodName)) ∈ llTb := llTb_of (List.mem_append_right _ (List.mem_of_getElem? (i := 1018) (by decide +kernel))) (by decide)
set_option maxRecDepth 100000 in
theorem wd_1019 : (Cond.code ({ cls := "LeagueLevels$Travel", name := "savingOf", desc := "(II)I" } : MethodName) prog_12_method_12_code (5 : Nat) (Option.some ClassFile.FieldType.int)) ∈ llTb := llTb_of (List.mem_append_right _ (List.mem_of_getElem? (i := 1019) (by exact rfl))) (by decide)
set_option maxRecDepth 100000 in
theorem wd_1020 : (Cond.methodLink "LeagueLevels$Travel" (88 : Nat) ({ cls := "LeagueLevels$Travel", name := "farFrom", desc := "(II)I" } : MethodName)) ∈ llTb := llTb_of (List.mem_append_right _ (List.mem_of_getElem? (i := 1020) (by decide +kernel))) (by decide)
set_option maxRecDepth 100000 in
theorem wd_1022 : (Cond.instanceMethod ({ cls := "LeagueLevels$Travel", name := "farFrom", desc := "(II)I" } : MethodName)) ∈ llTb := llTb_of (List.mem_append_right _ (List.mem_of_getElem? (i := 1022) (by decide +kernel))) (by decide)
set_option maxRecDepth 100000 in
theorem wd_1023 : (Cond.code ({ cls := "LeagueLevels$Travel", name := "farFrom", desc := "(II)I" } : MethodName) prog_12_method_9_code (3 : Nat) (Option.some ClassFile.FieldType.int)) ∈ llTb := llTb_of (List.mem_append_right _ (List.mem_of_getElem? (i := 1023) (by exact rfl))) (by decide)
set_option maxRecDepth 100000 in
theorem wd_1025 : (Cond.instanceMethod ({ cls := "LeagueLevels", name := "middle", desc := "(I)I" } : MethodName)) ∈ llTb := llTb_of (List.mem_append_right _ (List.mem_of_getElem? (i := 1025) (by decide +kernel))) (by decide)
set_option maxRecDepth 100000 in
theorem wd_1026 : (Cond.selects "LeagueLevels" ({ cls := "LeagueLevels", name := "middle", desc := "(I)I" } : MethodName) ({ cls := "LeagueLevels", name := "middle", desc := "(I)I" } : MethodName)) ∈ llTb := llTb_of (List.mem_append_right _ (List.mem_of_getElem? (i := 1026) (by decide +kernel))) (by decide)
set_option maxRecDepth 100000 in
theorem wd_1027 : (Cond.code ({ cls := "LeagueLevels", name := "middle", desc := "(I)I" } : MethodName) prog_1_method_26_code (2 : Nat) (Option.some ClassFile.FieldType.int)) ∈ llTb := llTb_of (List.mem_append_right _ (List.mem_of_getElem? (i := 1027) (by exact rfl))) (by decide)
set_option maxRecDepth 100000 in
theorem wd_1028 : (Cond.methodLink "LeagueLevels" (321 : Nat) ({ cls := "LeagueLevels$Travel", name := "midmost", desc := "(I)I" } : MethodName)) ∈ llTb := llTb_of (List.mem_append_right _ (List.mem_of_getElem? (i := 1028) (by decide +kernel))) (by decide)
set_option maxRecDepth 100000 in
theorem wd_1029 : (Cond.instanceMethod ({ cls := "LeagueLevels$Travel", name := "midmost", desc := "(I)I" } : MethodName)) ∈ llTb := llTb_of (List.mem_append_right _ (List.mem_of_getElem? (i := 1029) (by decide +kernel))) (by decide)
set_option maxRecDepth 100000 in
theorem wd_1030 : (Cond.selects "LeagueLevels$Travel" ({ cls := "LeagueLevels$Travel", name := "midmost", desc := "(I)I" } : MethodName) ({ cls := "LeagueLevels$Travel", name := "midmost", desc := "(I)I" } : MethodName)) ∈ llTb := llTb_of (List.mem_append_right _ (List.mem_of_getElem? (i := 1030) (by decide +kernel))) (by decide)
set_option maxRecDepth 100000 in
theorem wd_1031 : (Cond.code ({ cls := "LeagueLevels$Travel", name := "midmost", desc := "(I)I" } : MethodName) prog_12_method_13_code (7 : Nat) (Option.some ClassFile.FieldType.int)) ∈ llTb := llTb_of (List.mem_append_right _ (List.mem_of_getElem? (i := 1031) (by exact rfl))) (by decide)
set_option maxRecDepth 100000 in
theorem wd_1032 : (Cond.constant "LeagueLevels$Travel" (93 : Nat) (2147483647 : Int32)) ∈ llTb := llTb_of (List.mem_append_right _ (List.mem_of_getElem? (i := 1032) (by decide +kernel))) (by decide)
set_option maxRecDepth 100000 in
theorem wd_1034 : (Cond.instanceMethod ({ cls := "LeagueLevels", name := "rest", desc := "(II)J" } : MethodName)) ∈ llTb := llTb_of (List.mem_append_right _ (List.mem_of_getElem? (i := 1034) (by decide +kernel))) (by decide)
set_option maxRecDepth 100000 in
theorem wd_1035 : (Cond.selects "LeagueLevels" ({ cls := "LeagueLevels", name := "rest", desc := "(II)J" } : MethodName) ({ cls := "LeagueLevels", name := "rest", desc := "(II)J" } : MethodName)) ∈ llTb := llTb_of (List.mem_append_right _ (List.mem_of_getElem? (i := 1035) (by decide +kernel))) (by decide)
set_option maxRecDepth 100000 in
theorem wd_1036 : (Cond.code ({ cls := "LeagueLevels", name := "rest", desc := "(II)J" } : MethodName) prog_1_method_27_code (6 : Nat) (Option.some ClassFile.FieldType.long)) ∈ llTb := llTb_of (List.mem_append_right _ (List.mem_of_getElem? (i := 1036) (by exact rfl))) (by decide)
set_option maxRecDepth 100000 in
theorem wd_1037 : (Cond.constantLong "LeagueLevels" (324 : Nat) (-1 : Int64)) ∈ llTb := llTb_of (List.mem_append_right _ (List.mem_of_getElem? (i := 1037) (by decide +kernel))) (by decide)
set_option maxRecDepth 100000 in
theorem wd_1038 : (Cond.methodLink "LeagueLevels" (326 : Nat) ({ cls := "LeagueLevels$Season", name := "playedIn", desc := "(LLeagueLevels$Pyramid;II)I" } : MethodName)) ∈ llTb := llTb_of (List.mem_append_right _ (List.mem_of_getElem? (i := 1038) (by decide +kernel))) (by decide)
set_option maxRecDepth 100000 in
theorem wd_1039 : (Cond.instanceMethod ({ cls := "LeagueLevels$Season", name := "playedIn", desc := "(LLeagueLevels$Pyramid;II)I" } : MethodName)) ∈ llTb := llTb_of (List.mem_append_right _ (List.mem_of_getElem? (i := 1039) (by decide +kernel))) (by decide)
set_option maxRecDepth 100000 in
theorem wd_1040 : (Cond.selects "LeagueLevels$Season" ({ cls := "LeagueLevels$Season", name := "playedIn", desc := "(LLeagueLevels$Pyramid;II)I" } : MethodName) ({ cls := "LeagueLevels$Season", name := "playedIn", desc := "(LLeagueLevels$Pyramid;II)I" } : MethodName)) ∈ llTb := llTb_of (List.mem_append_right _ (List.mem_of_getElem? (i := 1040) (by decide +kernel))) (by decide)
set_option maxRecDepth 100000 in
theorem wd_1041 : (Cond.code ({ cls := "LeagueLevels$Season", name := "playedIn", desc := "(LLeagueLevels$Pyramid;II)I" } : MethodName) prog_9_method_13_code (6 : Nat) (Option.some ClassFile.FieldType.int)) ∈ llTb := llTb_of (List.mem_append_right _ (List.mem_of_getElem? (i := 1041) (by exact rfl))) (by decide)
set_option maxRecDepth 100000 in
theorem wd_1042 : (Cond.methodLink "LeagueLevels$Season" (87 : Nat) ({ cls := "LeagueLevels$Pyramid", name := "standsIn", desc := "(III)Z" } : MethodName)) ∈ llTb := llTb_of (List.mem_append_right _ (List.mem_of_getElem? (i := 1042) (by decide +kernel))) (by decide)
set_option maxRecDepth 100000 in
theorem wd_1043 : (Cond.methodLink "LeagueLevels" (330 : Nat) ({ cls := "LeagueLevels$Travel", name := "withinTwice", desc := "(II)I" } : MethodName)) ∈ llTb := llTb_of (List.mem_append_right _ (List.mem_of_getElem? (i := 1043) (by decide +kernel))) (by decide)
set_option maxRecDepth 100000 in
theorem wd_1044 : (Cond.methodLink "LeagueLevels" (333 : Nat) ({ cls := "LeagueLevels$Bits", name := "ofDouble", desc := "(D)J" } : MethodName)) ∈ llTb := llTb_of (List.mem_append_right _ (List.mem_of_getElem? (i := 1044) (by decide +kernel))) (by decide)
set_option maxRecDepth 100000 in
theorem wd_1046 : (Cond.instanceMethod ({ cls := "LeagueLevels", name := "match", desc := "(III)I" } : MethodName)) ∈ llTb := llTb_of (List.mem_append_right _ (List.mem_of_getElem? (i := 1046) (by decide +kernel))) (by decide)
set_option maxRecDepth 100000 in
theorem wd_1047 : (Cond.selects "LeagueLevels" ({ cls := "LeagueLevels", name := "match", desc := "(III)I" } : MethodName) ({ cls := "LeagueLevels", name := "match", desc := "(III)I" } : MethodName)) ∈ llTb := llTb_of (List.mem_append_right _ (List.mem_of_getElem? (i := 1047) (by decide +kernel))) (by decide)
set_option maxRecDepth 100000 in
theorem wd_1048 : (Cond.code ({ cls := "LeagueLevels", name := "match", desc := "(III)I" } : MethodName) prog_1_method_28_code (4 : Nat) (Option.some ClassFile.FieldType.int)) ∈ llTb := llTb_of (List.mem_append_right _ (List.mem_of_getElem? (i := 1048) (by exact rfl))) (by decide)
set_option maxRecDepth 100000 in
theorem wd_1049 : (Cond.methodLink "LeagueLevels" (337 : Nat) ({ cls := "LeagueLevels$Season", name := "homeGoals", desc := "(II)I" } : MethodName)) ∈ llTb := llTb_of (List.mem_append_right _ (List.mem_of_getElem? (i := 1049) (by decide +kernel))) (by decide)
set_option maxRecDepth 100000 in
theorem wd_1050 : (Cond.methodLink "LeagueLevels" (340 : Nat) ({ cls := "LeagueLevels$Season", name := "awayGoals", desc := "(II)I" } : MethodName)) ∈ llTb := llTb_of (List.mem_append_right _ (List.mem_of_getElem? (i := 1050) (by decide +kernel))) (by decide)
set_option maxRecDepth 100000 in
theorem wd_1052 : (Cond.instanceMethod ({ cls := "LeagueLevels", name := "above", desc := "(I)I" } : MethodName)) ∈ llTb := llTb_of (List.mem_append_right _ (List.mem_of_getElem? (i := 1052) (by decide +kernel))) (by decide)
set_option maxRecDepth 100000 in
theorem wd_1053 : (Cond.selects "LeagueLevels" ({ cls := "LeagueLevels", name := "above", desc := "(I)I" } : MethodName) ({ cls := "LeagueLevels", name := "above", desc := "(I)I" } : MethodName)) ∈ llTb := llTb_of (List.mem_append_right _ (List.mem_of_getElem? (i := 1053) (by decide +kernel))) (by decide)
set_option maxRecDepth 100000 in
theorem wd_1054 : (Cond.code ({ cls := "LeagueLevels", name := "above", desc := "(I)I" } : MethodName) prog_1_method_29_code (2 : Nat) (Option.some ClassFile.FieldType.int)) ∈ llTb := llTb_of (List.mem_append_right _ (List.mem_of_getElem? (i := 1054) (by exact rfl))) (by decide)
set_option maxRecDepth 100000 in
theorem wd_1055 : (Cond.methodLink "LeagueLevels" (343 : Nat) ({ cls := "LeagueLevels$Table", name := "canReach", desc := "(I)I" } : MethodName)) ∈ llTb := llTb_of (List.mem_append_right _ (List.mem_of_getElem? (i := 1055) (by decide +kernel))) (by decide)
set_option maxRecDepth 100000 in
theorem wd_1056 : (Cond.instanceMethod ({ cls := "LeagueLevels$Table", name := "canReach", desc := "(I)I" } : MethodName)) ∈ llTb := llTb_of (List.mem_append_right _ (List.mem_of_getElem? (i := 1056) (by decide +kernel))) (by decide)
set_option maxRecDepth 100000 in
theorem wd_1057 : (Cond.selects "LeagueLevels$Table" ({ cls := "LeagueLevels$Table", name := "canReach", desc := "(I)I" } : MethodName) ({ cls := "LeagueLevels$Table", name := "canReach", desc := "(I)I" } : MethodName)) ∈ llTb := llTb_of (List.mem_append_right _ (List.mem_of_getElem? (i := 1057) (by decide +kernel))) (by decide)
set_option maxRecDepth 100000 in
theorem wd_1058 : (Cond.code ({ cls := "LeagueLevels$Table", name := "canReach", desc := "(I)I" } : MethodName) prog_10_method_10_code (6 : Nat) (Option.some ClassFile.FieldType.int)) ∈ llTb := llTb_of (List.mem_append_right _ (List.mem_of_getElem? (i := 1058) (by exact rfl))) (by decide)
set_option maxRecDepth 100000 in
theorem wd_1059 : (Cond.methodLink "LeagueLevels$Table" (92 : Nat) ({ cls := "LeagueLevels$Pyramid", name := "together", desc := "(II)Z" } : MethodName)) ∈ llTb := llTb_of (List.mem_append_right _ (List.mem_of_getElem? (i := 1059) (by decide +kernel))) (by decide)
set_option maxRecDepth 100000 in
theorem wd_1061 : (Cond.instanceMethod ({ cls := "LeagueLevels", name := "journeys", desc := "(I)I" } : MethodName)) ∈ llTb := llTb_of (List.mem_append_right _ (List.mem_of_getElem? (i := 1061) (by decide +kernel))) (by decide)
set_option maxRecDepth 100000 in
theorem wd_1062 : (Cond.selects "LeagueLevels" ({ cls := "LeagueLevels", name := "journeys", desc := "(I)I" } : MethodName) ({ cls := "LeagueLevels", name := "journeys", desc := "(I)I" } : MethodName)) ∈ llTb := llTb_of (List.mem_append_right _ (List.mem_of_getElem? (i := 1062) (by decide +kernel))) (by decide)
set_option maxRecDepth 100000 in
theorem wd_1063 : (Cond.code ({ cls := "LeagueLevels", name := "journeys", desc := "(I)I" } : MethodName) prog_1_method_30_code (4 : Nat) (Option.some ClassFile.FieldType.int)) ∈ llTb := llTb_of (List.mem_append_right _ (List.mem_of_getElem? (i := 1063) (by exact rfl))) (by decide)
set_option maxRecDepth 100000 in
theorem wd_1064 : (Cond.methodLink "LeagueLevels" (352 : Nat) ({ cls := "LeagueLevels$Travel", name := "between", desc := "(II)I" } : MethodName)) ∈ llTb := llTb_of (List.mem_append_right _ (List.mem_of_getElem? (i := 1064) (by decide +kernel))) (by decide)
set_option maxRecDepth 100000 in
theorem wd_1066 : (Cond.instanceMethod ({ cls := "LeagueLevels", name := "nearest", desc := "(I)I" } : MethodName)) ∈ llTb := llTb_of (List.mem_append_right _ (List.mem_of_getElem? (i := 1066) (by decide +kernel))) (by decide)
set_option maxRecDepth 100000 in
theorem wd_1067 : (Cond.selects "LeagueLevels" ({ cls := "LeagueLevels", name := "nearest", desc := "(I)I" } : MethodName) ({ cls := "LeagueLevels", name := "nearest", desc := "(I)I" } : MethodName)) ∈ llTb := llTb_of (List.mem_append_right _ (List.mem_of_getElem? (i := 1067) (by decide +kernel))) (by decide)
set_option maxRecDepth 100000 in
theorem wd_1068 : (Cond.code ({ cls := "LeagueLevels", name := "nearest", desc := "(I)I" } : MethodName) prog_1_method_31_code (2 : Nat) (Option.some ClassFile.FieldType.int)) ∈ llTb := llTb_of (List.mem_append_right _ (List.mem_of_getElem? (i := 1068) (by exact rfl))) (by decide)
set_option maxRecDepth 100000 in
theorem wd_1069 : (Cond.methodLink "LeagueLevels" (355 : Nat) ({ cls := "LeagueLevels$Travel", name := "closest", desc := "(I)I" } : MethodName)) ∈ llTb := llTb_of (List.mem_append_right _ (List.mem_of_getElem? (i := 1069) (by decide +kernel))) (by decide)
set_option maxRecDepth 100000 in
theorem wd_1070 : (Cond.instanceMethod ({ cls := "LeagueLevels$Travel", name := "closest", desc := "(I)I" } : MethodName)) ∈ llTb := llTb_of (List.mem_append_right _ (List.mem_of_getElem? (i := 1070) (by decide +kernel))) (by decide)
set_option maxRecDepth 100000 in
theorem wd_1071 : (Cond.selects "LeagueLevels$Travel" ({ cls := "LeagueLevels$Travel", name := "closest", desc := "(I)I" } : MethodName) ({ cls := "LeagueLevels$Travel", name := "closest", desc := "(I)I" } : MethodName)) ∈ llTb := llTb_of (List.mem_append_right _ (List.mem_of_getElem? (i := 1071) (by decide +kernel))) (by decide)
set_option maxRecDepth 100000 in
theorem wd_1072 : (Cond.code ({ cls := "LeagueLevels$Travel", name := "closest", desc := "(I)I" } : MethodName) prog_12_method_14_code (5 : Nat) (Option.some ClassFile.FieldType.int)) ∈ llTb := llTb_of (List.mem_append_right _ (List.mem_of_getElem? (i := 1072) (by exact rfl))) (by decide)
set_option maxRecDepth 100000 in
theorem wd_1073 : (Cond.methodLink "LeagueLevels$Travel" (94 : Nat) ({ cls := "LeagueLevels$Pyramid", name := "together", desc := "(II)Z" } : MethodName)) ∈ llTb := llTb_of (List.mem_append_right _ (List.mem_of_getElem? (i := 1073) (by decide +kernel))) (by decide)
set_option maxRecDepth 100000 in
theorem wd_1075 : (Cond.instanceMethod ({ cls := "LeagueLevels", name := "versus", desc := "(II)I" } : MethodName)) ∈ llTb := llTb_of (List.mem_append_right _ (List.mem_of_getElem? (i := 1075) (by decide +kernel))) (by decide)
set_option maxRecDepth 100000 in
theorem wd_1076 : (Cond.selects "LeagueLevels" ({ cls := "LeagueLevels", name := "versus", desc := "(II)I" } : MethodName) ({ cls := "LeagueLevels", name := "versus", desc := "(II)I" } : MethodName)) ∈ llTb := llTb_of (List.mem_append_right _ (List.mem_of_getElem? (i := 1076) (by decide +kernel))) (by decide)
set_option maxRecDepth 100000 in
theorem wd_1077 : (Cond.code ({ cls := "LeagueLevels", name := "versus", desc := "(II)I" } : MethodName) prog_1_method_32_code (3 : Nat) (Option.some ClassFile.FieldType.int)) ∈ llTb := llTb_of (List.mem_append_right _ (List.mem_of_getElem? (i := 1077) (by exact rfl))) (by decide)
set_option maxRecDepth 100000 in
theorem wd_1078 : (Cond.methodLink "LeagueLevels" (358 : Nat) ({ cls := "LeagueLevels$Season", name := "gotFrom", desc := "(II)I" } : MethodName)) ∈ llTb := llTb_of (List.mem_append_right _ (List.mem_of_getElem? (i := 1078) (by decide +kernel))) (by decide)
set_option maxRecDepth 100000 in
theorem wd_1079 : (Cond.instanceMethod ({ cls := "LeagueLevels$Season", name := "gotFrom", desc := "(II)I" } : MethodName)) ∈ llTb := llTb_of (List.mem_append_right _ (List.mem_of_getElem? (i := 1079) (by decide +kernel))) (by decide)
set_option maxRecDepth 100000 in
theorem wd_1080 : (Cond.selects "LeagueLevels$Season" ({ cls := "LeagueLevels$Season", name := "gotFrom", desc := "(II)I" } : MethodName) ({ cls := "LeagueLevels$Season", name := "gotFrom", desc := "(II)I" } : MethodName)) ∈ llTb := llTb_of (List.mem_append_right _ (List.mem_of_getElem? (i := 1080) (by decide +kernel))) (by decide)
set_option maxRecDepth 100000 in
theorem wd_1081 : (Cond.code ({ cls := "LeagueLevels$Season", name := "gotFrom", desc := "(II)I" } : MethodName) prog_9_method_11_code (4 : Nat) (Option.some ClassFile.FieldType.int)) ∈ llTb := llTb_of (List.mem_append_right _ (List.mem_of_getElem? (i := 1081) (by exact rfl))) (by decide)
set_option maxRecDepth 100000 in
theorem wd_1082 : (Cond.methodLink "LeagueLevels$Season" (79 : Nat) ({ cls := "LeagueLevels$Season", name := "pointsFor", desc := "(II)I" } : MethodName)) ∈ llTb := llTb_of (List.mem_append_right _ (List.mem_of_getElem? (i := 1082) (by decide +kernel))) (by decide)
set_option maxRecDepth 100000 in
theorem wd_1083 : (Cond.static ({ cls := "LeagueLevels$Season", name := "pointsFor", desc := "(II)I" } : MethodName)) ∈ llTb := llTb_of (List.mem_append_right _ (List.mem_of_getElem? (i := 1083) (by decide +kernel))) (by decide)
set_option maxRecDepth 100000 in
theorem wd_1084 : (Cond.code ({ cls := "LeagueLevels$Season", name := "pointsFor", desc := "(II)I" } : MethodName) prog_9_method_12_code (2 : Nat) (Option.some ClassFile.FieldType.int)) ∈ llTb := llTb_of (List.mem_append_right _ (List.mem_of_getElem? (i := 1084) (by exact rfl))) (by decide)
set_option maxRecDepth 100000 in
theorem wd_1086 : (Cond.instanceMethod ({ cls := "LeagueLevels", name := "strangers", desc := "(I)I" } : MethodName)) ∈ llTb := llTb_of (List.mem_append_right _ (List.mem_of_getElem? (i := 1086) (by decide +kernel))) (by decide)
set_option maxRecDepth 100000 in
theorem wd_1087 : (Cond.selects "LeagueLevels" ({ cls := "LeagueLevels", name := "strangers", desc := "(I)I" } : MethodName) ({ cls := "LeagueLevels", name := "strangers", desc := "(I)I" } : MethodName)) ∈ llTb := llTb_of (List.mem_append_right _ (List.mem_of_getElem? (i := 1087) (by decide +kernel))) (by decide)
set_option maxRecDepth 100000 in
theorem wd_1088 : (Cond.code ({ cls := "LeagueLevels", name := "strangers", desc := "(I)I" } : MethodName) prog_1_method_33_code (2 : Nat) (Option.some ClassFile.FieldType.int)) ∈ llTb := llTb_of (List.mem_append_right _ (List.mem_of_getElem? (i := 1088) (by exact rfl))) (by decide)
set_option maxRecDepth 100000 in
theorem wd_1089 : (Cond.methodLink "LeagueLevels" (361 : Nat) ({ cls := "LeagueLevels$Travel", name := "strangersOf", desc := "(I)I" } : MethodName)) ∈ llTb := llTb_of (List.mem_append_right _ (List.mem_of_getElem? (i := 1089) (by decide +kernel))) (by decide)
set_option maxRecDepth 100000 in
theorem wd_1090 : (Cond.instanceMethod ({ cls := "LeagueLevels$Travel", name := "strangersOf", desc := "(I)I" } : MethodName)) ∈ llTb := llTb_of (List.mem_append_right _ (List.mem_of_getElem? (i := 1090) (by decide +kernel))) (by decide)
set_option maxRecDepth 100000 in
theorem wd_1091 : (Cond.selects "LeagueLevels$Travel" ({ cls := "LeagueLevels$Travel", name := "strangersOf", desc := "(I)I" } : MethodName) ({ cls := "LeagueLevels$Travel", name := "strangersOf", desc := "(I)I" } : MethodName)) ∈ llTb := llTb_of (List.mem_append_right _ (List.mem_of_getElem? (i := 1091) (by decide +kernel))) (by decide)
set_option maxRecDepth 100000 in
theorem wd_1092 : (Cond.code ({ cls := "LeagueLevels$Travel", name := "strangersOf", desc := "(I)I" } : MethodName) prog_12_method_15_code (5 : Nat) (Option.some ClassFile.FieldType.int)) ∈ llTb := llTb_of (List.mem_append_right _ (List.mem_of_getElem? (i := 1092) (by exact rfl))) (by decide)
set_option maxRecDepth 100000 in
theorem wd_1094 : (Cond.instanceMethod ({ cls := "LeagueLevels", name := "show", desc := "(II)I" } : MethodName)) ∈ llTb := llTb_of (List.mem_append_right _ (List.mem_of_getElem? (i := 1094) (by decide +kernel))) (by decide)
set_option maxRecDepth 100000 in
theorem wd_1095 : (Cond.selects "LeagueLevels" ({ cls := "LeagueLevels", name := "show", desc := "(II)I" } : MethodName) ({ cls := "LeagueLevels", name := "show", desc := "(II)I" } : MethodName)) ∈ llTb := llTb_of (List.mem_append_right _ (List.mem_of_getElem? (i := 1095) (by decide +kernel))) (by decide)
set_option maxRecDepth 100000 in
theorem wd_1096 : (Cond.code ({ cls := "LeagueLevels", name := "show", desc := "(II)I" } : MethodName) prog_1_method_34_code (3 : Nat) (Option.some ClassFile.FieldType.int)) ∈ llTb := llTb_of (List.mem_append_right _ (List.mem_of_getElem? (i := 1096) (by exact rfl))) (by decide)
set_option maxRecDepth 100000 in
theorem wd_1097 : (Cond.methodLink "LeagueLevels" (364 : Nat) ({ cls := "LeagueLevels$Table", name := "write", desc := "(I)V" } : MethodName)) ∈ llTb := llTb_of (List.mem_append_right _ (List.mem_of_getElem? (i := 1097) (by decide +kernel))) (by decide)
set_option maxRecDepth 100000 in
theorem wd_1098 : (Cond.instanceMethod ({ cls := "LeagueLevels$Table", name := "write", desc := "(I)V" } : MethodName)) ∈ llTb := llTb_of (List.mem_append_right _ (List.mem_of_getElem? (i := 1098) (by decide +kernel))) (by decide)
set_option maxRecDepth 100000 in
theorem wd_1099 : (Cond.selects "LeagueLevels$Table" ({ cls := "LeagueLevels$Table", name := "write", desc := "(I)V" } : MethodName) ({ cls := "LeagueLevels$Table", name := "write", desc := "(I)V" } : MethodName)) ∈ llTb := llTb_of (List.mem_append_right _ (List.mem_of_getElem? (i := 1099) (by decide +kernel))) (by decide)
set_option maxRecDepth 100000 in
theorem wd_1100 : (Cond.code ({ cls := "LeagueLevels$Table", name := "write", desc := "(I)V" } : MethodName) prog_10_method_11_code (3 : Nat) (Option.none : Option ClassFile.FieldType)) ∈ llTb := llTb_of (List.mem_append_right _ (List.mem_of_getElem? (i := 1100) (by exact rfl))) (by decide)
set_option maxRecDepth 100000 in
theorem wd_1101 : (Cond.methodLink "LeagueLevels$Table" (98 : Nat) ({ cls := "LeagueLevels$Table", name := "writeClub", desc := "(I)V" } : MethodName)) ∈ llTb := llTb_of (List.mem_append_right _ (List.mem_of_getElem? (i := 1101) (by decide +kernel))) (by decide)
set_option maxRecDepth 100000 in
theorem wd_1103 : (Cond.instanceMethod ({ cls := "LeagueLevels$Table", name := "writeClub", desc := "(I)V" } : MethodName)) ∈ llTb := llTb_of (List.mem_append_right _ (List.mem_of_getElem? (i := 1103) (by decide +kernel))) (by decide)
set_option maxRecDepth 100000 in
theorem wd_1104 : (Cond.code ({ cls := "LeagueLevels$Table", name := "writeClub", desc := "(I)V" } : MethodName) prog_10_method_12_code (4 : Nat) (Option.none : Option ClassFile.FieldType)) ∈ llTb := llTb_of (List.mem_append_right _ (List.mem_of_getElem? (i := 1104) (by exact rfl))) (by decide)
set_option maxRecDepth 100000 in
theorem wd_1105 : (Cond.constantLong "LeagueLevels$Table" (105 : Nat) (255 : Int64)) ∈ llTb := llTb_of (List.mem_append_right _ (List.mem_of_getElem? (i := 1105) (by decide +kernel))) (by decide)
set_option maxRecDepth 100000 in
theorem wd_1106 : (Cond.methodLink "LeagueLevels$Table" (107 : Nat) ({ cls := "LeagueLevels$Table", name := "writeSign", desc := "(I)V" } : MethodName)) ∈ llTb := llTb_of (List.mem_append_right _ (List.mem_of_getElem? (i := 1106) (by decide +kernel))) (by decide)
set_option maxRecDepth 100000 in
theorem wd_1108 : (Cond.instanceMethod ({ cls := "LeagueLevels$Table", name := "writeSign", desc := "(I)V" } : MethodName)) ∈ llTb := llTb_of (List.mem_append_right _ (List.mem_of_getElem? (i := 1108) (by decide +kernel))) (by decide)
set_option maxRecDepth 100000 in
theorem wd_1109 : (Cond.code ({ cls := "LeagueLevels$Table", name := "writeSign", desc := "(I)V" } : MethodName) prog_10_method_14_code (2 : Nat) (Option.none : Option ClassFile.FieldType)) ∈ llTb := llTb_of (List.mem_append_right _ (List.mem_of_getElem? (i := 1109) (by exact rfl))) (by decide)
set_option maxRecDepth 100000 in
theorem wd_1110 : (Cond.methodLink "LeagueLevels$Table" (110 : Nat) ({ cls := "LeagueLevels$Table", name := "writeNumber", desc := "(I)V" } : MethodName)) ∈ llTb := llTb_of (List.mem_append_right _ (List.mem_of_getElem? (i := 1110) (by decide +kernel))) (by decide)
set_option maxRecDepth 100000 in
theorem wd_1112 : (Cond.instanceMethod ({ cls := "LeagueLevels$Table", name := "writeNumber", desc := "(I)V" } : MethodName)) ∈ llTb := llTb_of (List.mem_append_right _ (List.mem_of_getElem? (i := 1112) (by decide +kernel))) (by decide)
set_option maxRecDepth 100000 in
theorem wd_1113 : (Cond.code ({ cls := "LeagueLevels$Table", name := "writeNumber", desc := "(I)V" } : MethodName) prog_10_method_13_code (3 : Nat) (Option.none : Option ClassFile.FieldType)) ∈ llTb := llTb_of (List.mem_append_right _ (List.mem_of_getElem? (i := 1113) (by exact rfl))) (by decide)
set_option maxRecDepth 100000 in
theorem wd_1114 : (Cond.methodLink "LeagueLevels$Table" (113 : Nat) ({ cls := "java/lang/Math", name := "abs", desc := "(I)I" } : MethodName)) ∈ llTb := llTb_of (List.mem_append_right _ (List.mem_of_getElem? (i := 1114) (by decide +kernel))) (by decide)
set_option maxRecDepth 100000 in
theorem wd_1115 : (Cond.static ({ cls := "java/lang/Math", name := "abs", desc := "(I)I" } : MethodName)) ∈ llTb := llTb_of (List.mem_append_right _ (List.mem_of_getElem? (i := 1115) (by decide +kernel))) (by decide)
set_option maxRecDepth 100000 in
theorem wd_1116 : (Cond.code ({ cls := "java/lang/Math", name := "abs", desc := "(I)I" } : MethodName) prog_18_method_59_code (1 : Nat) (Option.some ClassFile.FieldType.int)) ∈ llTb := llTb_of (List.mem_append_right _ (List.mem_of_getElem? (i := 1116) (by exact rfl))) (by decide)
set_option maxRecDepth 100000 in
theorem wd_1118 : (Cond.instanceMethod ({ cls := "LeagueLevels", name := "out", desc := "(I)I" } : MethodName)) ∈ llTb := llTb_of (List.mem_append_right _ (List.mem_of_getElem? (i := 1118) (by decide +kernel))) (by decide)
set_option maxRecDepth 100000 in
theorem wd_1119 : (Cond.selects "LeagueLevels" ({ cls := "LeagueLevels", name := "out", desc := "(I)I" } : MethodName) ({ cls := "LeagueLevels", name := "out", desc := "(I)I" } : MethodName)) ∈ llTb := llTb_of (List.mem_append_right _ (List.mem_of_getElem? (i := 1119) (by decide +kernel))) (by decide)
set_option maxRecDepth 100000 in
theorem wd_1120 : (Cond.code ({ cls := "LeagueLevels", name := "out", desc := "(I)I" } : MethodName) prog_1_method_35_code (2 : Nat) (Option.some ClassFile.FieldType.int)) ∈ llTb := llTb_of (List.mem_append_right _ (List.mem_of_getElem? (i := 1120) (by exact rfl))) (by decide)
set_option maxRecDepth 100000 in
theorem wd_1122 : (Cond.instanceMethod ({ cls := "LeagueLevels", name := "look", desc := "(I)I" } : MethodName)) ∈ llTb := llTb_of (List.mem_append_right _ (List.mem_of_getElem? (i := 1122) (by decide +kernel))) (by decide)
set_option maxRecDepth 100000 in
theorem wd_1123 : (Cond.selects "LeagueLevels" ({ cls := "LeagueLevels", name := "look", desc := "(I)I" } : MethodName) ({ cls := "LeagueLevels", name := "look", desc := "(I)I" } : MethodName)) ∈ llTb := llTb_of (List.mem_append_right _ (List.mem_of_getElem? (i := 1123) (by decide +kernel))) (by decide)
set_option maxRecDepth 100000 in
theorem wd_1124 : (Cond.code ({ cls := "LeagueLevels", name := "look", desc := "(I)I" } : MethodName) prog_1_method_36_code (2 : Nat) (Option.some ClassFile.FieldType.int)) ∈ llTb := llTb_of (List.mem_append_right _ (List.mem_of_getElem? (i := 1124) (by exact rfl))) (by decide)
set_option maxRecDepth 100000 in
theorem wd_1125 : (Cond.methodLink "LeagueLevels" (376 : Nat) ({ cls := "LeagueLevels$Pyramid", name := "howMany", desc := "(I)I" } : MethodName)) ∈ llTb := llTb_of (List.mem_append_right _ (List.mem_of_getElem? (i := 1125) (by decide +kernel))) (by decide)
set_option maxRecDepth 100000 in
theorem wd_1132 : (Cond.fieldLink "LeagueLevelsModel" (7 : Nat) "LeagueLevelsModel" "ofLevel" "[I") ∈ llTb := llTb_of (List.mem_append_right _ (List.mem_of_getElem? (i := 1132) (by decide +kernel))) (by decide)
set_option maxRecDepth 100000 in
theorem wd_1133 : (Cond.fieldLink "LeagueLevelsModel" (260 : Nat) "LeagueLevelsModel" "levels" "I") ∈ llTb := llTb_of (List.mem_append_right _ (List.mem_of_getElem? (i := 1133) (by decide +kernel))) (by decide)
set_option maxRecDepth 100000 in
theorem wd_1134 : (Cond.fieldLink "LeagueLevelsModel" (205 : Nat) "LeagueLevelsModel" "levelsRead" "I") ∈ llTb := llTb_of (List.mem_append_right _ (List.mem_of_getElem? (i := 1134) (by decide +kernel))) (by decide)
set_option maxRecDepth 100000 in
theorem wd_1135 : (Cond.fieldLink "LeagueLevelsModel" (13 : Nat) "LeagueLevelsModel" "name" "[J") ∈ llTb := llTb_of (List.mem_append_right _ (List.mem_of_getElem? (i := 1135) (by decide +kernel))) (by decide)
set_option maxRecDepth 100000 in
theorem wd_1136 : (Cond.fieldLink "LeagueLevelsModel" (17 : Nat) "LeagueLevelsModel" "x" "[I") ∈ llTb := llTb_of (List.mem_append_right _ (List.mem_of_getElem? (i := 1136) (by decide +kernel))) (by decide)
set_option maxRecDepth 100000 in
theorem wd_1137 : (Cond.fieldLink "LeagueLevelsModel" (20 : Nat) "LeagueLevelsModel" "y" "[I") ∈ llTb := llTb_of (List.mem_append_right _ (List.mem_of_getElem? (i := 1137) (by decide +kernel))) (by decide)
set_option maxRecDepth 100000 in
theorem wd_1138 : (Cond.fieldLink "LeagueLevelsModel" (23 : Nat) "LeagueLevelsModel" "level" "[I") ∈ llTb := llTb_of (List.mem_append_right _ (List.mem_of_getElem? (i := 1138) (by decide +kernel))) (by decide)
set_option maxRecDepth 100000 in
theorem wd_1139 : (Cond.fieldLink "LeagueLevelsModel" (26 : Nat) "LeagueLevelsModel" "division" "[I") ∈ llTb := llTb_of (List.mem_append_right _ (List.mem_of_getElem? (i := 1139) (by decide +kernel))) (by decide)
set_option maxRecDepth 100000 in
theorem wd_1140 : (Cond.fieldLink "LeagueLevelsModel" (29 : Nat) "LeagueLevelsModel" "gradeRead" "[I") ∈ llTb := llTb_of (List.mem_append_right _ (List.mem_of_getElem? (i := 1140) (by decide +kernel))) (by decide)
set_option maxRecDepth 100000 in
theorem wd_1141 : (Cond.fieldLink "LeagueLevelsModel" (263 : Nat) "LeagueLevelsModel" "clubs" "I") ∈ llTb := llTb_of (List.mem_append_right _ (List.mem_of_getElem? (i := 1141) (by decide +kernel))) (by decide)
set_option maxRecDepth 100000 in
theorem wd_1142 : (Cond.fieldLink "LeagueLevelsModel" (221 : Nat) "LeagueLevelsModel" "clubsRead" "I") ∈ llTb := llTb_of (List.mem_append_right _ (List.mem_of_getElem? (i := 1142) (by decide +kernel))) (by decide)
set_option maxRecDepth 100000 in
theorem wd_1143 : (Cond.fieldLink "LeagueLevelsModel" (266 : Nat) "LeagueLevelsModel" "season" "I") ∈ llTb := llTb_of (List.mem_append_right _ (List.mem_of_getElem? (i := 1143) (by decide +kernel))) (by decide)
set_option maxRecDepth 100000 in
theorem wd_1144 : (Cond.fieldLink "LeagueLevelsModel" (32 : Nat) "LeagueLevelsModel" "now" "[I") ∈ llTb := llTb_of (List.mem_append_right _ (List.mem_of_getElem? (i := 1144) (by decide +kernel))) (by decide)
set_option maxRecDepth 100000 in
theorem wd_1145 : (Cond.fieldLink "LeagueLevelsModel" (35 : Nat) "LeagueLevelsModel" "past" "[I") ∈ llTb := llTb_of (List.mem_append_right _ (List.mem_of_getElem? (i := 1145) (by decide +kernel))) (by decide)
set_option maxRecDepth 100000 in
theorem wd_1146 : (Cond.fieldLink "LeagueLevelsModel" (110 : Nat) "LeagueLevelsModel" "pasts" "I") ∈ llTb := llTb_of (List.mem_append_right _ (List.mem_of_getElem? (i := 1146) (by decide +kernel))) (by decide)
set_option maxRecDepth 100000 in
theorem wd_1147 : (Cond.fieldLink "LeagueLevelsModel" (38 : Nat) "LeagueLevelsModel" "tape" "[I") ∈ llTb := llTb_of (List.mem_append_right _ (List.mem_of_getElem? (i := 1147) (by decide +kernel))) (by decide)
set_option maxRecDepth 100000 in
theorem wd_1148 : (Cond.fieldLink "LeagueLevelsModel" (113 : Nat) "LeagueLevelsModel" "taped" "I") ∈ llTb := llTb_of (List.mem_append_right _ (List.mem_of_getElem? (i := 1148) (by decide +kernel))) (by decide)
set_option maxRecDepth 100000 in
theorem wd_1149 : (Cond.fieldLink "LeagueLevelsModel" (248 : Nat) "LeagueLevelsModel" "fault" "I") ∈ llTb := llTb_of (List.mem_append_right _ (List.mem_of_getElem? (i := 1149) (by decide +kernel))) (by decide)
set_option maxRecDepth 100000 in
theorem wd_1150 : (Cond.fieldLink "LeagueLevelsModel" (41 : Nat) "LeagueLevelsModel" "faultPlace" "I") ∈ llTb := llTb_of (List.mem_append_right _ (List.mem_of_getElem? (i := 1150) (by decide +kernel))) (by decide)
set_option maxRecDepth 100000 in
theorem wd_1151 : (Cond.fieldLink "LeagueLevelsModel" (155 : Nat) "LeagueLevelsModel" "bad" "I") ∈ llTb := llTb_of (List.mem_append_right _ (List.mem_of_getElem? (i := 1151) (by decide +kernel))) (by decide)
set_option maxRecDepth 100000 in
theorem wd_1152 : (Cond.fieldLink "LeagueLevelsModel" (158 : Nat) "LeagueLevelsModel" "badPlace" "I") ∈ llTb := llTb_of (List.mem_append_right _ (List.mem_of_getElem? (i := 1152) (by decide +kernel))) (by decide)
set_option maxRecDepth 100000 in
theorem wd_1153 : (Cond.fieldLink "LeagueLevelsModel" (144 : Nat) "LeagueLevelsModel" "sort" "I") ∈ llTb := llTb_of (List.mem_append_right _ (List.mem_of_getElem? (i := 1153) (by decide +kernel))) (by decide)
set_option maxRecDepth 100000 in
theorem wd_1154 : (Cond.fieldLink "LeagueLevelsModel" (131 : Nat) "LeagueLevelsModel" "from" "I") ∈ llTb := llTb_of (List.mem_append_right _ (List.mem_of_getElem? (i := 1154) (by decide +kernel))) (by decide)
set_option maxRecDepth 100000 in
theorem wd_1155 : (Cond.fieldLink "LeagueLevelsModel" (124 : Nat) "LeagueLevelsModel" "to" "I") ∈ llTb := llTb_of (List.mem_append_right _ (List.mem_of_getElem? (i := 1155) (by decide +kernel))) (by decide)
set_option maxRecDepth 100000 in
theorem wd_1156 : (Cond.fieldLink "LeagueLevelsModel" (134 : Nat) "LeagueLevelsModel" "word" "J") ∈ llTb := llTb_of (List.mem_append_right _ (List.mem_of_getElem? (i := 1156) (by decide +kernel))) (by decide)
set_option maxRecDepth 100000 in
theorem wd_1157 : (Cond.fieldLink "LeagueLevelsModel" (138 : Nat) "LeagueLevelsModel" "number" "I") ∈ llTb := llTb_of (List.mem_append_right _ (List.mem_of_getElem? (i := 1157) (by decide +kernel))) (by decide)
set_option maxRecDepth 100000 in
theorem wd_1158 : (Cond.fieldLink "LeagueLevelsModel" (141 : Nat) "LeagueLevelsModel" "sign" "I") ∈ llTb := llTb_of (List.mem_append_right _ (List.mem_of_getElem? (i := 1158) (by decide +kernel))) (by decide)
set_option maxRecDepth 100000 in
theorem wd_1159 : (Cond.fieldLink "LeagueLevelsModel" (198 : Nat) "LeagueLevelsModel" "read" "I") ∈ llTb := llTb_of (List.mem_append_right _ (List.mem_of_getElem? (i := 1159) (by decide +kernel))) (by decide)
set_option maxRecDepth 100000 in
theorem wd_1160 : (Cond.fieldLink "LeagueLevelsModel" (45 : Nat) "LeagueLevelsModel" "told" "[I") ∈ llTb := llTb_of (List.mem_append_right _ (List.mem_of_getElem? (i := 1160) (by decide +kernel))) (by decide)
set_option maxRecDepth 100000 in
theorem wd_1161 : (Cond.fieldLink "LeagueLevelsModel" (275 : Nat) "LeagueLevelsModel" "matches" "I") ∈ llTb := llTb_of (List.mem_append_right _ (List.mem_of_getElem? (i := 1161) (by decide +kernel))) (by decide)
set_option maxRecDepth 100000 in
theorem wd_1162 : (Cond.fieldLink "LeagueLevelsModel" (48 : Nat) "LeagueLevelsModel" "pts" "[I") ∈ llTb := llTb_of (List.mem_append_right _ (List.mem_of_getElem? (i := 1162) (by decide +kernel))) (by decide)
set_option maxRecDepth 100000 in
theorem wd_1163 : (Cond.fieldLink "LeagueLevelsModel" (51 : Nat) "LeagueLevelsModel" "diff" "[I") ∈ llTb := llTb_of (List.mem_append_right _ (List.mem_of_getElem? (i := 1163) (by decide +kernel))) (by decide)
set_option maxRecDepth 100000 in
theorem wd_1164 : (Cond.fieldLink "LeagueLevelsModel" (54 : Nat) "LeagueLevelsModel" "goals" "[I") ∈ llTb := llTb_of (List.mem_append_right _ (List.mem_of_getElem? (i := 1164) (by decide +kernel))) (by decide)
set_option maxRecDepth 100000 in
theorem wd_1165 : (Cond.fieldLink "LeagueLevelsModel" (57 : Nat) "LeagueLevelsModel" "rank" "[I") ∈ llTb := llTb_of (List.mem_append_right _ (List.mem_of_getElem? (i := 1165) (by decide +kernel))) (by decide)
set_option maxRecDepth 100000 in
theorem wd_1166 : (Cond.fieldLink "LeagueLevelsModel" (60 : Nat) "LeagueLevelsModel" "mean" "[F") ∈ llTb := llTb_of (List.mem_append_right _ (List.mem_of_getElem? (i := 1166) (by decide +kernel))) (by decide)
set_option maxRecDepth 100000 in
theorem wd_1167 : (Cond.fieldLink "LeagueLevelsModel" (64 : Nat) "LeagueLevelsModel" "inOrder" "[I") ∈ llTb := llTb_of (List.mem_append_right _ (List.mem_of_getElem? (i := 1167) (by decide +kernel))) (by decide)
set_option maxRecDepth 100000 in
theorem wd_1168 : (Cond.fieldLink "LeagueLevelsModel" (67 : Nat) "LeagueLevelsModel" "inLevel" "[I") ∈ llTb := llTb_of (List.mem_append_right _ (List.mem_of_getElem? (i := 1168) (by decide +kernel))) (by decide)
set_option maxRecDepth 100000 in
theorem wd_1169 : (Cond.fieldLink "LeagueLevelsModel" (70 : Nat) "LeagueLevelsModel" "parts" "[I") ∈ llTb := llTb_of (List.mem_append_right _ (List.mem_of_getElem? (i := 1169) (by decide +kernel))) (by decide)
set_option maxRecDepth 100000 in
theorem wd_1170 : (Cond.fieldLink "LeagueLevelsModel" (73 : Nat) "LeagueLevelsModel" "between" "[I") ∈ llTb := llTb_of (List.mem_append_right _ (List.mem_of_getElem? (i := 1170) (by decide +kernel))) (by decide)
set_option maxRecDepth 100000 in
theorem wd_1171 : (Cond.fieldLink "LeagueLevelsModel" (76 : Nat) "LeagueLevelsModel" "tried" "[I") ∈ llTb := llTb_of (List.mem_append_right _ (List.mem_of_getElem? (i := 1171) (by decide +kernel))) (by decide)
set_option maxRecDepth 100000 in
theorem wd_1172 : (Cond.fieldLink "LeagueLevelsModel" (79 : Nat) "LeagueLevelsModel" "best" "[I") ∈ llTb := llTb_of (List.mem_append_right _ (List.mem_of_getElem? (i := 1172) (by decide +kernel))) (by decide)
set_option maxRecDepth 100000 in
theorem wd_1173 : (Cond.fieldLink "LeagueLevelsModel" (326 : Nat) "LeagueLevelsModel" "partMany" "I") ∈ llTb := llTb_of (List.mem_append_right _ (List.mem_of_getElem? (i := 1173) (by decide +kernel))) (by decide)
set_option maxRecDepth 100000 in
theorem wd_1174 : (Cond.fieldLink "LeagueLevelsModel" (329 : Nat) "LeagueLevelsModel" "partSize" "I") ∈ llTb := llTb_of (List.mem_append_right _ (List.mem_of_getElem? (i := 1174) (by decide +kernel))) (by decide)
set_option maxRecDepth 100000 in
theorem wd_1175 : (Cond.fieldLink "LeagueLevelsModel" (332 : Nat) "LeagueLevelsModel" "fewest" "I") ∈ llTb := llTb_of (List.mem_append_right _ (List.mem_of_getElem? (i := 1175) (by decide +kernel))) (by decide)
set_option maxRecDepth 100000 in
theorem wd_1176 : (Cond.fieldLink "LeagueLevelsModel" (82 : Nat) "LeagueLevelsModel" "up" "[Z") ∈ llTb := llTb_of (List.mem_append_right _ (List.mem_of_getElem? (i := 1176) (by decide +kernel))) (by decide)
set_option maxRecDepth 100000 in
theorem wd_1177 : (Cond.fieldLink "LeagueLevelsModel" (86 : Nat) "LeagueLevelsModel" "down" "[Z") ∈ llTb := llTb_of (List.mem_append_right _ (List.mem_of_getElem? (i := 1177) (by decide +kernel))) (by decide)
set_option maxRecDepth 100000 in
theorem wd_1178 : (Cond.fieldLink "LeagueLevelsModel" (89 : Nat) "LeagueLevelsModel" "comes" "[Z") ∈ llTb := llTb_of (List.mem_append_right _ (List.mem_of_getElem? (i := 1178) (by decide +kernel))) (by decide)
set_option maxRecDepth 100000 in
theorem wd_1179 : (Cond.fieldLink "LeagueLevelsModel" (92 : Nat) "LeagueLevelsModel" "spared" "[Z") ∈ llTb := llTb_of (List.mem_append_right _ (List.mem_of_getElem? (i := 1179) (by decide +kernel))) (by decide)
set_option maxRecDepth 100000 in
theorem wd_1180 : (Cond.fieldLink "LeagueLevelsModel" (95 : Nat) "LeagueLevelsModel" "going" "[I") ∈ llTb := llTb_of (List.mem_append_right _ (List.mem_of_getElem? (i := 1180) (by decide +kernel))) (by decide)
set_option maxRecDepth 100000 in
theorem wd_1181 : (Cond.fieldLink "LeagueLevelsModel" (98 : Nat) "LeagueLevelsModel" "goingMany" "[I") ∈ llTb := llTb_of (List.mem_append_right _ (List.mem_of_getElem? (i := 1181) (by decide +kernel))) (by decide)
set_option maxRecDepth 100000 in
theorem wd_1182 : (Cond.fieldLink "LeagueLevelsModel" (101 : Nat) "LeagueLevelsModel" "wanting" "[I") ∈ llTb := llTb_of (List.mem_append_right _ (List.mem_of_getElem? (i := 1182) (by decide +kernel))) (by decide)
set_option maxRecDepth 100000 in
theorem wd_1183 : (Cond.fieldLink "LeagueLevelsModel" (104 : Nat) "LeagueLevelsModel" "upTo" "[I") ∈ llTb := llTb_of (List.mem_append_right _ (List.mem_of_getElem? (i := 1183) (by decide +kernel))) (by decide)
set_option maxRecDepth 100000 in
theorem wd_1184 : (Cond.fieldLink "LeagueLevelsModel" (107 : Nat) "LeagueLevelsModel" "shown" "[I") ∈ llTb := llTb_of (List.mem_append_right _ (List.mem_of_getElem? (i := 1184) (by decide +kernel))) (by decide)
set_option maxRecDepth 100000 in
theorem wd_1185 : (Cond.fieldLink "LeagueLevelsModel" (408 : Nat) "LeagueLevelsModel" "showns" "I") ∈ llTb := llTb_of (List.mem_append_right _ (List.mem_of_getElem? (i := 1185) (by decide +kernel))) (by decide)
set_option maxRecDepth 100000 in
theorem wd_1298 : (Cond.instanceMethod ({ cls := "LeagueLevelsModel", name := "undo", desc := "()Z" } : MethodName)) ∈ llTb := llTb_of (List.mem_append_right _ (List.mem_of_getElem? (i := 1298) (by decide +kernel))) (by decide)
set_option maxRecDepth 100000 in
theorem wd_1299 : (Cond.selects "LeagueLevelsModel" ({ cls := "LeagueLevelsModel", name := "undo", desc := "()Z" } : MethodName) ({ cls := "LeagueLevelsModel", name := "undo", desc := "()Z" } : MethodName)) ∈ llTb := llTb_of (List.mem_append_right _ (List.mem_of_getElem? (i := 1299) (by decide +kernel))) (by decide)
set_option maxRecDepth 100000 in
theorem wd_1300 : (Cond.code ({ cls := "LeagueLevelsModel", name := "undo", desc := "()Z" } : MethodName) prog_14_method_5_code (2 : Nat) (Option.some ClassFile.FieldType.boolean)) ∈ llTb := llTb_of (List.mem_append_right _ (List.mem_of_getElem? (i := 1300) (by exact rfl))) (by decide)
set_option maxRecDepth 100000 in
theorem wd_1302 : (Cond.instanceMethod ({ cls := "LeagueLevelsModel", name := "feed", desc := "(IIIII)I" } : MethodName)) ∈ llTb := llTb_of (List.mem_append_right _ (List.mem_of_getElem? (i := 1302) (by decide +kernel))) (by decide)
set_option maxRecDepth 100000 in
theorem wd_1303 : (Cond.selects "LeagueLevelsModel" ({ cls := "LeagueLevelsModel", name := "feed", desc := "(IIIII)I" } : MethodName) ({ cls := "LeagueLevelsModel", name := "feed", desc := "(IIIII)I" } : MethodName)) ∈ llTb := llTb_of (List.mem_append_right _ (List.mem_of_getElem? (i := 1303) (by decide +kernel))) (by decide)
set_option maxRecDepth 100000 in
theorem wd_1304 : (Cond.code ({ cls := "LeagueLevelsModel", name := "feed", desc := "(IIIII)I" } : MethodName) prog_14_method_7_code (6 : Nat) (Option.some ClassFile.FieldType.int)) ∈ llTb := llTb_of (List.mem_append_right _ (List.mem_of_getElem? (i := 1304) (by exact rfl))) (by decide)
set_option maxRecDepth 100000 in
theorem wd_1305 : (Cond.methodLink "LeagueLevelsModel" (116 : Nat) ({ cls := "LeagueLevelsModel", name := "four", desc := "(I)V" } : MethodName)) ∈ llTb := llTb_of (List.mem_append_right _ (List.mem_of_getElem? (i := 1305) (by decide +kernel))) (by decide)
set_option maxRecDepth 100000 in
theorem wd_1307 : (Cond.instanceMethod ({ cls := "LeagueLevelsModel", name := "four", desc := "(I)V" } : MethodName)) ∈ llTb := llTb_of (List.mem_append_right _ (List.mem_of_getElem? (i := 1307) (by decide +kernel))) (by decide)
set_option maxRecDepth 100000 in
theorem wd_1308 : (Cond.code ({ cls := "LeagueLevelsModel", name := "four", desc := "(I)V" } : MethodName) prog_14_method_6_code (3 : Nat) (Option.none : Option ClassFile.FieldType)) ∈ llTb := llTb_of (List.mem_append_right _ (List.mem_of_getElem? (i := 1308) (by exact rfl))) (by decide)
set_option maxRecDepth 100000 in
theorem wd_1310 : (Cond.instanceMethod ({ cls := "LeagueLevelsModel", name := "end", desc := "(I)Z" } : MethodName)) ∈ llTb := llTb_of (List.mem_append_right _ (List.mem_of_getElem? (i := 1310) (by decide +kernel))) (by decide)
set_option maxRecDepth 100000 in
theorem wd_1311 : (Cond.selects "LeagueLevelsModel" ({ cls := "LeagueLevelsModel", name := "end", desc := "(I)Z" } : MethodName) ({ cls := "LeagueLevelsModel", name := "end", desc := "(I)Z" } : MethodName)) ∈ llTb := llTb_of (List.mem_append_right _ (List.mem_of_getElem? (i := 1311) (by decide +kernel))) (by decide)
set_option maxRecDepth 100000 in
theorem wd_1312 : (Cond.code ({ cls := "LeagueLevelsModel", name := "end", desc := "(I)Z" } : MethodName) prog_14_method_8_code (2 : Nat) (Option.some ClassFile.FieldType.boolean)) ∈ llTb := llTb_of (List.mem_append_right _ (List.mem_of_getElem? (i := 1312) (by exact rfl))) (by decide)
set_option maxRecDepth 100000 in
theorem wd_1313 : (Cond.methodLink "LeagueLevelsModel" (120 : Nat) ({ cls := "LeagueLevelsModel", name := "isIn", desc := "(JJJ)Z" } : MethodName)) ∈ llTb := llTb_of (List.mem_append_right _ (List.mem_of_getElem? (i := 1313) (by decide +kernel))) (by decide)
set_option maxRecDepth 100000 in
theorem wd_1314 : (Cond.static ({ cls := "LeagueLevelsModel", name := "isIn", desc := "(JJJ)Z" } : MethodName)) ∈ llTb := llTb_of (List.mem_append_right _ (List.mem_of_getElem? (i := 1314) (by decide +kernel))) (by decide)
set_option maxRecDepth 100000 in
theorem wd_1315 : (Cond.code ({ cls := "LeagueLevelsModel", name := "isIn", desc := "(JJJ)Z" } : MethodName) prog_14_method_1_code (6 : Nat) (Option.some ClassFile.FieldType.boolean)) ∈ llTb := llTb_of (List.mem_append_right _ (List.mem_of_getElem? (i := 1315) (by exact rfl))) (by decide)
set_option maxRecDepth 100000 in
theorem wd_1317 : (Cond.instanceMethod ({ cls := "LeagueLevelsModel", name := "pyramid", desc := "()I" } : MethodName)) ∈ llTb := llTb_of (List.mem_append_right _ (List.mem_of_getElem? (i := 1317) (by decide +kernel))) (by decide)
set_option maxRecDepth 100000 in
theorem wd_1318 : (Cond.selects "LeagueLevelsModel" ({ cls := "LeagueLevelsModel", name := "pyramid", desc := "()I" } : MethodName) ({ cls := "LeagueLevelsModel", name := "pyramid", desc := "()I" } : MethodName)) ∈ llTb := llTb_of (List.mem_append_right _ (List.mem_of_getElem? (i := 1318) (by decide +kernel))) (by decide)
set_option maxRecDepth 100000 in
theorem wd_1319 : (Cond.code ({ cls := "LeagueLevelsModel", name := "pyramid", desc := "()I" } : MethodName) prog_14_method_26_code (4 : Nat) (Option.some ClassFile.FieldType.int)) ∈ llTb := llTb_of (List.mem_append_right _ (List.mem_of_getElem? (i := 1319) (by exact rfl))) (by decide)
set_option maxRecDepth 100000 in
theorem wd_1320 : (Cond.methodLink "LeagueLevelsModel" (251 : Nat) ({ cls := "LeagueLevelsModel", name := "begins", desc := "()V" } : MethodName)) ∈ llTb := llTb_of (List.mem_append_right _ (List.mem_of_getElem? (i := 1320) (by decide +kernel))) (by decide)
set_option maxRecDepth 100000 in
theorem wd_1322 : (Cond.instanceMethod ({ cls := "LeagueLevelsModel", name := "begins", desc := "()V" } : MethodName)) ∈ llTb := llTb_of (List.mem_append_right _ (List.mem_of_getElem? (i := 1322) (by decide +kernel))) (by decide)
set_option maxRecDepth 100000 in
theorem wd_1323 : (Cond.code ({ cls := "LeagueLevelsModel", name := "begins", desc := "()V" } : MethodName) prog_14_method_24_code (1 : Nat) (Option.none : Option ClassFile.FieldType)) ∈ llTb := llTb_of (List.mem_append_right _ (List.mem_of_getElem? (i := 1323) (by exact rfl))) (by decide)
set_option maxRecDepth 100000 in
theorem wd_1324 : (Cond.methodLink "LeagueLevelsModel" (195 : Nat) ({ cls := "LeagueLevelsModel", name := "next", desc := "()V" } : MethodName)) ∈ llTb := llTb_of (List.mem_append_right _ (List.mem_of_getElem? (i := 1324) (by decide +kernel))) (by decide)
set_option maxRecDepth 100000 in
theorem wd_1326 : (Cond.instanceMethod ({ cls := "LeagueLevelsModel", name := "next", desc := "()V" } : MethodName)) ∈ llTb := llTb_of (List.mem_append_right _ (List.mem_of_getElem? (i := 1326) (by decide +kernel))) (by decide)
set_option maxRecDepth 100000 in
theorem wd_1327 : (Cond.code ({ cls := "LeagueLevelsModel", name := "next", desc := "()V" } : MethodName) prog_14_method_10_code (2 : Nat) (Option.none : Option ClassFile.FieldType)) ∈ llTb := llTb_of (List.mem_append_right _ (List.mem_of_getElem? (i := 1327) (by exact rfl))) (by decide)
set_option maxRecDepth 100000 in
theorem wd_1328 : (Cond.methodLink "LeagueLevelsModel" (127 : Nat) ({ cls := "LeagueLevelsModel", name := "see", desc := "(I)I" } : MethodName)) ∈ llTb := llTb_of (List.mem_append_right _ (List.mem_of_getElem? (i := 1328) (by decide +kernel))) (by decide)
set_option maxRecDepth 100000 in
theorem wd_1330 : (Cond.instanceMethod ({ cls := "LeagueLevelsModel", name := "see", desc := "(I)I" } : MethodName)) ∈ llTb := llTb_of (List.mem_append_right _ (List.mem_of_getElem? (i := 1330) (by decide +kernel))) (by decide)
set_option maxRecDepth 100000 in
theorem wd_1331 : (Cond.code ({ cls := "LeagueLevelsModel", name := "see", desc := "(I)I" } : MethodName) prog_14_method_9_code (2 : Nat) (Option.some ClassFile.FieldType.int)) ∈ llTb := llTb_of (List.mem_append_right _ (List.mem_of_getElem? (i := 1331) (by exact rfl))) (by decide)
set_option maxRecDepth 100000 in
theorem wd_1332 : (Cond.constantLong "LeagueLevelsModel" (147 : Nat) (97 : Int64)) ∈ llTb := llTb_of (List.mem_append_right _ (List.mem_of_getElem? (i := 1332) (by decide +kernel))) (by decide)
set_option maxRecDepth 100000 in
theorem wd_1333 : (Cond.constantLong "LeagueLevelsModel" (149 : Nat) (122 : Int64)) ∈ llTb := llTb_of (List.mem_append_right _ (List.mem_of_getElem? (i := 1333) (by decide +kernel))) (by decide)
set_option maxRecDepth 100000 in
theorem wd_1334 : (Cond.constantLong "LeagueLevelsModel" (151 : Nat) (48 : Int64)) ∈ llTb := llTb_of (List.mem_append_right _ (List.mem_of_getElem? (i := 1334) (by decide +kernel))) (by decide)
set_option maxRecDepth 100000 in
theorem wd_1335 : (Cond.constantLong "LeagueLevelsModel" (153 : Nat) (57 : Int64)) ∈ llTb := llTb_of (List.mem_append_right _ (List.mem_of_getElem? (i := 1335) (by decide +kernel))) (by decide)
set_option maxRecDepth 100000 in
theorem wd_1336 : (Cond.methodLink "LeagueLevelsModel" (254 : Nat) ({ cls := "LeagueLevelsModel", name := "readLine", desc := "()Z" } : MethodName)) ∈ llTb := llTb_of (List.mem_append_right _ (List.mem_of_getElem? (i := 1336) (by decide +kernel))) (by decide)
set_option maxRecDepth 100000 in
theorem wd_1338 : (Cond.instanceMethod ({ cls := "LeagueLevelsModel", name := "readLine", desc := "()Z" } : MethodName)) ∈ llTb := llTb_of (List.mem_append_right _ (List.mem_of_getElem? (i := 1338) (by decide +kernel))) (by decide)
set_option maxRecDepth 100000 in
theorem wd_1339 : (Cond.code ({ cls := "LeagueLevelsModel", name := "readLine", desc := "()Z" } : MethodName) prog_14_method_23_code (2 : Nat) (Option.some ClassFile.FieldType.boolean)) ∈ llTb := llTb_of (List.mem_append_right _ (List.mem_of_getElem? (i := 1339) (by exact rfl))) (by decide)
set_option maxRecDepth 100000 in
theorem wd_1341 : (Cond.methodLink "LeagueLevelsModel" (176 : Nat) ({ cls := "LeagueLevelsModel", name := "isWord", desc := "(Ljava/lang/String;)Z" } : MethodName)) ∈ llTb := llTb_of (List.mem_append_right _ (List.mem_of_getElem? (i := 1341) (by decide +kernel))) (by decide)
set_option maxRecDepth 100000 in
theorem wd_1343 : (Cond.instanceMethod ({ cls := "LeagueLevelsModel", name := "isWord", desc := "(Ljava/lang/String;)Z" } : MethodName)) ∈ llTb := llTb_of (List.mem_append_right _ (List.mem_of_getElem? (i := 1343) (by decide +kernel))) (by decide)
set_option maxRecDepth 100000 in
theorem wd_1344 : (Cond.code ({ cls := "LeagueLevelsModel", name := "isWord", desc := "(Ljava/lang/String;)Z" } : MethodName) prog_14_method_13_code (2 : Nat) (Option.some ClassFile.FieldType.boolean)) ∈ llTb := llTb_of (List.mem_append_right _ (List.mem_of_getElem? (i := 1344) (by exact rfl))) (by decide)
set_option maxRecDepth 100000 in
theorem wd_1345 : (Cond.methodLink "LeagueLevelsModel" (161 : Nat) ({ cls := "java/lang/String", name := "length", desc := "()I" } : MethodName)) ∈ llTb := llTb_of (List.mem_append_right _ (List.mem_of_getElem? (i := 1345) (by decide +kernel))) (by decide)
set_option maxRecDepth 100000 in
theorem wd_1346 : (Cond.instanceMethod ({ cls := "java/lang/String", name := "length", desc := "()I" } : MethodName)) ∈ llTb := llTb_of (List.mem_append_right _ (List.mem_of_getElem? (i := 1346) (by decide +kernel))) (by decide)
set_option maxRecDepth 100000 in
theorem wd_1347 : (Cond.selects "java/lang/String" ({ cls := "java/lang/String", name := "length", desc := "()I" } : MethodName) ({ cls := "java/lang/String", name := "length", desc := "()I" } : MethodName)) ∈ llTb := llTb_of (List.mem_append_right _ (List.mem_of_getElem? (i := 1347) (by decide +kernel))) (by decide)
set_option maxRecDepth 100000 in
theorem wd_1348 : (Cond.code ({ cls := "java/lang/String", name := "length", desc := "()I" } : MethodName) prog_20_method_54_code (1 : Nat) (Option.some ClassFile.FieldType.int)) ∈ llTb := llTb_of (List.mem_append_right _ (List.mem_of_getElem? (i := 1348) (by exact rfl))) (by decide)
set_option maxRecDepth 100000 in
theorem wd_1349 : (Cond.methodLink "java/lang/String" (335 : Nat) ({ cls := "java/lang/String", name := "coder", desc := "()B" } : MethodName)) ∈ llTb := llTb_of (List.mem_append_right _ (List.mem_of_getElem? (i := 1349) (by decide +kernel))) (by decide)
set_option maxRecDepth 100000 in
theorem wd_1350 : (Cond.instanceMethod ({ cls := "java/lang/String", name := "coder", desc := "()B" } : MethodName)) ∈ llTb := llTb_of (List.mem_append_right _ (List.mem_of_getElem? (i := 1350) (by decide +kernel))) (by decide)
set_option maxRecDepth 100000 in
theorem wd_1351 : (Cond.selects "java/lang/String" ({ cls := "java/lang/String", name := "coder", desc := "()B" } : MethodName) ({ cls := "java/lang/String", name := "coder", desc := "()B" } : MethodName)) ∈ llTb := llTb_of (List.mem_append_right _ (List.mem_of_getElem? (i := 1351) (by decide +kernel))) (by decide)
set_option maxRecDepth 100000 in
theorem wd_1352 : (Cond.code ({ cls := "java/lang/String", name := "coder", desc := "()B" } : MethodName) prog_20_method_152_code (1 : Nat) (Option.some ClassFile.FieldType.byte)) ∈ llTb := llTb_of (List.mem_append_right _ (List.mem_of_getElem? (i := 1352) (by exact rfl))) (by decide)
set_option maxRecDepth 100000 in
theorem wd_1353 : (Cond.fieldLink "java/lang/String" (38 : Nat) "java/lang/String" "COMPACT_STRINGS" "Z") ∈ llTb := llTb_of (List.mem_append_right _ (List.mem_of_getElem? (i := 1353) (by decide +kernel))) (by decide)
set_option maxRecDepth 100000 in
theorem wd_1355 : (Cond.methodLink "LeagueLevelsModel" (171 : Nat) ({ cls := "LeagueLevelsModel", name := "packed", desc := "(Ljava/lang/String;)J" } : MethodName)) ∈ llTb := llTb_of (List.mem_append_right _ (List.mem_of_getElem? (i := 1355) (by decide +kernel))) (by decide)
set_option maxRecDepth 100000 in
theorem wd_1356 : (Cond.static ({ cls := "LeagueLevelsModel", name := "packed", desc := "(Ljava/lang/String;)J" } : MethodName)) ∈ llTb := llTb_of (List.mem_append_right _ (List.mem_of_getElem? (i := 1356) (by decide +kernel))) (by decide)
set_option maxRecDepth 100000 in
theorem wd_1357 : (Cond.code ({ cls := "LeagueLevelsModel", name := "packed", desc := "(Ljava/lang/String;)J" } : MethodName) prog_14_method_12_code (4 : Nat) (Option.some ClassFile.FieldType.long)) ∈ llTb := llTb_of (List.mem_append_right _ (List.mem_of_getElem? (i := 1357) (by exact rfl))) (by decide)
set_option maxRecDepth 100000 in
theorem wd_1358 : (Cond.methodLink "LeagueLevelsModel" (167 : Nat) ({ cls := "java/lang/String", name := "charAt", desc := "(I)C" } : MethodName)) ∈ llTb := llTb_of (List.mem_append_right _ (List.mem_of_getElem? (i := 1358) (by decide +kernel))) (by decide)
set_option maxRecDepth 100000 in
theorem wd_1359 : (Cond.instanceMethod ({ cls := "java/lang/String", name := "charAt", desc := "(I)C" } : MethodName)) ∈ llTb := llTb_of (List.mem_append_right _ (List.mem_of_getElem? (i := 1359) (by decide +kernel))) (by decide)
set_option maxRecDepth 100000 in
theorem wd_1360 : (Cond.selects "java/lang/String" ({ cls := "java/lang/String", name := "charAt", desc := "(I)C" } : MethodName) ({ cls := "java/lang/String", name := "charAt", desc := "(I)C" } : MethodName)) ∈ llTb := llTb_of (List.mem_append_right _ (List.mem_of_getElem? (i := 1360) (by decide +kernel))) (by decide)
set_option maxRecDepth 100000 in
theorem wd_1361 : (Cond.code ({ cls := "java/lang/String", name := "charAt", desc := "(I)C" } : MethodName) prog_20_method_56_code (2 : Nat) (Option.some ClassFile.FieldType.char)) ∈ llTb := llTb_of (List.mem_append_right _ (List.mem_of_getElem? (i := 1361) (by exact rfl))) (by decide)
set_option maxRecDepth 100000 in
theorem wd_1362 : (Cond.methodLink "java/lang/String" (492 : Nat) ({ cls := "java/lang/String", name := "isLatin1", desc := "()Z" } : MethodName)) ∈ llTb := llTb_of (List.mem_append_right _ (List.mem_of_getElem? (i := 1362) (by decide +kernel))) (by decide)
set_option maxRecDepth 100000 in
theorem wd_1363 : (Cond.instanceMethod ({ cls := "java/lang/String", name := "isLatin1", desc := "()Z" } : MethodName)) ∈ llTb := llTb_of (List.mem_append_right _ (List.mem_of_getElem? (i := 1363) (by decide +kernel))) (by decide)
set_option maxRecDepth 100000 in
theorem wd_1364 : (Cond.selects "java/lang/String" ({ cls := "java/lang/String", name := "isLatin1", desc := "()Z" } : MethodName) ({ cls := "java/lang/String", name := "isLatin1", desc := "()Z" } : MethodName)) ∈ llTb := llTb_of (List.mem_append_right _ (List.mem_of_getElem? (i := 1364) (by decide +kernel))) (by decide)
set_option maxRecDepth 100000 in
theorem wd_1365 : (Cond.code ({ cls := "java/lang/String", name := "isLatin1", desc := "()Z" } : MethodName) prog_20_method_154_code (1 : Nat) (Option.some ClassFile.FieldType.boolean)) ∈ llTb := llTb_of (List.mem_append_right _ (List.mem_of_getElem? (i := 1365) (by exact rfl))) (by decide)
set_option maxRecDepth 100000 in
theorem wd_1366 : (Cond.methodLink "java/lang/String" (495 : Nat) ({ cls := "java/lang/StringLatin1", name := "charAt", desc := "([BI)C" } : MethodName)) ∈ llTb := llTb_of (List.mem_append_right _ (List.mem_of_getElem? (i := 1366) (by decide +kernel))) (by decide)
set_option maxRecDepth 100000 in
theorem wd_1367 : (Cond.static ({ cls := "java/lang/StringLatin1", name := "charAt", desc := "([BI)C" } : MethodName)) ∈ llTb := llTb_of (List.mem_append_right _ (List.mem_of_getElem? (i := 1367) (by decide +kernel))) (by decide)
set_option maxRecDepth 100000 in
theorem wd_1368 : (Cond.code ({ cls := "java/lang/StringLatin1", name := "charAt", desc := "([BI)C" } : MethodName) prog_21_method_2_code (2 : Nat) (Option.some ClassFile.FieldType.char)) ∈ llTb := llTb_of (List.mem_append_right _ (List.mem_of_getElem? (i := 1368) (by exact rfl))) (by decide)
set_option maxRecDepth 100000 in
theorem wd_1369 : (Cond.methodLink "java/lang/StringLatin1" (9 : Nat) ({ cls := "java/lang/String", name := "checkIndex", desc := "(II)V" } : MethodName)) ∈ llTb := llTb_of (List.mem_append_right _ (List.mem_of_getElem? (i := 1369) (by decide +kernel))) (by decide)
set_option maxRecDepth 100000 in
theorem wd_1370 : (Cond.static ({ cls := "java/lang/String", name := "checkIndex", desc := "(II)V" } : MethodName)) ∈ llTb := llTb_of (List.mem_append_right _ (List.mem_of_getElem? (i := 1370) (by decide +kernel))) (by decide)
set_option maxRecDepth 100000 in
theorem wd_1371 : (Cond.code ({ cls := "java/lang/String", name := "checkIndex", desc := "(II)V" } : MethodName) prog_20_method_155_code (2 : Nat) (Option.none : Option ClassFile.FieldType)) ∈ llTb := llTb_of (List.mem_append_right _ (List.mem_of_getElem? (i := 1371) (by exact rfl))) (by decide)
set_option maxRecDepth 100000 in
theorem wd_1372 : (Cond.fieldLink "java/lang/String" (1053 : Nat) "jdk/internal/util/Preconditions" "SIOOBE_FORMATTER" "Ljava/util/function/BiFunction;") ∈ llTb := llTb_of (List.mem_append_right _ (List.mem_of_getElem? (i := 1372) (by decide +kernel))) (by decide)
set_option maxRecDepth 100000 in
theorem wd_1374 : (Cond.methodLink "java/lang/String" (1059 : Nat) ({ cls := "jdk/internal/util/Preconditions", name := "checkIndex", desc := "(IILjava/util/function/BiFunction;)I" } : MethodName)) ∈ llTb := llTb_of (List.mem_append_right _ (List.mem_of_getElem? (i := 1374) (by decide +kernel))) (by decide)
set_option maxRecDepth 100000 in
theorem wd_1375 : (Cond.static ({ cls := "jdk/internal/util/Preconditions", name := "checkIndex", desc := "(IILjava/util/function/BiFunction;)I" } : MethodName)) ∈ llTb := llTb_of (List.mem_append_right _ (List.mem_of_getElem? (i := 1375) (by decide +kernel))) (by decide)
set_option maxRecDepth 100000 in
theorem wd_1376 : (Cond.code ({ cls := "jdk/internal/util/Preconditions", name := "checkIndex", desc := "(IILjava/util/function/BiFunction;)I" } : MethodName) prog_25_method_11_code (3 : Nat) (Option.some ClassFile.FieldType.int)) ∈ llTb := llTb_of (List.mem_append_right _ (List.mem_of_getElem? (i := 1376) (by exact rfl))) (by decide)
set_option maxRecDepth 100000 in
theorem wd_1396 : (Cond.methodLink "LeagueLevelsModel" (239 : Nat) ({ cls := "LeagueLevelsModel", name := "readLevel", desc := "()Z" } : MethodName)) ∈ llTb := llTb_of (List.mem_append_right _ (List.mem_of_getElem? (i := 1396) (by decide +kernel))) (by decide)
set_option maxRecDepth 100000 in
theorem wd_1398 : (Cond.instanceMethod ({ cls := "LeagueLevelsModel", name := "readLevel", desc := "()Z" } : MethodName)) ∈ llTb := llTb_of (List.mem_append_right _ (List.mem_of_getElem? (i := 1398) (by decide +kernel))) (by decide)
set_option maxRecDepth 100000 in
theorem wd_1399 : (Cond.code ({ cls := "LeagueLevelsModel", name := "readLevel", desc := "()Z" } : MethodName) prog_14_method_20_code (2 : Nat) (Option.some ClassFile.FieldType.boolean)) ∈ llTb := llTb_of (List.mem_append_right _ (List.mem_of_getElem? (i := 1399) (by exact rfl))) (by decide)
set_option maxRecDepth 100000 in
theorem wd_1400 : (Cond.methodLink "LeagueLevelsModel" (191 : Nat) ({ cls := "LeagueLevelsModel", name := "fails", desc := "(I)Z" } : MethodName)) ∈ llTb := llTb_of (List.mem_append_right _ (List.mem_of_getElem? (i := 1400) (by decide +kernel))) (by decide)
set_option maxRecDepth 100000 in
theorem wd_1402 : (Cond.instanceMethod ({ cls := "LeagueLevelsModel", name := "fails", desc := "(I)Z" } : MethodName)) ∈ llTb := llTb_of (List.mem_append_right _ (List.mem_of_getElem? (i := 1402) (by decide +kernel))) (by decide)
set_option maxRecDepth 100000 in
theorem wd_1403 : (Cond.code ({ cls := "LeagueLevelsModel", name := "fails", desc := "(I)Z" } : MethodName) prog_14_method_11_code (2 : Nat) (Option.some ClassFile.FieldType.boolean)) ∈ llTb := llTb_of (List.mem_append_right _ (List.mem_of_getElem? (i := 1403) (by exact rfl))) (by decide)
set_option maxRecDepth 100000 in
theorem wd_1404 : (Cond.methodLink "LeagueLevelsModel" (208 : Nat) ({ cls := "LeagueLevelsModel", name := "lays", desc := "(III)Z" } : MethodName)) ∈ llTb := llTb_of (List.mem_append_right _ (List.mem_of_getElem? (i := 1404) (by decide +kernel))) (by decide)
set_option maxRecDepth 100000 in
theorem wd_1406 : (Cond.instanceMethod ({ cls := "LeagueLevelsModel", name := "lays", desc := "(III)Z" } : MethodName)) ∈ llTb := llTb_of (List.mem_append_right _ (List.mem_of_getElem? (i := 1406) (by decide +kernel))) (by decide)
set_option maxRecDepth 100000 in
theorem wd_1407 : (Cond.code ({ cls := "LeagueLevelsModel", name := "lays", desc := "(III)Z" } : MethodName) prog_14_method_19_code (4 : Nat) (Option.some ClassFile.FieldType.boolean)) ∈ llTb := llTb_of (List.mem_append_right _ (List.mem_of_getElem? (i := 1407) (by exact rfl))) (by decide)
set_option maxRecDepth 100000 in
theorem wd_1408 : (Cond.methodLink "LeagueLevelsModel" (201 : Nat) ({ cls := "LeagueLevelsModel", name := "readNumber", desc := "(II)Z" } : MethodName)) ∈ llTb := llTb_of (List.mem_append_right _ (List.mem_of_getElem? (i := 1408) (by decide +kernel))) (by decide)
set_option maxRecDepth 100000 in
theorem wd_1410 : (Cond.instanceMethod ({ cls := "LeagueLevelsModel", name := "readNumber", desc := "(II)Z" } : MethodName)) ∈ llTb := llTb_of (List.mem_append_right _ (List.mem_of_getElem? (i := 1410) (by decide +kernel))) (by decide)
set_option maxRecDepth 100000 in
theorem wd_1411 : (Cond.code ({ cls := "LeagueLevelsModel", name := "readNumber", desc := "(II)Z" } : MethodName) prog_14_method_17_code (3 : Nat) (Option.some ClassFile.FieldType.boolean)) ∈ llTb := llTb_of (List.mem_append_right _ (List.mem_of_getElem? (i := 1411) (by exact rfl))) (by decide)
set_option maxRecDepth 100000 in
theorem wd_1413 : (Cond.methodLink "LeagueLevelsModel" (212 : Nat) ({ cls := "LeagueLevelsModel", name := "takes", desc := "(Ljava/lang/String;)Z" } : MethodName)) ∈ llTb := llTb_of (List.mem_append_right _ (List.mem_of_getElem? (i := 1413) (by decide +kernel))) (by decide)
set_option maxRecDepth 100000 in
theorem wd_1415 : (Cond.instanceMethod ({ cls := "LeagueLevelsModel", name := "takes", desc := "(Ljava/lang/String;)Z" } : MethodName)) ∈ llTb := llTb_of (List.mem_append_right _ (List.mem_of_getElem? (i := 1415) (by decide +kernel))) (by decide)
set_option maxRecDepth 100000 in
theorem wd_1416 : (Cond.code ({ cls := "LeagueLevelsModel", name := "takes", desc := "(Ljava/lang/String;)Z" } : MethodName) prog_14_method_15_code (2 : Nat) (Option.some ClassFile.FieldType.boolean)) ∈ llTb := llTb_of (List.mem_append_right _ (List.mem_of_getElem? (i := 1416) (by exact rfl))) (by decide)
set_option maxRecDepth 100000 in
theorem wd_1417 : (Cond.methodLink "LeagueLevelsModel" (215 : Nat) ({ cls := "java/lang/Math", name := "min", desc := "(II)I" } : MethodName)) ∈ llTb := llTb_of (List.mem_append_right _ (List.mem_of_getElem? (i := 1417) (by decide +kernel))) (by decide)
set_option maxRecDepth 100000 in
theorem wd_1421 : (Cond.methodLink "LeagueLevelsModel" (242 : Nat) ({ cls := "LeagueLevelsModel", name := "readClub", desc := "()Z" } : MethodName)) ∈ llTb := llTb_of (List.mem_append_right _ (List.mem_of_getElem? (i := 1421) (by decide +kernel))) (by decide)
set_option maxRecDepth 100000 in
theorem wd_1423 : (Cond.instanceMethod ({ cls := "LeagueLevelsModel", name := "readClub", desc := "()Z" } : MethodName)) ∈ llTb := llTb_of (List.mem_append_right _ (List.mem_of_getElem? (i := 1423) (by decide +kernel))) (by decide)
set_option maxRecDepth 100000 in
theorem wd_1424 : (Cond.code ({ cls := "LeagueLevelsModel", name := "readClub", desc := "()Z" } : MethodName) prog_14_method_21_code (4 : Nat) (Option.some ClassFile.FieldType.boolean)) ∈ llTb := llTb_of (List.mem_append_right _ (List.mem_of_getElem? (i := 1424) (by exact rfl))) (by decide)
set_option maxRecDepth 100000 in
theorem wd_1425 : (Cond.methodLink "LeagueLevelsModel" (224 : Nat) ({ cls := "LeagueLevelsModel", name := "isName", desc := "()Z" } : MethodName)) ∈ llTb := llTb_of (List.mem_append_right _ (List.mem_of_getElem? (i := 1425) (by decide +kernel))) (by decide)
set_option maxRecDepth 100000 in
theorem wd_1427 : (Cond.instanceMethod ({ cls := "LeagueLevelsModel", name := "isName", desc := "()Z" } : MethodName)) ∈ llTb := llTb_of (List.mem_append_right _ (List.mem_of_getElem? (i := 1427) (by decide +kernel))) (by decide)
set_option maxRecDepth 100000 in
theorem wd_1428 : (Cond.code ({ cls := "LeagueLevelsModel", name := "isName", desc := "()Z" } : MethodName) prog_14_method_14_code (1 : Nat) (Option.some ClassFile.FieldType.boolean)) ∈ llTb := llTb_of (List.mem_append_right _ (List.mem_of_getElem? (i := 1428) (by exact rfl))) (by decide)
set_option maxRecDepth 100000 in
theorem wd_1431 : (Cond.methodLink "LeagueLevelsModel" (228 : Nat) ({ cls := "LeagueLevelsModel", name := "placeOf", desc := "(JII)I" } : MethodName)) ∈ llTb := llTb_of (List.mem_append_right _ (List.mem_of_getElem? (i := 1431) (by decide +kernel))) (by decide)
set_option maxRecDepth 100000 in
theorem wd_1433 : (Cond.instanceMethod ({ cls := "LeagueLevelsModel", name := "placeOf", desc := "(JII)I" } : MethodName)) ∈ llTb := llTb_of (List.mem_append_right _ (List.mem_of_getElem? (i := 1433) (by decide +kernel))) (by decide)
set_option maxRecDepth 100000 in
theorem wd_1434 : (Cond.code ({ cls := "LeagueLevelsModel", name := "placeOf", desc := "(JII)I" } : MethodName) prog_14_method_18_code (6 : Nat) (Option.some ClassFile.FieldType.int)) ∈ llTb := llTb_of (List.mem_append_right _ (List.mem_of_getElem? (i := 1434) (by exact rfl))) (by decide)
set_option maxRecDepth 100000 in
theorem wd_1435 : (Cond.methodLink "LeagueLevelsModel" (232 : Nat) ({ cls := "LeagueLevelsModel", name := "manyIn", desc := "(II)I" } : MethodName)) ∈ llTb := llTb_of (List.mem_append_right _ (List.mem_of_getElem? (i := 1435) (by decide +kernel))) (by decide)
set_option maxRecDepth 100000 in
theorem wd_1437 : (Cond.instanceMethod ({ cls := "LeagueLevelsModel", name := "manyIn", desc := "(II)I" } : MethodName)) ∈ llTb := llTb_of (List.mem_append_right _ (List.mem_of_getElem? (i := 1437) (by decide +kernel))) (by decide)
set_option maxRecDepth 100000 in
theorem wd_1438 : (Cond.code ({ cls := "LeagueLevelsModel", name := "manyIn", desc := "(II)I" } : MethodName) prog_14_method_22_code (5 : Nat) (Option.some ClassFile.FieldType.int)) ∈ llTb := llTb_of (List.mem_append_right _ (List.mem_of_getElem? (i := 1438) (by exact rfl))) (by decide)
set_option maxRecDepth 100000 in
theorem wd_1439 : (Cond.methodLink "LeagueLevelsModel" (235 : Nat) ({ cls := "LeagueLevelsModel", name := "one", desc := "(Z)I" } : MethodName)) ∈ llTb := llTb_of (List.mem_append_right _ (List.mem_of_getElem? (i := 1439) (by decide +kernel))) (by decide)
set_option maxRecDepth 100000 in
theorem wd_1440 : (Cond.static ({ cls := "LeagueLevelsModel", name := "one", desc := "(Z)I" } : MethodName)) ∈ llTb := llTb_of (List.mem_append_right _ (List.mem_of_getElem? (i := 1440) (by decide +kernel))) (by decide)
set_option maxRecDepth 100000 in
theorem wd_1441 : (Cond.code ({ cls := "LeagueLevelsModel", name := "one", desc := "(Z)I" } : MethodName) prog_14_method_2_code (1 : Nat) (Option.some ClassFile.FieldType.int)) ∈ llTb := llTb_of (List.mem_append_right _ (List.mem_of_getElem? (i := 1441) (by exact rfl))) (by decide)
set_option maxRecDepth 100000 in
theorem wd_1442 : (Cond.methodLink "LeagueLevelsModel" (245 : Nat) ({ cls := "LeagueLevelsModel", name := "takesSign", desc := "(I)Z" } : MethodName)) ∈ llTb := llTb_of (List.mem_append_right _ (List.mem_of_getElem? (i := 1442) (by decide +kernel))) (by decide)
set_option maxRecDepth 100000 in
theorem wd_1444 : (Cond.instanceMethod ({ cls := "LeagueLevelsModel", name := "takesSign", desc := "(I)Z" } : MethodName)) ∈ llTb := llTb_of (List.mem_append_right _ (List.mem_of_getElem? (i := 1444) (by decide +kernel))) (by decide)
set_option maxRecDepth 100000 in
theorem wd_1445 : (Cond.code ({ cls := "LeagueLevelsModel", name := "takesSign", desc := "(I)Z" } : MethodName) prog_14_method_16_code (2 : Nat) (Option.some ClassFile.FieldType.boolean)) ∈ llTb := llTb_of (List.mem_append_right _ (List.mem_of_getElem? (i := 1445) (by exact rfl))) (by decide)
set_option maxRecDepth 100000 in
theorem wd_1446 : (Cond.methodLink "LeagueLevelsModel" (257 : Nat) ({ cls := "LeagueLevelsModel", name := "isRead", desc := "()Z" } : MethodName)) ∈ llTb := llTb_of (List.mem_append_right _ (List.mem_of_getElem? (i := 1446) (by decide +kernel))) (by decide)
set_option maxRecDepth 100000 in
theorem wd_1448 : (Cond.instanceMethod ({ cls := "LeagueLevelsModel", name := "isRead", desc := "()Z" } : MethodName)) ∈ llTb := llTb_of (List.mem_append_right _ (List.mem_of_getElem? (i := 1448) (by decide +kernel))) (by decide)
set_option maxRecDepth 100000 in
theorem wd_1449 : (Cond.code ({ cls := "LeagueLevelsModel", name := "isRead", desc := "()Z" } : MethodName) prog_14_method_25_code (1 : Nat) (Option.some ClassFile.FieldType.boolean)) ∈ llTb := llTb_of (List.mem_append_right _ (List.mem_of_getElem? (i := 1449) (by exact rfl))) (by decide)
set_option maxRecDepth 100000 in
theorem wd_1450 : (Cond.methodLink "LeagueLevelsModel" (269 : Nat) ({ cls := "LeagueLevelsModel", name := "starts", desc := "()V" } : MethodName)) ∈ llTb := llTb_of (List.mem_append_right _ (List.mem_of_getElem? (i := 1450) (by decide +kernel))) (by decide)
set_option maxRecDepth 100000 in
theorem wd_1452 : (Cond.instanceMethod ({ cls := "LeagueLevelsModel", name := "starts", desc := "()V" } : MethodName)) ∈ llTb := llTb_of (List.mem_append_right _ (List.mem_of_getElem? (i := 1452) (by decide +kernel))) (by decide)
set_option maxRecDepth 100000 in
theorem wd_1453 : (Cond.code ({ cls := "LeagueLevelsModel", name := "starts", desc := "()V" } : MethodName) prog_14_method_27_code (2 : Nat) (Option.none : Option ClassFile.FieldType)) ∈ llTb := llTb_of (List.mem_append_right _ (List.mem_of_getElem? (i := 1453) (by exact rfl))) (by decide)
set_option maxRecDepth 100000 in
theorem wd_1456 : (Cond.instanceMethod ({ cls := "LeagueLevelsModel", name := "day", desc := "()I" } : MethodName)) ∈ llTb := llTb_of (List.mem_append_right _ (List.mem_of_getElem? (i := 1456) (by decide +kernel))) (by decide)
set_option maxRecDepth 100000 in
theorem wd_1457 : (Cond.selects "LeagueLevelsModel" ({ cls := "LeagueLevelsModel", name := "day", desc := "()I" } : MethodName) ({ cls := "LeagueLevelsModel", name := "day", desc := "()I" } : MethodName)) ∈ llTb := llTb_of (List.mem_append_right _ (List.mem_of_getElem? (i := 1457) (by decide +kernel))) (by decide)
set_option maxRecDepth 100000 in
theorem wd_1458 : (Cond.code ({ cls := "LeagueLevelsModel", name := "day", desc := "()I" } : MethodName) prog_14_method_29_code (3 : Nat) (Option.some ClassFile.FieldType.int)) ∈ llTb := llTb_of (List.mem_append_right _ (List.mem_of_getElem? (i := 1458) (by exact rfl))) (by decide)
set_option maxRecDepth 100000 in
theorem wd_1459 : (Cond.methodLink "LeagueLevelsModel" (278 : Nat) ({ cls := "LeagueLevelsModel", name := "readMatch", desc := "()Z" } : MethodName)) ∈ llTb := llTb_of (List.mem_append_right _ (List.mem_of_getElem? (i := 1459) (by decide +kernel))) (by decide)
set_option maxRecDepth 100000 in
theorem wd_1461 : (Cond.instanceMethod ({ cls := "LeagueLevelsModel", name := "readMatch", desc := "()Z" } : MethodName)) ∈ llTb := llTb_of (List.mem_append_right _ (List.mem_of_getElem? (i := 1461) (by decide +kernel))) (by decide)
set_option maxRecDepth 100000 in
theorem wd_1462 : (Cond.code ({ cls := "LeagueLevelsModel", name := "readMatch", desc := "()Z" } : MethodName) prog_14_method_28_code (7 : Nat) (Option.some ClassFile.FieldType.boolean)) ∈ llTb := llTb_of (List.mem_append_right _ (List.mem_of_getElem? (i := 1462) (by exact rfl))) (by decide)
set_option maxRecDepth 100000 in
theorem wd_1463 : (Cond.methodLink "LeagueLevelsModel" (272 : Nat) ({ cls := "LeagueLevelsModel", name := "areTogether", desc := "(II)Z" } : MethodName)) ∈ llTb := llTb_of (List.mem_append_right _ (List.mem_of_getElem? (i := 1463) (by decide +kernel))) (by decide)
set_option maxRecDepth 100000 in
theorem wd_1465 : (Cond.instanceMethod ({ cls := "LeagueLevelsModel", name := "areTogether", desc := "(II)Z" } : MethodName)) ∈ llTb := llTb_of (List.mem_append_right _ (List.mem_of_getElem? (i := 1465) (by decide +kernel))) (by decide)
set_option maxRecDepth 100000 in
theorem wd_1466 : (Cond.code ({ cls := "LeagueLevelsModel", name := "areTogether", desc := "(II)Z" } : MethodName) prog_14_method_34_code (3 : Nat) (Option.some ClassFile.FieldType.boolean)) ∈ llTb := llTb_of (List.mem_append_right _ (List.mem_of_getElem? (i := 1466) (by exact rfl))) (by decide)
set_option maxRecDepth 100000 in
theorem wd_1467 : (Cond.methodLink "LeagueLevelsModel" (287 : Nat) ({ cls := "LeagueLevelsModel", name := "plays", desc := "(I)Z" } : MethodName)) ∈ llTb := llTb_of (List.mem_append_right _ (List.mem_of_getElem? (i := 1467) (by decide +kernel))) (by decide)
set_option maxRecDepth 100000 in
theorem wd_1469 : (Cond.instanceMethod ({ cls := "LeagueLevelsModel", name := "plays", desc := "(I)Z" } : MethodName)) ∈ llTb := llTb_of (List.mem_append_right _ (List.mem_of_getElem? (i := 1469) (by decide +kernel))) (by decide)
set_option maxRecDepth 100000 in
theorem wd_1470 : (Cond.code ({ cls := "LeagueLevelsModel", name := "plays", desc := "(I)Z" } : MethodName) prog_14_method_33_code (2 : Nat) (Option.some ClassFile.FieldType.boolean)) ∈ llTb := llTb_of (List.mem_append_right _ (List.mem_of_getElem? (i := 1470) (by exact rfl))) (by decide)
set_option maxRecDepth 100000 in
theorem wd_1471 : (Cond.methodLink "LeagueLevelsModel" (284 : Nat) ({ cls := "LeagueLevelsModel", name := "isClub", desc := "(I)Z" } : MethodName)) ∈ llTb := llTb_of (List.mem_append_right _ (List.mem_of_getElem? (i := 1471) (by decide +kernel))) (by decide)
set_option maxRecDepth 100000 in
theorem wd_1473 : (Cond.instanceMethod ({ cls := "LeagueLevelsModel", name := "isClub", desc := "(I)Z" } : MethodName)) ∈ llTb := llTb_of (List.mem_append_right _ (List.mem_of_getElem? (i := 1473) (by decide +kernel))) (by decide)
set_option maxRecDepth 100000 in
theorem wd_1474 : (Cond.code ({ cls := "LeagueLevelsModel", name := "isClub", desc := "(I)Z" } : MethodName) prog_14_method_32_code (2 : Nat) (Option.some ClassFile.FieldType.boolean)) ∈ llTb := llTb_of (List.mem_append_right _ (List.mem_of_getElem? (i := 1474) (by exact rfl))) (by decide)
set_option maxRecDepth 100000 in
theorem wd_1475 : (Cond.methodLink "LeagueLevelsModel" (281 : Nat) ({ cls := "LeagueLevelsModel", name := "keeps", desc := "()V" } : MethodName)) ∈ llTb := llTb_of (List.mem_append_right _ (List.mem_of_getElem? (i := 1475) (by decide +kernel))) (by decide)
set_option maxRecDepth 100000 in
theorem wd_1477 : (Cond.instanceMethod ({ cls := "LeagueLevelsModel", name := "keeps", desc := "()V" } : MethodName)) ∈ llTb := llTb_of (List.mem_append_right _ (List.mem_of_getElem? (i := 1477) (by decide +kernel))) (by decide)
set_option maxRecDepth 100000 in
theorem wd_1478 : (Cond.code ({ cls := "LeagueLevelsModel", name := "keeps", desc := "()V" } : MethodName) prog_14_method_4_code (2 : Nat) (Option.none : Option ClassFile.FieldType)) ∈ llTb := llTb_of (List.mem_append_right _ (List.mem_of_getElem? (i := 1478) (by exact rfl))) (by decide)
set_option maxRecDepth 100000 in
theorem wd_1480 : (Cond.instanceMethod ({ cls := "LeagueLevelsModel", name := "fault", desc := "(I)I" } : MethodName)) ∈ llTb := llTb_of (List.mem_append_right _ (List.mem_of_getElem? (i := 1480) (by decide +kernel))) (by decide)
set_option maxRecDepth 100000 in
theorem wd_1481 : (Cond.selects "LeagueLevelsModel" ({ cls := "LeagueLevelsModel", name := "fault", desc := "(I)I" } : MethodName) ({ cls := "LeagueLevelsModel", name := "fault", desc := "(I)I" } : MethodName)) ∈ llTb := llTb_of (List.mem_append_right _ (List.mem_of_getElem? (i := 1481) (by decide +kernel))) (by decide)
set_option maxRecDepth 100000 in
theorem wd_1482 : (Cond.code ({ cls := "LeagueLevelsModel", name := "fault", desc := "(I)I" } : MethodName) prog_14_method_30_code (2 : Nat) (Option.some ClassFile.FieldType.int)) ∈ llTb := llTb_of (List.mem_append_right _ (List.mem_of_getElem? (i := 1482) (by exact rfl))) (by decide)
set_option maxRecDepth 100000 in
theorem wd_1484 : (Cond.instanceMethod ({ cls := "LeagueLevelsModel", name := "named", desc := "()I" } : MethodName)) ∈ llTb := llTb_of (List.mem_append_right _ (List.mem_of_getElem? (i := 1484) (by decide +kernel))) (by decide)
set_option maxRecDepth 100000 in
theorem wd_1485 : (Cond.selects "LeagueLevelsModel" ({ cls := "LeagueLevelsModel", name := "named", desc := "()I" } : MethodName) ({ cls := "LeagueLevelsModel", name := "named", desc := "()I" } : MethodName)) ∈ llTb := llTb_of (List.mem_append_right _ (List.mem_of_getElem? (i := 1485) (by decide +kernel))) (by decide)
set_option maxRecDepth 100000 in
theorem wd_1486 : (Cond.code ({ cls := "LeagueLevelsModel", name := "named", desc := "()I" } : MethodName) prog_14_method_31_code (3 : Nat) (Option.some ClassFile.FieldType.int)) ∈ llTb := llTb_of (List.mem_append_right _ (List.mem_of_getElem? (i := 1486) (by exact rfl))) (by decide)
set_option maxRecDepth 100000 in
theorem wd_1488 : (Cond.instanceMethod ({ cls := "LeagueLevelsModel", name := "resign", desc := "(I)Z" } : MethodName)) ∈ llTb := llTb_of (List.mem_append_right _ (List.mem_of_getElem? (i := 1488) (by decide +kernel))) (by decide)
set_option maxRecDepth 100000 in
theorem wd_1489 : (Cond.selects "LeagueLevelsModel" ({ cls := "LeagueLevelsModel", name := "resign", desc := "(I)Z" } : MethodName) ({ cls := "LeagueLevelsModel", name := "resign", desc := "(I)Z" } : MethodName)) ∈ llTb := llTb_of (List.mem_append_right _ (List.mem_of_getElem? (i := 1489) (by decide +kernel))) (by decide)
set_option maxRecDepth 100000 in
theorem wd_1490 : (Cond.code ({ cls := "LeagueLevelsModel", name := "resign", desc := "(I)Z" } : MethodName) prog_14_method_35_code (2 : Nat) (Option.some ClassFile.FieldType.boolean)) ∈ llTb := llTb_of (List.mem_append_right _ (List.mem_of_getElem? (i := 1490) (by exact rfl))) (by decide)
set_option maxRecDepth 100000 in
theorem wd_1492 : (Cond.instanceMethod ({ cls := "LeagueLevelsModel", name := "refuse", desc := "(I)Z" } : MethodName)) ∈ llTb := llTb_of (List.mem_append_right _ (List.mem_of_getElem? (i := 1492) (by decide +kernel))) (by decide)
set_option maxRecDepth 100000 in
theorem wd_1493 : (Cond.selects "LeagueLevelsModel" ({ cls := "LeagueLevelsModel", name := "refuse", desc := "(I)Z" } : MethodName) ({ cls := "LeagueLevelsModel", name := "refuse", desc := "(I)Z" } : MethodName)) ∈ llTb := llTb_of (List.mem_append_right _ (List.mem_of_getElem? (i := 1493) (by decide +kernel))) (by decide)
set_option maxRecDepth 100000 in
theorem wd_1494 : (Cond.code ({ cls := "LeagueLevelsModel", name := "refuse", desc := "(I)Z" } : MethodName) prog_14_method_36_code (2 : Nat) (Option.some ClassFile.FieldType.boolean)) ∈ llTb := llTb_of (List.mem_append_right _ (List.mem_of_getElem? (i := 1494) (by exact rfl))) (by decide)
set_option maxRecDepth 100000 in
theorem wd_1496 : (Cond.instanceMethod ({ cls := "LeagueLevelsModel", name := "deduct", desc := "(II)Z" } : MethodName)) ∈ llTb := llTb_of (List.mem_append_right _ (List.mem_of_getElem? (i := 1496) (by decide +kernel))) (by decide)
set_option maxRecDepth 100000 in
theorem wd_1497 : (Cond.selects "LeagueLevelsModel" ({ cls := "LeagueLevelsModel", name := "deduct", desc := "(II)Z" } : MethodName) ({ cls := "LeagueLevelsModel", name := "deduct", desc := "(II)Z" } : MethodName)) ∈ llTb := llTb_of (List.mem_append_right _ (List.mem_of_getElem? (i := 1497) (by decide +kernel))) (by decide)
set_option maxRecDepth 100000 in
theorem wd_1498 : (Cond.code ({ cls := "LeagueLevelsModel", name := "deduct", desc := "(II)Z" } : MethodName) prog_14_method_37_code (3 : Nat) (Option.some ClassFile.FieldType.boolean)) ∈ llTb := llTb_of (List.mem_append_right _ (List.mem_of_getElem? (i := 1498) (by exact rfl))) (by decide)
set_option maxRecDepth 100000 in
theorem wd_1499 : (Cond.constantLong "LeagueLevelsModel" (290 : Nat) (99 : Int64)) ∈ llTb := llTb_of (List.mem_append_right _ (List.mem_of_getElem? (i := 1499) (by decide +kernel))) (by decide)
set_option maxRecDepth 100000 in
theorem wd_1501 : (Cond.instanceMethod ({ cls := "LeagueLevelsModel", name := "grade", desc := "(II)Z" } : MethodName)) ∈ llTb := llTb_of (List.mem_append_right _ (List.mem_of_getElem? (i := 1501) (by decide +kernel))) (by decide)
set_option maxRecDepth 100000 in
theorem wd_1502 : (Cond.selects "LeagueLevelsModel" ({ cls := "LeagueLevelsModel", name := "grade", desc := "(II)Z" } : MethodName) ({ cls := "LeagueLevelsModel", name := "grade", desc := "(II)Z" } : MethodName)) ∈ llTb := llTb_of (List.mem_append_right _ (List.mem_of_getElem? (i := 1502) (by decide +kernel))) (by decide)
set_option maxRecDepth 100000 in
theorem wd_1503 : (Cond.code ({ cls := "LeagueLevelsModel", name := "grade", desc := "(II)Z" } : MethodName) prog_14_method_38_code (3 : Nat) (Option.some ClassFile.FieldType.boolean)) ∈ llTb := llTb_of (List.mem_append_right _ (List.mem_of_getElem? (i := 1503) (by exact rfl))) (by decide)
set_option maxRecDepth 100000 in
theorem wd_1504 : (Cond.constantLong "LeagueLevelsModel" (292 : Nat) (9 : Int64)) ∈ llTb := llTb_of (List.mem_append_right _ (List.mem_of_getElem? (i := 1504) (by decide +kernel))) (by decide)
set_option maxRecDepth 100000 in
theorem wd_1506 : (Cond.instanceMethod ({ cls := "LeagueLevelsModel", name := "close", desc := "()I" } : MethodName)) ∈ llTb := llTb_of (List.mem_append_right _ (List.mem_of_getElem? (i := 1506) (by decide +kernel))) (by decide)
set_option maxRecDepth 100000 in
theorem wd_1507 : (Cond.selects "LeagueLevelsModel" ({ cls := "LeagueLevelsModel", name := "close", desc := "()I" } : MethodName) ({ cls := "LeagueLevelsModel", name := "close", desc := "()I" } : MethodName)) ∈ llTb := llTb_of (List.mem_append_right _ (List.mem_of_getElem? (i := 1507) (by decide +kernel))) (by decide)
set_option maxRecDepth 100000 in
theorem wd_1508 : (Cond.code ({ cls := "LeagueLevelsModel", name := "close", desc := "()I" } : MethodName) prog_14_method_61_code (4 : Nat) (Option.some ClassFile.FieldType.int)) ∈ llTb := llTb_of (List.mem_append_right _ (List.mem_of_getElem? (i := 1508) (by exact rfl))) (by decide)
set_option maxRecDepth 100000 in
theorem wd_1509 : (Cond.methodLink "LeagueLevelsModel" (361 : Nat) ({ cls := "LeagueLevelsModel", name := "ends", desc := "()Z" } : MethodName)) ∈ llTb := llTb_of (List.mem_append_right _ (List.mem_of_getElem? (i := 1509) (by decide +kernel))) (by decide)
set_option maxRecDepth 100000 in
theorem wd_1511 : (Cond.instanceMethod ({ cls := "LeagueLevelsModel", name := "ends", desc := "()Z" } : MethodName)) ∈ llTb := llTb_of (List.mem_append_right _ (List.mem_of_getElem? (i := 1511) (by decide +kernel))) (by decide)
set_option maxRecDepth 100000 in
theorem wd_1512 : (Cond.code ({ cls := "LeagueLevelsModel", name := "ends", desc := "()Z" } : MethodName) prog_14_method_59_code (7 : Nat) (Option.some ClassFile.FieldType.boolean)) ∈ llTb := llTb_of (List.mem_append_right _ (List.mem_of_getElem? (i := 1512) (by exact rfl))) (by decide)
set_option maxRecDepth 100000 in
theorem wd_1513 : (Cond.methodLink "LeagueLevelsModel" (345 : Nat) ({ cls := "LeagueLevelsModel", name := "laysOrders", desc := "()V" } : MethodName)) ∈ llTb := llTb_of (List.mem_append_right _ (List.mem_of_getElem? (i := 1513) (by decide +kernel))) (by decide)
set_option maxRecDepth 100000 in
theorem wd_1515 : (Cond.instanceMethod ({ cls := "LeagueLevelsModel", name := "laysOrders", desc := "()V" } : MethodName)) ∈ llTb := llTb_of (List.mem_append_right _ (List.mem_of_getElem? (i := 1515) (by decide +kernel))) (by decide)
set_option maxRecDepth 100000 in
theorem wd_1516 : (Cond.code ({ cls := "LeagueLevelsModel", name := "laysOrders", desc := "()V" } : MethodName) prog_14_method_48_code (5 : Nat) (Option.none : Option ClassFile.FieldType)) ∈ llTb := llTb_of (List.mem_append_right _ (List.mem_of_getElem? (i := 1516) (by exact rfl))) (by decide)
set_option maxRecDepth 100000 in
theorem wd_1517 : (Cond.methodLink "LeagueLevelsModel" (314 : Nat) ({ cls := "LeagueLevelsModel", name := "laysRanks", desc := "()V" } : MethodName)) ∈ llTb := llTb_of (List.mem_append_right _ (List.mem_of_getElem? (i := 1517) (by decide +kernel))) (by decide)
set_option maxRecDepth 100000 in
theorem wd_1519 : (Cond.instanceMethod ({ cls := "LeagueLevelsModel", name := "laysRanks", desc := "()V" } : MethodName)) ∈ llTb := llTb_of (List.mem_append_right _ (List.mem_of_getElem? (i := 1519) (by decide +kernel))) (by decide)
set_option maxRecDepth 100000 in
theorem wd_1520 : (Cond.code ({ cls := "LeagueLevelsModel", name := "laysRanks", desc := "()V" } : MethodName) prog_14_method_45_code (3 : Nat) (Option.none : Option ClassFile.FieldType)) ∈ llTb := llTb_of (List.mem_append_right _ (List.mem_of_getElem? (i := 1520) (by exact rfl))) (by decide)
set_option maxRecDepth 100000 in
theorem wd_1521 : (Cond.methodLink "LeagueLevelsModel" (304 : Nat) ({ cls := "LeagueLevelsModel", name := "pointsOf", desc := "(I)I" } : MethodName)) ∈ llTb := llTb_of (List.mem_append_right _ (List.mem_of_getElem? (i := 1521) (by decide +kernel))) (by decide)
set_option maxRecDepth 100000 in
theorem wd_1523 : (Cond.instanceMethod ({ cls := "LeagueLevelsModel", name := "pointsOf", desc := "(I)I" } : MethodName)) ∈ llTb := llTb_of (List.mem_append_right _ (List.mem_of_getElem? (i := 1523) (by decide +kernel))) (by decide)
set_option maxRecDepth 100000 in
theorem wd_1524 : (Cond.code ({ cls := "LeagueLevelsModel", name := "pointsOf", desc := "(I)I" } : MethodName) prog_14_method_43_code (2 : Nat) (Option.some ClassFile.FieldType.int)) ∈ llTb := llTb_of (List.mem_append_right _ (List.mem_of_getElem? (i := 1524) (by exact rfl))) (by decide)
set_option maxRecDepth 100000 in
theorem wd_1525 : (Cond.methodLink "LeagueLevelsModel" (301 : Nat) ({ cls := "LeagueLevelsModel", name := "sumOf", desc := "(II)I" } : MethodName)) ∈ llTb := llTb_of (List.mem_append_right _ (List.mem_of_getElem? (i := 1525) (by decide +kernel))) (by decide)
set_option maxRecDepth 100000 in
theorem wd_1527 : (Cond.instanceMethod ({ cls := "LeagueLevelsModel", name := "sumOf", desc := "(II)I" } : MethodName)) ∈ llTb := llTb_of (List.mem_append_right _ (List.mem_of_getElem? (i := 1527) (by decide +kernel))) (by decide)
set_option maxRecDepth 100000 in
theorem wd_1528 : (Cond.code ({ cls := "LeagueLevelsModel", name := "sumOf", desc := "(II)I" } : MethodName) prog_14_method_41_code (6 : Nat) (Option.some ClassFile.FieldType.int)) ∈ llTb := llTb_of (List.mem_append_right _ (List.mem_of_getElem? (i := 1528) (by exact rfl))) (by decide)
set_option maxRecDepth 100000 in
theorem wd_1529 : (Cond.methodLink "LeagueLevelsModel" (294 : Nat) ({ cls := "LeagueLevelsModel", name := "goalsAt", desc := "(II)I" } : MethodName)) ∈ llTb := llTb_of (List.mem_append_right _ (List.mem_of_getElem? (i := 1529) (by decide +kernel))) (by decide)
set_option maxRecDepth 100000 in
theorem wd_1531 : (Cond.instanceMethod ({ cls := "LeagueLevelsModel", name := "goalsAt", desc := "(II)I" } : MethodName)) ∈ llTb := llTb_of (List.mem_append_right _ (List.mem_of_getElem? (i := 1531) (by decide +kernel))) (by decide)
set_option maxRecDepth 100000 in
theorem wd_1532 : (Cond.code ({ cls := "LeagueLevelsModel", name := "goalsAt", desc := "(II)I" } : MethodName) prog_14_method_39_code (3 : Nat) (Option.some ClassFile.FieldType.int)) ∈ llTb := llTb_of (List.mem_append_right _ (List.mem_of_getElem? (i := 1532) (by exact rfl))) (by decide)
set_option maxRecDepth 100000 in
theorem wd_1533 : (Cond.methodLink "LeagueLevelsModel" (297 : Nat) ({ cls := "LeagueLevelsModel", name := "partOf", desc := "(III)I" } : MethodName)) ∈ llTb := llTb_of (List.mem_append_right _ (List.mem_of_getElem? (i := 1533) (by decide +kernel))) (by decide)
set_option maxRecDepth 100000 in
theorem wd_1534 : (Cond.static ({ cls := "LeagueLevelsModel", name := "partOf", desc := "(III)I" } : MethodName)) ∈ llTb := llTb_of (List.mem_append_right _ (List.mem_of_getElem? (i := 1534) (by decide +kernel))) (by decide)
set_option maxRecDepth 100000 in
theorem wd_1535 : (Cond.code ({ cls := "LeagueLevelsModel", name := "partOf", desc := "(III)I" } : MethodName) prog_14_method_42_code (3 : Nat) (Option.some ClassFile.FieldType.int)) ∈ llTb := llTb_of (List.mem_append_right _ (List.mem_of_getElem? (i := 1535) (by exact rfl))) (by decide)
set_option maxRecDepth 100000 in
theorem wd_1536 : (Cond.methodLink "LeagueLevelsModel" (307 : Nat) ({ cls := "LeagueLevelsModel", name := "averageOf", desc := "(I)F" } : MethodName)) ∈ llTb := llTb_of (List.mem_append_right _ (List.mem_of_getElem? (i := 1536) (by decide +kernel))) (by decide)
set_option maxRecDepth 100000 in
theorem wd_1538 : (Cond.instanceMethod ({ cls := "LeagueLevelsModel", name := "averageOf", desc := "(I)F" } : MethodName)) ∈ llTb := llTb_of (List.mem_append_right _ (List.mem_of_getElem? (i := 1538) (by decide +kernel))) (by decide)
set_option maxRecDepth 100000 in
theorem wd_1539 : (Cond.code ({ cls := "LeagueLevelsModel", name := "averageOf", desc := "(I)F" } : MethodName) prog_14_method_44_code (3 : Nat) (Option.some ClassFile.FieldType.float)) ∈ llTb := llTb_of (List.mem_append_right _ (List.mem_of_getElem? (i := 1539) (by exact rfl))) (by decide)
set_option maxRecDepth 100000 in
theorem wd_1540 : (Cond.methodLink "LeagueLevelsModel" (311 : Nat) ({ cls := "LeagueLevelsModel", name := "isAhead", desc := "(II)Z" } : MethodName)) ∈ llTb := llTb_of (List.mem_append_right _ (List.mem_of_getElem? (i := 1540) (by decide +kernel))) (by decide)
set_option maxRecDepth 100000 in
theorem wd_1542 : (Cond.instanceMethod ({ cls := "LeagueLevelsModel", name := "isAhead", desc := "(II)Z" } : MethodName)) ∈ llTb := llTb_of (List.mem_append_right _ (List.mem_of_getElem? (i := 1542) (by decide +kernel))) (by decide)
set_option maxRecDepth 100000 in
theorem wd_1543 : (Cond.code ({ cls := "LeagueLevelsModel", name := "isAhead", desc := "(II)Z" } : MethodName) prog_14_method_46_code (3 : Nat) (Option.some ClassFile.FieldType.boolean)) ∈ llTb := llTb_of (List.mem_append_right _ (List.mem_of_getElem? (i := 1543) (by exact rfl))) (by decide)
set_option maxRecDepth 100000 in
theorem wd_1544 : (Cond.methodLink "LeagueLevelsModel" (317 : Nat) ({ cls := "LeagueLevelsModel", name := "isBefore", desc := "(II)Z" } : MethodName)) ∈ llTb := llTb_of (List.mem_append_right _ (List.mem_of_getElem? (i := 1544) (by decide +kernel))) (by decide)
set_option maxRecDepth 100000 in
theorem wd_1546 : (Cond.instanceMethod ({ cls := "LeagueLevelsModel", name := "isBefore", desc := "(II)Z" } : MethodName)) ∈ llTb := llTb_of (List.mem_append_right _ (List.mem_of_getElem? (i := 1546) (by decide +kernel))) (by decide)
set_option maxRecDepth 100000 in
theorem wd_1547 : (Cond.code ({ cls := "LeagueLevelsModel", name := "isBefore", desc := "(II)Z" } : MethodName) prog_14_method_47_code (3 : Nat) (Option.some ClassFile.FieldType.boolean)) ∈ llTb := llTb_of (List.mem_append_right _ (List.mem_of_getElem? (i := 1547) (by exact rfl))) (by decide)
set_option maxRecDepth 100000 in
theorem wd_1548 : (Cond.methodLink "LeagueLevelsModel" (348 : Nat) ({ cls := "LeagueLevelsModel", name := "laysWanting", desc := "()V" } : MethodName)) ∈ llTb := llTb_of (List.mem_append_right _ (List.mem_of_getElem? (i := 1548) (by decide +kernel))) (by decide)
set_option maxRecDepth 100000 in
theorem wd_1550 : (Cond.instanceMethod ({ cls := "LeagueLevelsModel", name := "laysWanting", desc := "()V" } : MethodName)) ∈ llTb := llTb_of (List.mem_append_right _ (List.mem_of_getElem? (i := 1550) (by decide +kernel))) (by decide)
set_option maxRecDepth 100000 in
theorem wd_1551 : (Cond.code ({ cls := "LeagueLevelsModel", name := "laysWanting", desc := "()V" } : MethodName) prog_14_method_56_code (4 : Nat) (Option.none : Option ClassFile.FieldType)) ∈ llTb := llTb_of (List.mem_append_right _ (List.mem_of_getElem? (i := 1551) (by exact rfl))) (by decide)
set_option maxRecDepth 100000 in
theorem wd_1552 : (Cond.methodLink "LeagueLevelsModel" (351 : Nat) ({ cls := "java/lang/Math", name := "max", desc := "(II)I" } : MethodName)) ∈ llTb := llTb_of (List.mem_append_right _ (List.mem_of_getElem? (i := 1552) (by decide +kernel))) (by decide)
set_option maxRecDepth 100000 in
theorem wd_1553 : (Cond.methodLink "LeagueLevelsModel" (354 : Nat) ({ cls := "LeagueLevelsModel", name := "mayFrom", desc := "(I)I" } : MethodName)) ∈ llTb := llTb_of (List.mem_append_right _ (List.mem_of_getElem? (i := 1553) (by decide +kernel))) (by decide)
set_option maxRecDepth 100000 in
theorem wd_1555 : (Cond.instanceMethod ({ cls := "LeagueLevelsModel", name := "mayFrom", desc := "(I)I" } : MethodName)) ∈ llTb := llTb_of (List.mem_append_right _ (List.mem_of_getElem? (i := 1555) (by decide +kernel))) (by decide)
set_option maxRecDepth 100000 in
theorem wd_1556 : (Cond.code ({ cls := "LeagueLevelsModel", name := "mayFrom", desc := "(I)I" } : MethodName) prog_14_method_55_code (4 : Nat) (Option.some ClassFile.FieldType.int)) ∈ llTb := llTb_of (List.mem_append_right _ (List.mem_of_getElem? (i := 1556) (by exact rfl))) (by decide)
set_option maxRecDepth 100000 in
theorem wd_1557 : (Cond.methodLink "LeagueLevelsModel" (339 : Nat) ({ cls := "LeagueLevelsModel", name := "may", desc := "(I)Z" } : MethodName)) ∈ llTb := llTb_of (List.mem_append_right _ (List.mem_of_getElem? (i := 1557) (by decide +kernel))) (by decide)
set_option maxRecDepth 100000 in
theorem wd_1559 : (Cond.instanceMethod ({ cls := "LeagueLevelsModel", name := "may", desc := "(I)Z" } : MethodName)) ∈ llTb := llTb_of (List.mem_append_right _ (List.mem_of_getElem? (i := 1559) (by decide +kernel))) (by decide)
set_option maxRecDepth 100000 in
theorem wd_1560 : (Cond.code ({ cls := "LeagueLevelsModel", name := "may", desc := "(I)Z" } : MethodName) prog_14_method_54_code (2 : Nat) (Option.some ClassFile.FieldType.boolean)) ∈ llTb := llTb_of (List.mem_append_right _ (List.mem_of_getElem? (i := 1560) (by exact rfl))) (by decide)
set_option maxRecDepth 100000 in
theorem wd_1561 : (Cond.methodLink "LeagueLevelsModel" (357 : Nat) ({ cls := "LeagueLevelsModel", name := "picks", desc := "(IIZ)V" } : MethodName)) ∈ llTb := llTb_of (List.mem_append_right _ (List.mem_of_getElem? (i := 1561) (by decide +kernel))) (by decide)
set_option maxRecDepth 100000 in
theorem wd_1563 : (Cond.instanceMethod ({ cls := "LeagueLevelsModel", name := "picks", desc := "(IIZ)V" } : MethodName)) ∈ llTb := llTb_of (List.mem_append_right _ (List.mem_of_getElem? (i := 1563) (by decide +kernel))) (by decide)
set_option maxRecDepth 100000 in
theorem wd_1564 : (Cond.code ({ cls := "LeagueLevelsModel", name := "picks", desc := "(IIZ)V" } : MethodName) prog_14_method_58_code (6 : Nat) (Option.none : Option ClassFile.FieldType)) ∈ llTb := llTb_of (List.mem_append_right _ (List.mem_of_getElem? (i := 1564) (by exact rfl))) (by decide)
set_option maxRecDepth 100000 in
theorem wd_1565 : (Cond.methodLink "LeagueLevelsModel" (342 : Nat) ({ cls := "LeagueLevelsModel", name := "goesUp", desc := "(I)V" } : MethodName)) ∈ llTb := llTb_of (List.mem_append_right _ (List.mem_of_getElem? (i := 1565) (by decide +kernel))) (by decide)
set_option maxRecDepth 100000 in
theorem wd_1567 : (Cond.instanceMethod ({ cls := "LeagueLevelsModel", name := "goesUp", desc := "(I)V" } : MethodName)) ∈ llTb := llTb_of (List.mem_append_right _ (List.mem_of_getElem? (i := 1567) (by decide +kernel))) (by decide)
set_option maxRecDepth 100000 in
theorem wd_1568 : (Cond.code ({ cls := "LeagueLevelsModel", name := "goesUp", desc := "(I)V" } : MethodName) prog_14_method_57_code (3 : Nat) (Option.none : Option ClassFile.FieldType)) ∈ llTb := llTb_of (List.mem_append_right _ (List.mem_of_getElem? (i := 1568) (by exact rfl))) (by decide)
set_option maxRecDepth 100000 in
theorem wd_1569 : (Cond.methodLink "LeagueLevelsModel" (364 : Nat) ({ cls := "LeagueLevelsModel", name := "levelThen", desc := "(I)I" } : MethodName)) ∈ llTb := llTb_of (List.mem_append_right _ (List.mem_of_getElem? (i := 1569) (by decide +kernel))) (by decide)
set_option maxRecDepth 100000 in
theorem wd_1571 : (Cond.instanceMethod ({ cls := "LeagueLevelsModel", name := "levelThen", desc := "(I)I" } : MethodName)) ∈ llTb := llTb_of (List.mem_append_right _ (List.mem_of_getElem? (i := 1571) (by decide +kernel))) (by decide)
set_option maxRecDepth 100000 in
theorem wd_1572 : (Cond.code ({ cls := "LeagueLevelsModel", name := "levelThen", desc := "(I)I" } : MethodName) prog_14_method_60_code (2 : Nat) (Option.some ClassFile.FieldType.int)) ∈ llTb := llTb_of (List.mem_append_right _ (List.mem_of_getElem? (i := 1572) (by exact rfl))) (by decide)
set_option maxRecDepth 100000 in
theorem wd_1573 : (Cond.methodLink "LeagueLevelsModel" (367 : Nat) ({ cls := "LeagueLevelsModel", name := "laysParts", desc := "(I)V" } : MethodName)) ∈ llTb := llTb_of (List.mem_append_right _ (List.mem_of_getElem? (i := 1573) (by decide +kernel))) (by decide)
set_option maxRecDepth 100000 in
theorem wd_1575 : (Cond.instanceMethod ({ cls := "LeagueLevelsModel", name := "laysParts", desc := "(I)V" } : MethodName)) ∈ llTb := llTb_of (List.mem_append_right _ (List.mem_of_getElem? (i := 1575) (by decide +kernel))) (by decide)
set_option maxRecDepth 100000 in
theorem wd_1576 : (Cond.code ({ cls := "LeagueLevelsModel", name := "laysParts", desc := "(I)V" } : MethodName) prog_14_method_52_code (4 : Nat) (Option.none : Option ClassFile.FieldType)) ∈ llTb := llTb_of (List.mem_append_right _ (List.mem_of_getElem? (i := 1576) (by exact rfl))) (by decide)
set_option maxRecDepth 100000 in
theorem wd_1577 : (Cond.methodLink "LeagueLevelsModel" (320 : Nat) ({ cls := "LeagueLevelsModel", name := "miles", desc := "(II)I" } : MethodName)) ∈ llTb := llTb_of (List.mem_append_right _ (List.mem_of_getElem? (i := 1577) (by decide +kernel))) (by decide)
set_option maxRecDepth 100000 in
theorem wd_1579 : (Cond.instanceMethod ({ cls := "LeagueLevelsModel", name := "miles", desc := "(II)I" } : MethodName)) ∈ llTb := llTb_of (List.mem_append_right _ (List.mem_of_getElem? (i := 1579) (by decide +kernel))) (by decide)
set_option maxRecDepth 100000 in
theorem wd_1580 : (Cond.code ({ cls := "LeagueLevelsModel", name := "miles", desc := "(II)I" } : MethodName) prog_14_method_49_code (5 : Nat) (Option.some ClassFile.FieldType.int)) ∈ llTb := llTb_of (List.mem_append_right _ (List.mem_of_getElem? (i := 1580) (by exact rfl))) (by decide)
set_option maxRecDepth 100000 in
theorem wd_1581 : (Cond.methodLink "LeagueLevelsModel" (335 : Nat) ({ cls := "LeagueLevelsModel", name := "fills", desc := "(IIII)V" } : MethodName)) ∈ llTb := llTb_of (List.mem_append_right _ (List.mem_of_getElem? (i := 1581) (by decide +kernel))) (by decide)
set_option maxRecDepth 100000 in
theorem wd_1583 : (Cond.instanceMethod ({ cls := "LeagueLevelsModel", name := "fills", desc := "(IIII)V" } : MethodName)) ∈ llTb := llTb_of (List.mem_append_right _ (List.mem_of_getElem? (i := 1583) (by decide +kernel))) (by decide)
set_option maxRecDepth 100000 in
theorem wd_1584 : (Cond.code ({ cls := "LeagueLevelsModel", name := "fills", desc := "(IIII)V" } : MethodName) prog_14_method_53_code (9 : Nat) (Option.none : Option ClassFile.FieldType)) ∈ llTb := llTb_of (List.mem_append_right _ (List.mem_of_getElem? (i := 1584) (by exact rfl))) (by decide)
set_option maxRecDepth 100000 in
theorem wd_1586 : (Cond.instanceMethod ({ cls := "LeagueLevelsModel", name := "club", desc := "(II)I" } : MethodName)) ∈ llTb := llTb_of (List.mem_append_right _ (List.mem_of_getElem? (i := 1586) (by decide +kernel))) (by decide)
set_option maxRecDepth 100000 in
theorem wd_1587 : (Cond.selects "LeagueLevelsModel" ({ cls := "LeagueLevelsModel", name := "club", desc := "(II)I" } : MethodName) ({ cls := "LeagueLevelsModel", name := "club", desc := "(II)I" } : MethodName)) ∈ llTb := llTb_of (List.mem_append_right _ (List.mem_of_getElem? (i := 1587) (by decide +kernel))) (by decide)
set_option maxRecDepth 100000 in
theorem wd_1588 : (Cond.code ({ cls := "LeagueLevelsModel", name := "club", desc := "(II)I" } : MethodName) prog_14_method_62_code (3 : Nat) (Option.some ClassFile.FieldType.int)) ∈ llTb := llTb_of (List.mem_append_right _ (List.mem_of_getElem? (i := 1588) (by exact rfl))) (by decide)
set_option maxRecDepth 100000 in
theorem wd_1590 : (Cond.instanceMethod ({ cls := "LeagueLevelsModel", name := "of", desc := "(II)I" } : MethodName)) ∈ llTb := llTb_of (List.mem_append_right _ (List.mem_of_getElem? (i := 1590) (by decide +kernel))) (by decide)
set_option maxRecDepth 100000 in
theorem wd_1591 : (Cond.selects "LeagueLevelsModel" ({ cls := "LeagueLevelsModel", name := "of", desc := "(II)I" } : MethodName) ({ cls := "LeagueLevelsModel", name := "of", desc := "(II)I" } : MethodName)) ∈ llTb := llTb_of (List.mem_append_right _ (List.mem_of_getElem? (i := 1591) (by decide +kernel))) (by decide)
set_option maxRecDepth 100000 in
theorem wd_1592 : (Cond.code ({ cls := "LeagueLevelsModel", name := "of", desc := "(II)I" } : MethodName) prog_14_method_63_code (4 : Nat) (Option.some ClassFile.FieldType.int)) ∈ llTb := llTb_of (List.mem_append_right _ (List.mem_of_getElem? (i := 1592) (by exact rfl))) (by decide)
set_option maxRecDepth 100000 in
theorem wd_1593 : (Cond.constantLong "LeagueLevelsModel" (370 : Nat) (7 : Int64)) ∈ llTb := llTb_of (List.mem_append_right _ (List.mem_of_getElem? (i := 1593) (by decide +kernel))) (by decide)
set_option maxRecDepth 100000 in
theorem wd_1594 : (Cond.methodLink "LeagueLevelsModel" (323 : Nat) ({ cls := "LeagueLevelsModel", name := "milesIn", desc := "(III)I" } : MethodName)) ∈ llTb := llTb_of (List.mem_append_right _ (List.mem_of_getElem? (i := 1594) (by decide +kernel))) (by decide)
set_option maxRecDepth 100000 in
theorem wd_1596 : (Cond.instanceMethod ({ cls := "LeagueLevelsModel", name := "milesIn", desc := "(III)I" } : MethodName)) ∈ llTb := llTb_of (List.mem_append_right _ (List.mem_of_getElem? (i := 1596) (by decide +kernel))) (by decide)
set_option maxRecDepth 100000 in
theorem wd_1597 : (Cond.code ({ cls := "LeagueLevelsModel", name := "milesIn", desc := "(III)I" } : MethodName) prog_14_method_50_code (6 : Nat) (Option.some ClassFile.FieldType.int)) ∈ llTb := llTb_of (List.mem_append_right _ (List.mem_of_getElem? (i := 1597) (by exact rfl))) (by decide)
set_option maxRecDepth 100000 in
theorem wd_1599 : (Cond.instanceMethod ({ cls := "LeagueLevelsModel", name := "points", desc := "(I)I" } : MethodName)) ∈ llTb := llTb_of (List.mem_append_right _ (List.mem_of_getElem? (i := 1599) (by decide +kernel))) (by decide)
set_option maxRecDepth 100000 in
theorem wd_1600 : (Cond.selects "LeagueLevelsModel" ({ cls := "LeagueLevelsModel", name := "points", desc := "(I)I" } : MethodName) ({ cls := "LeagueLevelsModel", name := "points", desc := "(I)I" } : MethodName)) ∈ llTb := llTb_of (List.mem_append_right _ (List.mem_of_getElem? (i := 1600) (by decide +kernel))) (by decide)
set_option maxRecDepth 100000 in
theorem wd_1601 : (Cond.code ({ cls := "LeagueLevelsModel", name := "points", desc := "(I)I" } : MethodName) prog_14_method_64_code (2 : Nat) (Option.some ClassFile.FieldType.int)) ∈ llTb := llTb_of (List.mem_append_right _ (List.mem_of_getElem? (i := 1601) (by exact rfl))) (by decide)
set_option maxRecDepth 100000 in
theorem wd_1602 : (Cond.constant "LeagueLevelsModel" (374 : Nat) (-2147483648 : Int32)) ∈ llTb := llTb_of (List.mem_append_right _ (List.mem_of_getElem? (i := 1602) (by decide +kernel))) (by decide)
set_option maxRecDepth 100000 in
theorem wd_1604 : (Cond.instanceMethod ({ cls := "LeagueLevelsModel", name := "average", desc := "(I)I" } : MethodName)) ∈ llTb := llTb_of (List.mem_append_right _ (List.mem_of_getElem? (i := 1604) (by decide +kernel))) (by decide)
set_option maxRecDepth 100000 in
theorem wd_1605 : (Cond.selects "LeagueLevelsModel" ({ cls := "LeagueLevelsModel", name := "average", desc := "(I)I" } : MethodName) ({ cls := "LeagueLevelsModel", name := "average", desc := "(I)I" } : MethodName)) ∈ llTb := llTb_of (List.mem_append_right _ (List.mem_of_getElem? (i := 1605) (by decide +kernel))) (by decide)
set_option maxRecDepth 100000 in
theorem wd_1606 : (Cond.code ({ cls := "LeagueLevelsModel", name := "average", desc := "(I)I" } : MethodName) prog_14_method_65_code (2 : Nat) (Option.some ClassFile.FieldType.int)) ∈ llTb := llTb_of (List.mem_append_right _ (List.mem_of_getElem? (i := 1606) (by exact rfl))) (by decide)
set_option maxRecDepth 100000 in
theorem wd_1607 : (Cond.methodLink "LeagueLevelsModel" (375 : Nat) ({ cls := "java/lang/Float", name := "floatToIntBits", desc := "(F)I" } : MethodName)) ∈ llTb := llTb_of (List.mem_append_right _ (List.mem_of_getElem? (i := 1607) (by decide +kernel))) (by decide)
set_option maxRecDepth 100000 in
theorem wd_1608 : (Cond.static ({ cls := "java/lang/Float", name := "floatToIntBits", desc := "(F)I" } : MethodName)) ∈ llTb := llTb_of (List.mem_append_right _ (List.mem_of_getElem? (i := 1608) (by decide +kernel))) (by decide)
set_option maxRecDepth 100000 in
theorem wd_1609 : (Cond.code ({ cls := "java/lang/Float", name := "floatToIntBits", desc := "(F)I" } : MethodName) prog_16_method_24_code (1 : Nat) (Option.some ClassFile.FieldType.int)) ∈ llTb := llTb_of (List.mem_append_right _ (List.mem_of_getElem? (i := 1609) (by exact rfl))) (by decide)
set_option maxRecDepth 100000 in
theorem wd_1610 : (Cond.methodLink "java/lang/Float" (59 : Nat) ({ cls := "java/lang/Float", name := "isNaN", desc := "(F)Z" } : MethodName)) ∈ llTb := llTb_of (List.mem_append_right _ (List.mem_of_getElem? (i := 1610) (by decide +kernel))) (by decide)
set_option maxRecDepth 100000 in
theorem wd_1611 : (Cond.static ({ cls := "java/lang/Float", name := "isNaN", desc := "(F)Z" } : MethodName)) ∈ llTb := llTb_of (List.mem_append_right _ (List.mem_of_getElem? (i := 1611) (by decide +kernel))) (by decide)
set_option maxRecDepth 100000 in
theorem wd_1612 : (Cond.code ({ cls := "java/lang/Float", name := "isNaN", desc := "(F)Z" } : MethodName) prog_16_method_6_code (1 : Nat) (Option.some ClassFile.FieldType.boolean)) ∈ llTb := llTb_of (List.mem_append_right _ (List.mem_of_getElem? (i := 1612) (by exact rfl))) (by decide)
set_option maxRecDepth 100000 in
theorem wd_1613 : (Cond.methodLink "java/lang/Float" (74 : Nat) ({ cls := "java/lang/Float", name := "floatToRawIntBits", desc := "(F)I" } : MethodName)) ∈ llTb := llTb_of (List.mem_append_right _ (List.mem_of_getElem? (i := 1613) (by decide +kernel))) (by decide)
set_option maxRecDepth 100000 in
theorem wd_1614 : (Cond.static ({ cls := "java/lang/Float", name := "floatToRawIntBits", desc := "(F)I" } : MethodName)) ∈ llTb := llTb_of (List.mem_append_right _ (List.mem_of_getElem? (i := 1614) (by decide +kernel))) (by decide)
set_option maxRecDepth 100000 in
theorem wd_1615 : (Cond.native ({ cls := "java/lang/Float", name := "floatToRawIntBits", desc := "(F)I" } : MethodName)) ∈ llTb := llTb_of (List.mem_append_right _ (List.mem_of_getElem? (i := 1615) (by decide +kernel))) (by decide)
set_option maxRecDepth 100000 in
theorem wd_1616 : (Cond.constant "java/lang/Float" (77 : Nat) (2143289344 : Int32)) ∈ llTb := llTb_of (List.mem_append_right _ (List.mem_of_getElem? (i := 1616) (by decide +kernel))) (by decide)
set_option maxRecDepth 100000 in
theorem wd_1618 : (Cond.instanceMethod ({ cls := "LeagueLevelsModel", name := "ranked", desc := "(III)I" } : MethodName)) ∈ llTb := llTb_of (List.mem_append_right _ (List.mem_of_getElem? (i := 1618) (by decide +kernel))) (by decide)
set_option maxRecDepth 100000 in
theorem wd_1619 : (Cond.selects "LeagueLevelsModel" ({ cls := "LeagueLevelsModel", name := "ranked", desc := "(III)I" } : MethodName) ({ cls := "LeagueLevelsModel", name := "ranked", desc := "(III)I" } : MethodName)) ∈ llTb := llTb_of (List.mem_append_right _ (List.mem_of_getElem? (i := 1619) (by decide +kernel))) (by decide)
set_option maxRecDepth 100000 in
theorem wd_1620 : (Cond.code ({ cls := "LeagueLevelsModel", name := "ranked", desc := "(III)I" } : MethodName) prog_14_method_68_code (5 : Nat) (Option.some ClassFile.FieldType.int)) ∈ llTb := llTb_of (List.mem_append_right _ (List.mem_of_getElem? (i := 1620) (by exact rfl))) (by decide)
set_option maxRecDepth 100000 in
theorem wd_1621 : (Cond.methodLink "LeagueLevelsModel" (384 : Nat) ({ cls := "LeagueLevelsModel", name := "isDivision", desc := "(II)Z" } : MethodName)) ∈ llTb := llTb_of (List.mem_append_right _ (List.mem_of_getElem? (i := 1621) (by decide +kernel))) (by decide)
set_option maxRecDepth 100000 in
theorem wd_1623 : (Cond.instanceMethod ({ cls := "LeagueLevelsModel", name := "isDivision", desc := "(II)Z" } : MethodName)) ∈ llTb := llTb_of (List.mem_append_right _ (List.mem_of_getElem? (i := 1623) (by decide +kernel))) (by decide)
set_option maxRecDepth 100000 in
theorem wd_1624 : (Cond.code ({ cls := "LeagueLevelsModel", name := "isDivision", desc := "(II)Z" } : MethodName) prog_14_method_67_code (3 : Nat) (Option.some ClassFile.FieldType.boolean)) ∈ llTb := llTb_of (List.mem_append_right _ (List.mem_of_getElem? (i := 1624) (by exact rfl))) (by decide)
set_option maxRecDepth 100000 in
theorem wd_1625 : (Cond.methodLink "LeagueLevelsModel" (381 : Nat) ({ cls := "LeagueLevelsModel", name := "isLevel", desc := "(I)Z" } : MethodName)) ∈ llTb := llTb_of (List.mem_append_right _ (List.mem_of_getElem? (i := 1625) (by decide +kernel))) (by decide)
set_option maxRecDepth 100000 in
theorem wd_1627 : (Cond.instanceMethod ({ cls := "LeagueLevelsModel", name := "isLevel", desc := "(I)Z" } : MethodName)) ∈ llTb := llTb_of (List.mem_append_right _ (List.mem_of_getElem? (i := 1627) (by decide +kernel))) (by decide)
set_option maxRecDepth 100000 in
theorem wd_1628 : (Cond.code ({ cls := "LeagueLevelsModel", name := "isLevel", desc := "(I)Z" } : MethodName) prog_14_method_66_code (2 : Nat) (Option.some ClassFile.FieldType.boolean)) ∈ llTb := llTb_of (List.mem_append_right _ (List.mem_of_getElem? (i := 1628) (by exact rfl))) (by decide)
set_option maxRecDepth 100000 in
theorem wd_1630 : (Cond.instanceMethod ({ cls := "LeagueLevelsModel", name := "order", desc := "(II)I" } : MethodName)) ∈ llTb := llTb_of (List.mem_append_right _ (List.mem_of_getElem? (i := 1630) (by decide +kernel))) (by decide)
set_option maxRecDepth 100000 in
theorem wd_1631 : (Cond.selects "LeagueLevelsModel" ({ cls := "LeagueLevelsModel", name := "order", desc := "(II)I" } : MethodName) ({ cls := "LeagueLevelsModel", name := "order", desc := "(II)I" } : MethodName)) ∈ llTb := llTb_of (List.mem_append_right _ (List.mem_of_getElem? (i := 1631) (by decide +kernel))) (by decide)
set_option maxRecDepth 100000 in
theorem wd_1632 : (Cond.code ({ cls := "LeagueLevelsModel", name := "order", desc := "(II)I" } : MethodName) prog_14_method_69_code (3 : Nat) (Option.some ClassFile.FieldType.int)) ∈ llTb := llTb_of (List.mem_append_right _ (List.mem_of_getElem? (i := 1632) (by exact rfl))) (by decide)
set_option maxRecDepth 100000 in
theorem wd_1634 : (Cond.instanceMethod ({ cls := "LeagueLevelsModel", name := "level", desc := "(II)I" } : MethodName)) ∈ llTb := llTb_of (List.mem_append_right _ (List.mem_of_getElem? (i := 1634) (by decide +kernel))) (by decide)
set_option maxRecDepth 100000 in
theorem wd_1635 : (Cond.selects "LeagueLevelsModel" ({ cls := "LeagueLevelsModel", name := "level", desc := "(II)I" } : MethodName) ({ cls := "LeagueLevelsModel", name := "level", desc := "(II)I" } : MethodName)) ∈ llTb := llTb_of (List.mem_append_right _ (List.mem_of_getElem? (i := 1635) (by decide +kernel))) (by decide)
set_option maxRecDepth 100000 in
theorem wd_1636 : (Cond.code ({ cls := "LeagueLevelsModel", name := "level", desc := "(II)I" } : MethodName) prog_14_method_70_code (5 : Nat) (Option.some ClassFile.FieldType.int)) ∈ llTb := llTb_of (List.mem_append_right _ (List.mem_of_getElem? (i := 1636) (by exact rfl))) (by decide)
set_option maxRecDepth 100000 in
theorem wd_1637 : (Cond.methodLink "LeagueLevelsModel" (387 : Nat) ({ cls := "LeagueLevelsModel", name := "milesOf", desc := "(II)I" } : MethodName)) ∈ llTb := llTb_of (List.mem_append_right _ (List.mem_of_getElem? (i := 1637) (by decide +kernel))) (by decide)
set_option maxRecDepth 100000 in
theorem wd_1639 : (Cond.instanceMethod ({ cls := "LeagueLevelsModel", name := "milesOf", desc := "(II)I" } : MethodName)) ∈ llTb := llTb_of (List.mem_append_right _ (List.mem_of_getElem? (i := 1639) (by decide +kernel))) (by decide)
set_option maxRecDepth 100000 in
theorem wd_1640 : (Cond.code ({ cls := "LeagueLevelsModel", name := "milesOf", desc := "(II)I" } : MethodName) prog_14_method_51_code (5 : Nat) (Option.some ClassFile.FieldType.int)) ∈ llTb := llTb_of (List.mem_append_right _ (List.mem_of_getElem? (i := 1640) (by exact rfl))) (by decide)
set_option maxRecDepth 100000 in
theorem wd_1642 : (Cond.instanceMethod ({ cls := "LeagueLevelsModel", name := "moves", desc := "(III)I" } : MethodName)) ∈ llTb := llTb_of (List.mem_append_right _ (List.mem_of_getElem? (i := 1642) (by decide +kernel))) (by decide)
set_option maxRecDepth 100000 in
theorem wd_1643 : (Cond.selects "LeagueLevelsModel" ({ cls := "LeagueLevelsModel", name := "moves", desc := "(III)I" } : MethodName) ({ cls := "LeagueLevelsModel", name := "moves", desc := "(III)I" } : MethodName)) ∈ llTb := llTb_of (List.mem_append_right _ (List.mem_of_getElem? (i := 1643) (by decide +kernel))) (by decide)
set_option maxRecDepth 100000 in
theorem wd_1644 : (Cond.code ({ cls := "LeagueLevelsModel", name := "moves", desc := "(III)I" } : MethodName) prog_14_method_71_code (7 : Nat) (Option.some ClassFile.FieldType.int)) ∈ llTb := llTb_of (List.mem_append_right _ (List.mem_of_getElem? (i := 1644) (by exact rfl))) (by decide)
set_option maxRecDepth 100000 in
theorem wd_1645 : (Cond.constantLong "LeagueLevelsModel" (390 : Nat) (3 : Int64)) ∈ llTb := llTb_of (List.mem_append_right _ (List.mem_of_getElem? (i := 1645) (by decide +kernel))) (by decide)
set_option maxRecDepth 100000 in
theorem wd_1647 : (Cond.instanceMethod ({ cls := "LeagueLevelsModel", name := "would", desc := "(I)I" } : MethodName)) ∈ llTb := llTb_of (List.mem_append_right _ (List.mem_of_getElem? (i := 1647) (by decide +kernel))) (by decide)
set_option maxRecDepth 100000 in
theorem wd_1648 : (Cond.selects "LeagueLevelsModel" ({ cls := "LeagueLevelsModel", name := "would", desc := "(I)I" } : MethodName) ({ cls := "LeagueLevelsModel", name := "would", desc := "(I)I" } : MethodName)) ∈ llTb := llTb_of (List.mem_append_right _ (List.mem_of_getElem? (i := 1648) (by decide +kernel))) (by decide)
set_option maxRecDepth 100000 in
theorem wd_1649 : (Cond.code ({ cls := "LeagueLevelsModel", name := "would", desc := "(I)I" } : MethodName) prog_14_method_72_code (2 : Nat) (Option.some ClassFile.FieldType.int)) ∈ llTb := llTb_of (List.mem_append_right _ (List.mem_of_getElem? (i := 1649) (by exact rfl))) (by decide)
set_option maxRecDepth 100000 in
theorem wd_1651 : (Cond.instanceMethod ({ cls := "LeagueLevelsModel", name := "needs", desc := "(I)I" } : MethodName)) ∈ llTb := llTb_of (List.mem_append_right _ (List.mem_of_getElem? (i := 1651) (by decide +kernel))) (by decide)
set_option maxRecDepth 100000 in
theorem wd_1652 : (Cond.selects "LeagueLevelsModel" ({ cls := "LeagueLevelsModel", name := "needs", desc := "(I)I" } : MethodName) ({ cls := "LeagueLevelsModel", name := "needs", desc := "(I)I" } : MethodName)) ∈ llTb := llTb_of (List.mem_append_right _ (List.mem_of_getElem? (i := 1652) (by decide +kernel))) (by decide)
set_option maxRecDepth 100000 in
theorem wd_1653 : (Cond.code ({ cls := "LeagueLevelsModel", name := "needs", desc := "(I)I" } : MethodName) prog_14_method_73_code (5 : Nat) (Option.some ClassFile.FieldType.int)) ∈ llTb := llTb_of (List.mem_append_right _ (List.mem_of_getElem? (i := 1653) (by exact rfl))) (by decide)
set_option maxRecDepth 100000 in
theorem wd_1655 : (Cond.instanceMethod ({ cls := "LeagueLevelsModel", name := "parted", desc := "(I)I" } : MethodName)) ∈ llTb := llTb_of (List.mem_append_right _ (List.mem_of_getElem? (i := 1655) (by decide +kernel))) (by decide)
set_option maxRecDepth 100000 in
theorem wd_1656 : (Cond.selects "LeagueLevelsModel" ({ cls := "LeagueLevelsModel", name := "parted", desc := "(I)I" } : MethodName) ({ cls := "LeagueLevelsModel", name := "parted", desc := "(I)I" } : MethodName)) ∈ llTb := llTb_of (List.mem_append_right _ (List.mem_of_getElem? (i := 1656) (by decide +kernel))) (by decide)
set_option maxRecDepth 100000 in
theorem wd_1657 : (Cond.code ({ cls := "LeagueLevelsModel", name := "parted", desc := "(I)I" } : MethodName) prog_14_method_74_code (3 : Nat) (Option.some ClassFile.FieldType.int)) ∈ llTb := llTb_of (List.mem_append_right _ (List.mem_of_getElem? (i := 1657) (by exact rfl))) (by decide)
set_option maxRecDepth 100000 in
theorem wd_1659 : (Cond.instanceMethod ({ cls := "LeagueLevelsModel", name := "swap", desc := "(II)I" } : MethodName)) ∈ llTb := llTb_of (List.mem_append_right _ (List.mem_of_getElem? (i := 1659) (by decide +kernel))) (by decide)
set_option maxRecDepth 100000 in
theorem wd_1660 : (Cond.selects "LeagueLevelsModel" ({ cls := "LeagueLevelsModel", name := "swap", desc := "(II)I" } : MethodName) ({ cls := "LeagueLevelsModel", name := "swap", desc := "(II)I" } : MethodName)) ∈ llTb := llTb_of (List.mem_append_right _ (List.mem_of_getElem? (i := 1660) (by decide +kernel))) (by decide)
set_option maxRecDepth 100000 in
theorem wd_1661 : (Cond.code ({ cls := "LeagueLevelsModel", name := "swap", desc := "(II)I" } : MethodName) prog_14_method_75_code (9 : Nat) (Option.some ClassFile.FieldType.int)) ∈ llTb := llTb_of (List.mem_append_right _ (List.mem_of_getElem? (i := 1661) (by exact rfl))) (by decide)
set_option maxRecDepth 100000 in
theorem wd_1662 : (Cond.constantLong "LeagueLevelsModel" (392 : Nat) (2 : Int64)) ∈ llTb := llTb_of (List.mem_append_right _ (List.mem_of_getElem? (i := 1662) (by decide +kernel))) (by decide)
set_option maxRecDepth 100000 in
theorem wd_1664 : (Cond.instanceMethod ({ cls := "LeagueLevelsModel", name := "middle", desc := "(I)I" } : MethodName)) ∈ llTb := llTb_of (List.mem_append_right _ (List.mem_of_getElem? (i := 1664) (by decide +kernel))) (by decide)
set_option maxRecDepth 100000 in
theorem wd_1665 : (Cond.selects "LeagueLevelsModel" ({ cls := "LeagueLevelsModel", name := "middle", desc := "(I)I" } : MethodName) ({ cls := "LeagueLevelsModel", name := "middle", desc := "(I)I" } : MethodName)) ∈ llTb := llTb_of (List.mem_append_right _ (List.mem_of_getElem? (i := 1665) (by decide +kernel))) (by decide)
set_option maxRecDepth 100000 in
theorem wd_1666 : (Cond.code ({ cls := "LeagueLevelsModel", name := "middle", desc := "(I)I" } : MethodName) prog_14_method_77_code (4 : Nat) (Option.some ClassFile.FieldType.int)) ∈ llTb := llTb_of (List.mem_append_right _ (List.mem_of_getElem? (i := 1666) (by exact rfl))) (by decide)
set_option maxRecDepth 100000 in
theorem wd_1667 : (Cond.methodLink "LeagueLevelsModel" (394 : Nat) ({ cls := "LeagueLevelsModel", name := "milesAll", desc := "(I)I" } : MethodName)) ∈ llTb := llTb_of (List.mem_append_right _ (List.mem_of_getElem? (i := 1667) (by decide +kernel))) (by decide)
set_option maxRecDepth 100000 in
theorem wd_1669 : (Cond.instanceMethod ({ cls := "LeagueLevelsModel", name := "milesAll", desc := "(I)I" } : MethodName)) ∈ llTb := llTb_of (List.mem_append_right _ (List.mem_of_getElem? (i := 1669) (by decide +kernel))) (by decide)
set_option maxRecDepth 100000 in
theorem wd_1670 : (Cond.code ({ cls := "LeagueLevelsModel", name := "milesAll", desc := "(I)I" } : MethodName) prog_14_method_76_code (4 : Nat) (Option.some ClassFile.FieldType.int)) ∈ llTb := llTb_of (List.mem_append_right _ (List.mem_of_getElem? (i := 1670) (by exact rfl))) (by decide)
set_option maxRecDepth 100000 in
theorem wd_1672 : (Cond.instanceMethod ({ cls := "LeagueLevelsModel", name := "rest", desc := "(II)J" } : MethodName)) ∈ llTb := llTb_of (List.mem_append_right _ (List.mem_of_getElem? (i := 1672) (by decide +kernel))) (by decide)
set_option maxRecDepth 100000 in
theorem wd_1673 : (Cond.selects "LeagueLevelsModel" ({ cls := "LeagueLevelsModel", name := "rest", desc := "(II)J" } : MethodName) ({ cls := "LeagueLevelsModel", name := "rest", desc := "(II)J" } : MethodName)) ∈ llTb := llTb_of (List.mem_append_right _ (List.mem_of_getElem? (i := 1673) (by decide +kernel))) (by decide)
set_option maxRecDepth 100000 in
theorem wd_1674 : (Cond.code ({ cls := "LeagueLevelsModel", name := "rest", desc := "(II)J" } : MethodName) prog_14_method_78_code (5 : Nat) (Option.some ClassFile.FieldType.long)) ∈ llTb := llTb_of (List.mem_append_right _ (List.mem_of_getElem? (i := 1674) (by exact rfl))) (by decide)
set_option maxRecDepth 100000 in
theorem wd_1675 : (Cond.constantLong "LeagueLevelsModel" (397 : Nat) (-1 : Int64)) ∈ llTb := llTb_of (List.mem_append_right _ (List.mem_of_getElem? (i := 1675) (by decide +kernel))) (by decide)
set_option maxRecDepth 100000 in
theorem wd_1676 : (Cond.methodLink "LeagueLevelsModel" (399 : Nat) ({ cls := "java/lang/Double", name := "doubleToLongBits", desc := "(D)J" } : MethodName)) ∈ llTb := llTb_of (List.mem_append_right _ (List.mem_of_getElem? (i := 1676) (by decide +kernel))) (by decide)
set_option maxRecDepth 100000 in
theorem wd_1677 : (Cond.static ({ cls := "java/lang/Double", name := "doubleToLongBits", desc := "(D)J" } : MethodName)) ∈ llTb := llTb_of (List.mem_append_right _ (List.mem_of_getElem? (i := 1677) (by decide +kernel))) (by decide)
set_option maxRecDepth 100000 in
theorem wd_1678 : (Cond.code ({ cls := "java/lang/Double", name := "doubleToLongBits", desc := "(D)J" } : MethodName) prog_15_method_23_code (2 : Nat) (Option.some ClassFile.FieldType.long)) ∈ llTb := llTb_of (List.mem_append_right _ (List.mem_of_getElem? (i := 1678) (by exact rfl))) (by decide)
set_option maxRecDepth 100000 in
theorem wd_1679 : (Cond.methodLink "java/lang/Double" (122 : Nat) ({ cls := "java/lang/Double", name := "isNaN", desc := "(D)Z" } : MethodName)) ∈ llTb := llTb_of (List.mem_append_right _ (List.mem_of_getElem? (i := 1679) (by decide +kernel))) (by decide)
set_option maxRecDepth 100000 in
theorem wd_1680 : (Cond.static ({ cls := "java/lang/Double", name := "isNaN", desc := "(D)Z" } : MethodName)) ∈ llTb := llTb_of (List.mem_append_right _ (List.mem_of_getElem? (i := 1680) (by decide +kernel))) (by decide)
set_option maxRecDepth 100000 in
theorem wd_1681 : (Cond.code ({ cls := "java/lang/Double", name := "isNaN", desc := "(D)Z" } : MethodName) prog_15_method_6_code (2 : Nat) (Option.some ClassFile.FieldType.boolean)) ∈ llTb := llTb_of (List.mem_append_right _ (List.mem_of_getElem? (i := 1681) (by exact rfl))) (by decide)
set_option maxRecDepth 100000 in
theorem wd_1682 : (Cond.methodLink "java/lang/Double" (134 : Nat) ({ cls := "java/lang/Double", name := "doubleToRawLongBits", desc := "(D)J" } : MethodName)) ∈ llTb := llTb_of (List.mem_append_right _ (List.mem_of_getElem? (i := 1682) (by decide +kernel))) (by decide)
set_option maxRecDepth 100000 in
theorem wd_1683 : (Cond.static ({ cls := "java/lang/Double", name := "doubleToRawLongBits", desc := "(D)J" } : MethodName)) ∈ llTb := llTb_of (List.mem_append_right _ (List.mem_of_getElem? (i := 1683) (by decide +kernel))) (by decide)
set_option maxRecDepth 100000 in
theorem wd_1684 : (Cond.native ({ cls := "java/lang/Double", name := "doubleToRawLongBits", desc := "(D)J" } : MethodName)) ∈ llTb := llTb_of (List.mem_append_right _ (List.mem_of_getElem? (i := 1684) (by decide +kernel))) (by decide)
set_option maxRecDepth 100000 in
theorem wd_1685 : (Cond.constantLong "java/lang/Double" (137 : Nat) (9221120237041090560 : Int64)) ∈ llTb := llTb_of (List.mem_append_right _ (List.mem_of_getElem? (i := 1685) (by decide +kernel))) (by decide)
set_option maxRecDepth 100000 in
theorem wd_1687 : (Cond.instanceMethod ({ cls := "LeagueLevelsModel", name := "match", desc := "(III)I" } : MethodName)) ∈ llTb := llTb_of (List.mem_append_right _ (List.mem_of_getElem? (i := 1687) (by decide +kernel))) (by decide)
set_option maxRecDepth 100000 in
theorem wd_1688 : (Cond.selects "LeagueLevelsModel" ({ cls := "LeagueLevelsModel", name := "match", desc := "(III)I" } : MethodName) ({ cls := "LeagueLevelsModel", name := "match", desc := "(III)I" } : MethodName)) ∈ llTb := llTb_of (List.mem_append_right _ (List.mem_of_getElem? (i := 1688) (by decide +kernel))) (by decide)
set_option maxRecDepth 100000 in
theorem wd_1689 : (Cond.code ({ cls := "LeagueLevelsModel", name := "match", desc := "(III)I" } : MethodName) prog_14_method_79_code (4 : Nat) (Option.some ClassFile.FieldType.int)) ∈ llTb := llTb_of (List.mem_append_right _ (List.mem_of_getElem? (i := 1689) (by exact rfl))) (by decide)
set_option maxRecDepth 100000 in
theorem wd_1691 : (Cond.instanceMethod ({ cls := "LeagueLevelsModel", name := "above", desc := "(I)I" } : MethodName)) ∈ llTb := llTb_of (List.mem_append_right _ (List.mem_of_getElem? (i := 1691) (by decide +kernel))) (by decide)
set_option maxRecDepth 100000 in
theorem wd_1692 : (Cond.selects "LeagueLevelsModel" ({ cls := "LeagueLevelsModel", name := "above", desc := "(I)I" } : MethodName) ({ cls := "LeagueLevelsModel", name := "above", desc := "(I)I" } : MethodName)) ∈ llTb := llTb_of (List.mem_append_right _ (List.mem_of_getElem? (i := 1692) (by decide +kernel))) (by decide)
set_option maxRecDepth 100000 in
theorem wd_1693 : (Cond.code ({ cls := "LeagueLevelsModel", name := "above", desc := "(I)I" } : MethodName) prog_14_method_80_code (6 : Nat) (Option.some ClassFile.FieldType.int)) ∈ llTb := llTb_of (List.mem_append_right _ (List.mem_of_getElem? (i := 1693) (by exact rfl))) (by decide)
set_option maxRecDepth 100000 in
theorem wd_1695 : (Cond.instanceMethod ({ cls := "LeagueLevelsModel", name := "journeys", desc := "(I)I" } : MethodName)) ∈ llTb := llTb_of (List.mem_append_right _ (List.mem_of_getElem? (i := 1695) (by decide +kernel))) (by decide)
set_option maxRecDepth 100000 in
theorem wd_1696 : (Cond.selects "LeagueLevelsModel" ({ cls := "LeagueLevelsModel", name := "journeys", desc := "(I)I" } : MethodName) ({ cls := "LeagueLevelsModel", name := "journeys", desc := "(I)I" } : MethodName)) ∈ llTb := llTb_of (List.mem_append_right _ (List.mem_of_getElem? (i := 1696) (by decide +kernel))) (by decide)
set_option maxRecDepth 100000 in
theorem wd_1697 : (Cond.code ({ cls := "LeagueLevelsModel", name := "journeys", desc := "(I)I" } : MethodName) prog_14_method_81_code (4 : Nat) (Option.some ClassFile.FieldType.int)) ∈ llTb := llTb_of (List.mem_append_right _ (List.mem_of_getElem? (i := 1697) (by exact rfl))) (by decide)
set_option maxRecDepth 100000 in
theorem wd_1699 : (Cond.instanceMethod ({ cls := "LeagueLevelsModel", name := "nearest", desc := "(I)I" } : MethodName)) ∈ llTb := llTb_of (List.mem_append_right _ (List.mem_of_getElem? (i := 1699) (by decide +kernel))) (by decide)
set_option maxRecDepth 100000 in
theorem wd_1700 : (Cond.selects "LeagueLevelsModel" ({ cls := "LeagueLevelsModel", name := "nearest", desc := "(I)I" } : MethodName) ({ cls := "LeagueLevelsModel", name := "nearest", desc := "(I)I" } : MethodName)) ∈ llTb := llTb_of (List.mem_append_right _ (List.mem_of_getElem? (i := 1700) (by decide +kernel))) (by decide)
set_option maxRecDepth 100000 in
theorem wd_1701 : (Cond.code ({ cls := "LeagueLevelsModel", name := "nearest", desc := "(I)I" } : MethodName) prog_14_method_82_code (4 : Nat) (Option.some ClassFile.FieldType.int)) ∈ llTb := llTb_of (List.mem_append_right _ (List.mem_of_getElem? (i := 1701) (by exact rfl))) (by decide)
set_option maxRecDepth 100000 in
theorem wd_1703 : (Cond.instanceMethod ({ cls := "LeagueLevelsModel", name := "versus", desc := "(II)I" } : MethodName)) ∈ llTb := llTb_of (List.mem_append_right _ (List.mem_of_getElem? (i := 1703) (by decide +kernel))) (by decide)
set_option maxRecDepth 100000 in
theorem wd_1704 : (Cond.selects "LeagueLevelsModel" ({ cls := "LeagueLevelsModel", name := "versus", desc := "(II)I" } : MethodName) ({ cls := "LeagueLevelsModel", name := "versus", desc := "(II)I" } : MethodName)) ∈ llTb := llTb_of (List.mem_append_right _ (List.mem_of_getElem? (i := 1704) (by decide +kernel))) (by decide)
set_option maxRecDepth 100000 in
theorem wd_1705 : (Cond.code ({ cls := "LeagueLevelsModel", name := "versus", desc := "(II)I" } : MethodName) prog_14_method_83_code (6 : Nat) (Option.some ClassFile.FieldType.int)) ∈ llTb := llTb_of (List.mem_append_right _ (List.mem_of_getElem? (i := 1705) (by exact rfl))) (by decide)
set_option maxRecDepth 100000 in
theorem wd_1706 : (Cond.methodLink "LeagueLevelsModel" (405 : Nat) ({ cls := "LeagueLevelsModel", name := "gains", desc := "(II)I" } : MethodName)) ∈ llTb := llTb_of (List.mem_append_right _ (List.mem_of_getElem? (i := 1706) (by decide +kernel))) (by decide)
set_option maxRecDepth 100000 in
theorem wd_1707 : (Cond.static ({ cls := "LeagueLevelsModel", name := "gains", desc := "(II)I" } : MethodName)) ∈ llTb := llTb_of (List.mem_append_right _ (List.mem_of_getElem? (i := 1707) (by decide +kernel))) (by decide)
set_option maxRecDepth 100000 in
theorem wd_1708 : (Cond.code ({ cls := "LeagueLevelsModel", name := "gains", desc := "(II)I" } : MethodName) prog_14_method_40_code (2 : Nat) (Option.some ClassFile.FieldType.int)) ∈ llTb := llTb_of (List.mem_append_right _ (List.mem_of_getElem? (i := 1708) (by exact rfl))) (by decide)
set_option maxRecDepth 100000 in
theorem wd_1710 : (Cond.instanceMethod ({ cls := "LeagueLevelsModel", name := "strangers", desc := "(I)I" } : MethodName)) ∈ llTb := llTb_of (List.mem_append_right _ (List.mem_of_getElem? (i := 1710) (by decide +kernel))) (by decide)
set_option maxRecDepth 100000 in
theorem wd_1711 : (Cond.selects "LeagueLevelsModel" ({ cls := "LeagueLevelsModel", name := "strangers", desc := "(I)I" } : MethodName) ({ cls := "LeagueLevelsModel", name := "strangers", desc := "(I)I" } : MethodName)) ∈ llTb := llTb_of (List.mem_append_right _ (List.mem_of_getElem? (i := 1711) (by decide +kernel))) (by decide)
set_option maxRecDepth 100000 in
theorem wd_1712 : (Cond.code ({ cls := "LeagueLevelsModel", name := "strangers", desc := "(I)I" } : MethodName) prog_14_method_84_code (6 : Nat) (Option.some ClassFile.FieldType.int)) ∈ llTb := llTb_of (List.mem_append_right _ (List.mem_of_getElem? (i := 1712) (by exact rfl))) (by decide)
set_option maxRecDepth 100000 in
theorem wd_1714 : (Cond.instanceMethod ({ cls := "LeagueLevelsModel", name := "show", desc := "(II)I" } : MethodName)) ∈ llTb := llTb_of (List.mem_append_right _ (List.mem_of_getElem? (i := 1714) (by decide +kernel))) (by decide)
set_option maxRecDepth 100000 in
theorem wd_1715 : (Cond.selects "LeagueLevelsModel" ({ cls := "LeagueLevelsModel", name := "show", desc := "(II)I" } : MethodName) ({ cls := "LeagueLevelsModel", name := "show", desc := "(II)I" } : MethodName)) ∈ llTb := llTb_of (List.mem_append_right _ (List.mem_of_getElem? (i := 1715) (by decide +kernel))) (by decide)
set_option maxRecDepth 100000 in
theorem wd_1716 : (Cond.code ({ cls := "LeagueLevelsModel", name := "show", desc := "(II)I" } : MethodName) prog_14_method_87_code (6 : Nat) (Option.some ClassFile.FieldType.int)) ∈ llTb := llTb_of (List.mem_append_right _ (List.mem_of_getElem? (i := 1716) (by exact rfl))) (by decide)
set_option maxRecDepth 100000 in
theorem wd_1717 : (Cond.methodLink "LeagueLevelsModel" (414 : Nat) ({ cls := "LeagueLevelsModel", name := "ranked", desc := "(III)I" } : MethodName)) ∈ llTb := llTb_of (List.mem_append_right _ (List.mem_of_getElem? (i := 1717) (by decide +kernel))) (by decide)
set_option maxRecDepth 100000 in
theorem wd_1718 : (Cond.constantLong "LeagueLevelsModel" (417 : Nat) (31 : Int64)) ∈ llTb := llTb_of (List.mem_append_right _ (List.mem_of_getElem? (i := 1718) (by decide +kernel))) (by decide)
set_option maxRecDepth 100000 in
theorem wd_1719 : (Cond.methodLink "LeagueLevelsModel" (411 : Nat) ({ cls := "LeagueLevelsModel", name := "says", desc := "(I)V" } : MethodName)) ∈ llTb := llTb_of (List.mem_append_right _ (List.mem_of_getElem? (i := 1719) (by decide +kernel))) (by decide)
set_option maxRecDepth 100000 in
theorem wd_1721 : (Cond.instanceMethod ({ cls := "LeagueLevelsModel", name := "says", desc := "(I)V" } : MethodName)) ∈ llTb := llTb_of (List.mem_append_right _ (List.mem_of_getElem? (i := 1721) (by decide +kernel))) (by decide)
set_option maxRecDepth 100000 in
theorem wd_1722 : (Cond.code ({ cls := "LeagueLevelsModel", name := "says", desc := "(I)V" } : MethodName) prog_14_method_85_code (2 : Nat) (Option.none : Option ClassFile.FieldType)) ∈ llTb := llTb_of (List.mem_append_right _ (List.mem_of_getElem? (i := 1722) (by exact rfl))) (by decide)
set_option maxRecDepth 100000 in
theorem wd_1723 : (Cond.methodLink "LeagueLevelsModel" (419 : Nat) ({ cls := "LeagueLevelsModel", name := "saysNumber", desc := "(I)V" } : MethodName)) ∈ llTb := llTb_of (List.mem_append_right _ (List.mem_of_getElem? (i := 1723) (by decide +kernel))) (by decide)
set_option maxRecDepth 100000 in
theorem wd_1725 : (Cond.instanceMethod ({ cls := "LeagueLevelsModel", name := "saysNumber", desc := "(I)V" } : MethodName)) ∈ llTb := llTb_of (List.mem_append_right _ (List.mem_of_getElem? (i := 1725) (by decide +kernel))) (by decide)
set_option maxRecDepth 100000 in
theorem wd_1726 : (Cond.code ({ cls := "LeagueLevelsModel", name := "saysNumber", desc := "(I)V" } : MethodName) prog_14_method_86_code (4 : Nat) (Option.none : Option ClassFile.FieldType)) ∈ llTb := llTb_of (List.mem_append_right _ (List.mem_of_getElem? (i := 1726) (by exact rfl))) (by decide)
set_option maxRecDepth 100000 in
theorem wd_1728 : (Cond.instanceMethod ({ cls := "LeagueLevelsModel", name := "out", desc := "(I)I" } : MethodName)) ∈ llTb := llTb_of (List.mem_append_right _ (List.mem_of_getElem? (i := 1728) (by decide +kernel))) (by decide)
set_option maxRecDepth 100000 in
theorem wd_1729 : (Cond.selects "LeagueLevelsModel" ({ cls := "LeagueLevelsModel", name := "out", desc := "(I)I" } : MethodName) ({ cls := "LeagueLevelsModel", name := "out", desc := "(I)I" } : MethodName)) ∈ llTb := llTb_of (List.mem_append_right _ (List.mem_of_getElem? (i := 1729) (by decide +kernel))) (by decide)
set_option maxRecDepth 100000 in
theorem wd_1730 : (Cond.code ({ cls := "LeagueLevelsModel", name := "out", desc := "(I)I" } : MethodName) prog_14_method_88_code (2 : Nat) (Option.some ClassFile.FieldType.int)) ∈ llTb := llTb_of (List.mem_append_right _ (List.mem_of_getElem? (i := 1730) (by exact rfl))) (by decide)
set_option maxRecDepth 100000 in
theorem wd_1732 : (Cond.instanceMethod ({ cls := "LeagueLevelsModel", name := "look", desc := "(I)I" } : MethodName)) ∈ llTb := llTb_of (List.mem_append_right _ (List.mem_of_getElem? (i := 1732) (by decide +kernel))) (by decide)
set_option maxRecDepth 100000 in
theorem wd_1733 : (Cond.selects "LeagueLevelsModel" ({ cls := "LeagueLevelsModel", name := "look", desc := "(I)I" } : MethodName) ({ cls := "LeagueLevelsModel", name := "look", desc := "(I)I" } : MethodName)) ∈ llTb := llTb_of (List.mem_append_right _ (List.mem_of_getElem? (i := 1733) (by decide +kernel))) (by decide)
set_option maxRecDepth 100000 in
theorem wd_1734 : (Cond.code ({ cls := "LeagueLevelsModel", name := "look", desc := "(I)I" } : MethodName) prog_14_method_89_code (6 : Nat) (Option.some ClassFile.FieldType.int)) ∈ llTb := llTb_of (List.mem_append_right _ (List.mem_of_getElem? (i := 1734) (by exact rfl))) (by decide)
set_option maxRecDepth 100000 in
theorem wd_1735 : (Cond.fieldLink "java/lang/String" (9 : Nat) "java/lang/String" "value" "[B") ∈ llTb := llTb_of (List.mem_append_right _ (List.mem_of_getElem? (i := 1735) (by decide +kernel))) (by decide)
set_option maxRecDepth 100000 in
theorem wd_1736 : (Cond.fieldLink "java/lang/String" (15 : Nat) "java/lang/String" "coder" "B") ∈ llTb := llTb_of (List.mem_append_right _ (List.mem_of_getElem? (i := 1736) (by decide +kernel))) (by decide)
set_option maxRecDepth 100000 in
theorem clw_X1 : (u_ws RX1 TX1 3).all (fun w => decide (w ∈ lw_tbl) && goodWord w) = true := by decide +kernel
set_option maxRecDepth 100000 in
theorem cl_X1 : llCl 0 RX1 TX1 3 tyX1 := ⟨rfl, fun w h => by have h1 := List.all_eq_true.mp clw_X1 w h; rw [Bool.and_eq_true] at h1; exact llTb_of (of_decide_eq_true h1.1) h1.2, tyX1_ok, nmX1⟩
set_option maxRecDepth 100000 in
theorem clw_X10 : (u_ws RX10 TX10 8).all (fun w => decide (w ∈ lw_tbl) && goodWord w) = true := by decide +kernel
set_option maxRecDepth 100000 in
theorem cl_X10 : llCl 9 RX10 TX10 8 tyX10 := ⟨rfl, fun w h => by have h1 := List.all_eq_true.mp clw_X10 w h; rw [Bool.and_eq_true] at h1; exact llTb_of (of_decide_eq_true h1.1) h1.2, tyX10_ok, nmX10⟩
set_option maxRecDepth 100000 in
theorem clw_X11 : (u_ws RX11 TX11 10).all (fun w => decide (w ∈ lw_tbl) && goodWord w) = true := by decide +kernel
set_option maxRecDepth 100000 in
theorem cl_X11 : llCl 10 RX11 TX11 10 tyX11 := ⟨rfl, fun w h => by have h1 := List.all_eq_true.mp clw_X11 w h; rw [Bool.and_eq_true] at h1; exact llTb_of (of_decide_eq_true h1.1) h1.2, tyX11_ok, nmX11⟩
set_option maxRecDepth 100000 in
theorem clw_X12 : (u_ws RX12 TX12 54).all (fun w => decide (w ∈ lw_tbl) && goodWord w) = true := by decide +kernel
set_option maxRecDepth 100000 in
theorem cl_X12 : llCl 11 RX12 TX12 54 tyX12 := ⟨rfl, fun w h => by have h1 := List.all_eq_true.mp clw_X12 w h; rw [Bool.and_eq_true] at h1; exact llTb_of (of_decide_eq_true h1.1) h1.2, tyX12_ok, nmX12⟩
set_option maxRecDepth 100000 in
theorem clw_X2 : (u_ws RX2 TX2 6).all (fun w => decide (w ∈ lw_tbl) && goodWord w) = true := by decide +kernel
set_option maxRecDepth 100000 in
theorem cl_X2 : llCl 1 RX2 TX2 6 tyX2 := ⟨rfl, fun w h => by have h1 := List.all_eq_true.mp clw_X2 w h; rw [Bool.and_eq_true] at h1; exact llTb_of (of_decide_eq_true h1.1) h1.2, tyX2_ok, nmX2⟩
set_option maxRecDepth 100000 in
theorem clw_X3 : (u_ws RX3 TX3 8).all (fun w => decide (w ∈ lw_tbl) && goodWord w) = true := by decide +kernel
set_option maxRecDepth 100000 in
theorem cl_X3 : llCl 2 RX3 TX3 8 tyX3 := ⟨rfl, fun w h => by have h1 := List.all_eq_true.mp clw_X3 w h; rw [Bool.and_eq_true] at h1; exact llTb_of (of_decide_eq_true h1.1) h1.2, tyX3_ok, nmX3⟩
set_option maxRecDepth 100000 in
theorem clw_X4 : (u_ws RX4 TX4 17).all (fun w => decide (w ∈ lw_tbl) && goodWord w) = true := by decide +kernel
set_option maxRecDepth 100000 in
theorem cl_X4 : llCl 3 RX4 TX4 17 tyX4 := ⟨rfl, fun w h => by have h1 := List.all_eq_true.mp clw_X4 w h; rw [Bool.and_eq_true] at h1; exact llTb_of (of_decide_eq_true h1.1) h1.2, tyX4_ok, nmX4⟩
set_option maxRecDepth 100000 in
theorem clw_X5 : (u_ws RX5 TX5 12).all (fun w => decide (w ∈ lw_tbl) && goodWord w) = true := by decide +kernel
set_option maxRecDepth 100000 in
theorem cl_X5 : llCl 4 RX5 TX5 12 tyX5 := ⟨rfl, fun w h => by have h1 := List.all_eq_true.mp clw_X5 w h; rw [Bool.and_eq_true] at h1; exact llTb_of (of_decide_eq_true h1.1) h1.2, tyX5_ok, nmX5⟩
set_option maxRecDepth 100000 in
theorem clw_X6 : (u_ws RX6 TX6 2).all (fun w => decide (w ∈ lw_tbl) && goodWord w) = true := by decide +kernel
set_option maxRecDepth 100000 in
theorem cl_X6 : llCl 5 RX6 TX6 2 tyX6 := ⟨rfl, fun w h => by have h1 := List.all_eq_true.mp clw_X6 w h; rw [Bool.and_eq_true] at h1; exact llTb_of (of_decide_eq_true h1.1) h1.2, tyX6_ok, nmX6⟩
set_option maxRecDepth 100000 in
theorem clw_X7 : (u_ws RX7 TX7 13).all (fun w => decide (w ∈ lw_tbl) && goodWord w) = true := by decide +kernel
set_option maxRecDepth 100000 in
theorem cl_X7 : llCl 6 RX7 TX7 13 tyX7 := ⟨rfl, fun w h => by have h1 := List.all_eq_true.mp clw_X7 w h; rw [Bool.and_eq_true] at h1; exact llTb_of (of_decide_eq_true h1.1) h1.2, tyX7_ok, nmX7⟩
set_option maxRecDepth 100000 in
theorem clw_X8 : (u_ws RX8 TX8 8).all (fun w => decide (w ∈ lw_tbl) && goodWord w) = true := by decide +kernel
set_option maxRecDepth 100000 in
theorem cl_X8 : llCl 7 RX8 TX8 8 tyX8 := ⟨rfl, fun w h => by have h1 := List.all_eq_true.mp clw_X8 w h; rw [Bool.and_eq_true] at h1; exact llTb_of (of_decide_eq_true h1.1) h1.2, tyX8_ok, nmX8⟩
set_option maxRecDepth 100000 in
theorem clw_X9 : (u_ws RX9 TX9 10).all (fun w => decide (w ∈ lw_tbl) && goodWord w) = true := by decide +kernel
set_option maxRecDepth 100000 in
theorem cl_X9 : llCl 8 RX9 TX9 10 tyX9 := ⟨rfl, fun w h => by have h1 := List.all_eq_true.mp clw_X9 w h; rw [Bool.and_eq_true] at h1; exact llTb_of (of_decide_eq_true h1.1) h1.2, tyX9_ok, nmX9⟩
set_option maxRecDepth 100000 in
theorem fl_X10_15 : llFd RX10 15 9 1 (.array .int) true := ⟨_, _, _, _, cl_X10, by decide, wd_341, rfl, rfl⟩
set_option maxRecDepth 100000 in
theorem fl_X10_19 : llFd RX10 19 9 3 (.array .int) true := ⟨_, _, _, _, cl_X10, by decide, wd_343, rfl, rfl⟩
set_option maxRecDepth 100000 in
theorem fl_X10_22 : llFd RX10 22 9 4 (.array .int) true := ⟨_, _, _, _, cl_X10, by decide, wd_344, rfl, rfl⟩
set_option maxRecDepth 100000 in
theorem fl_X10_25 : llFd RX10 25 4 5 .int false := ⟨_, _, _, _, cl_X5, by decide, wd_109, rfl, rfl⟩
set_option maxRecDepth 100000 in
theorem fl_X10_31 : llFd RX10 31 4 7 (.array .int) true := ⟨_, _, _, _, cl_X5, by decide, wd_121, rfl, rfl⟩
set_option maxRecDepth 100000 in
theorem fl_X10_34 : llFd RX10 34 4 8 (.array .int) true := ⟨_, _, _, _, cl_X5, by decide, wd_125, rfl, rfl⟩
set_option maxRecDepth 100000 in
theorem fl_X10_53 : llFd RX10 53 4 1 (.array .int) true := ⟨_, _, _, _, cl_X5, by decide, wd_94, rfl, rfl⟩
set_option maxRecDepth 100000 in
theorem fl_X10_63 : llFd RX10 63 9 2 .int false := ⟨_, _, _, _, cl_X10, by decide, wd_342, rfl, rfl⟩
set_option maxRecDepth 100000 in
theorem fl_X10_66 : llFd RX10 66 4 11 (.array .int) true := ⟨_, _, _, _, cl_X5, by decide, wd_143, rfl, rfl⟩
set_option maxRecDepth 100000 in
theorem fl_X10_73 : llFd RX10 73 9 5 .int false := ⟨_, _, _, _, cl_X10, by decide, wd_345, rfl, rfl⟩
set_option maxRecDepth 100000 in
theorem fl_X10_82 : llFd RX10 82 9 6 .int false := ⟨_, _, _, _, cl_X10, by decide, wd_347, rfl, rfl⟩
set_option maxRecDepth 100000 in
theorem fl_X10_85 : llFd RX10 85 9 7 .int false := ⟨_, _, _, _, cl_X10, by decide, wd_349, rfl, rfl⟩
set_option maxRecDepth 100000 in
theorem fl_X10_9 : llFd RX10 9 9 0 (.object "LeagueLevels$Pyramid") true := ⟨_, _, _, _, cl_X10, by decide, wd_340, rfl, rfl⟩
set_option maxRecDepth 100000 in
theorem fl_X11_10 : llFd RX11 10 10 0 (.object "LeagueLevels$Tape") true := ⟨_, _, _, _, cl_X11, by decide, wd_460, rfl, rfl⟩
set_option maxRecDepth 100000 in
theorem fl_X11_103 : llFd RX11 103 5 1 (.object "LeagueLevels$Pyramid") true := ⟨_, _, _, _, cl_X6, by decide, wd_274, rfl, rfl⟩
set_option maxRecDepth 100000 in
theorem fl_X11_118 : llFd RX11 118 6 0 .int false := ⟨_, _, _, _, cl_X7, by decide, wd_180, rfl, rfl⟩
set_option maxRecDepth 100000 in
theorem fl_X11_121 : llFd RX11 121 1 2 .int false := ⟨_, _, _, _, cl_X2, by decide, wd_247, rfl, rfl⟩
set_option maxRecDepth 100000 in
theorem fl_X11_124 : llFd RX11 124 4 5 .int false := ⟨_, _, _, _, cl_X5, by decide, wd_114, rfl, rfl⟩
set_option maxRecDepth 100000 in
theorem fl_X11_127 : llFd RX11 127 6 1 .int false := ⟨_, _, _, _, cl_X7, by decide, wd_182, rfl, rfl⟩
set_option maxRecDepth 100000 in
theorem fl_X11_136 : llFd RX11 136 8 7 .int false := ⟨_, _, _, _, cl_X9, by decide, wd_54, rfl, rfl⟩
set_option maxRecDepth 100000 in
theorem fl_X11_139 : llFd RX11 139 8 8 .int false := ⟨_, _, _, _, cl_X9, by decide, wd_56, rfl, rfl⟩
set_option maxRecDepth 100000 in
theorem fl_X11_148 : llFd RX11 148 8 2 .int false := ⟨_, _, _, _, cl_X9, by decide, wd_45, rfl, rfl⟩
set_option maxRecDepth 100000 in
theorem fl_X11_151 : llFd RX11 151 8 6 .long false := ⟨_, _, _, _, cl_X9, by decide, wd_52, rfl, rfl⟩
set_option maxRecDepth 100000 in
theorem fl_X11_163 : llFd RX11 163 6 5 (.array .int) true := ⟨_, _, _, _, cl_X7, by decide, wd_191, rfl, rfl⟩
set_option maxRecDepth 100000 in
theorem fl_X11_167 : llFd RX11 167 6 6 (.array .int) true := ⟨_, _, _, _, cl_X7, by decide, wd_195, rfl, rfl⟩
set_option maxRecDepth 100000 in
theorem fl_X11_170 : llFd RX11 170 6 7 (.array .int) true := ⟨_, _, _, _, cl_X7, by decide, wd_198, rfl, rfl⟩
set_option maxRecDepth 100000 in
theorem fl_X11_176 : llFd RX11 176 4 10 (.array .int) true := ⟨_, _, _, _, cl_X5, by decide, wd_138, rfl, rfl⟩
set_option maxRecDepth 100000 in
theorem fl_X11_179 : llFd RX11 179 4 9 (.array .int) true := ⟨_, _, _, _, cl_X5, by decide, wd_132, rfl, rfl⟩
set_option maxRecDepth 100000 in
theorem fl_X11_189 : llFd RX11 189 2 7 (.array .int) true := ⟨_, _, _, _, cl_X3, by decide, wd_442, rfl, rfl⟩
set_option maxRecDepth 100000 in
theorem fl_X11_19 : llFd RX11 19 10 1 (.object "LeagueLevels$Pyramid") true := ⟨_, _, _, _, cl_X11, by decide, wd_461, rfl, rfl⟩
set_option maxRecDepth 100000 in
theorem fl_X11_205 : llFd RX11 205 4 7 (.array .int) true := ⟨_, _, _, _, cl_X5, by decide, wd_123, rfl, rfl⟩
set_option maxRecDepth 100000 in
theorem fl_X11_208 : llFd RX11 208 4 8 (.array .int) true := ⟨_, _, _, _, cl_X5, by decide, wd_127, rfl, rfl⟩
set_option maxRecDepth 100000 in
theorem fl_X11_211 : llFd RX11 211 4 11 (.array .int) true := ⟨_, _, _, _, cl_X5, by decide, wd_144, rfl, rfl⟩
set_option maxRecDepth 100000 in
theorem fl_X11_214 : llFd RX11 214 6 8 (.array .int) true := ⟨_, _, _, _, cl_X7, by decide, wd_201, rfl, rfl⟩
set_option maxRecDepth 100000 in
theorem fl_X11_217 : llFd RX11 217 6 9 (.array .int) true := ⟨_, _, _, _, cl_X7, by decide, wd_203, rfl, rfl⟩
set_option maxRecDepth 100000 in
theorem fl_X11_220 : llFd RX11 220 6 10 (.array .int) true := ⟨_, _, _, _, cl_X7, by decide, wd_205, rfl, rfl⟩
set_option maxRecDepth 100000 in
theorem fl_X11_223 : llFd RX11 223 6 11 (.array .int) true := ⟨_, _, _, _, cl_X7, by decide, wd_208, rfl, rfl⟩
set_option maxRecDepth 100000 in
theorem fl_X11_226 : llFd RX11 226 6 12 (.array .int) true := ⟨_, _, _, _, cl_X7, by decide, wd_210, rfl, rfl⟩
set_option maxRecDepth 100000 in
theorem fl_X11_232 : llFd RX11 232 7 4 (.array .int) true := ⟨_, _, _, _, cl_X8, by decide, wd_311, rfl, rfl⟩
set_option maxRecDepth 100000 in
theorem fl_X11_26 : llFd RX11 26 10 2 (.object "LeagueLevels$Season") true := ⟨_, _, _, _, cl_X11, by decide, wd_462, rfl, rfl⟩
set_option maxRecDepth 100000 in
theorem fl_X11_266 : llFd RX11 266 7 2 .int false := ⟨_, _, _, _, cl_X8, by decide, wd_306, rfl, rfl⟩
set_option maxRecDepth 100000 in
theorem fl_X11_267 : llFd RX11 267 7 3 (.array .int) true := ⟨_, _, _, _, cl_X8, by decide, wd_309, rfl, rfl⟩
set_option maxRecDepth 100000 in
theorem fl_X11_270 : llFd RX11 270 4 1 (.array .int) true := ⟨_, _, _, _, cl_X5, by decide, wd_95, rfl, rfl⟩
set_option maxRecDepth 100000 in
theorem fl_X11_273 : llFd RX11 273 4 2 (.array .int) true := ⟨_, _, _, _, cl_X5, by decide, wd_100, rfl, rfl⟩
set_option maxRecDepth 100000 in
theorem fl_X11_276 : llFd RX11 276 4 3 (.array .int) true := ⟨_, _, _, _, cl_X5, by decide, wd_104, rfl, rfl⟩
set_option maxRecDepth 100000 in
theorem fl_X11_279 : llFd RX11 279 4 4 (.array .int) true := ⟨_, _, _, _, cl_X5, by decide, wd_108, rfl, rfl⟩
set_option maxRecDepth 100000 in
theorem fl_X11_294 : llFd RX11 294 3 3 (.array .int) true := ⟨_, _, _, _, cl_X4, by decide, wd_378, rfl, rfl⟩
set_option maxRecDepth 100000 in
theorem fl_X11_306 : llFd RX11 306 3 4 (.array .int) true := ⟨_, _, _, _, cl_X4, by decide, wd_380, rfl, rfl⟩
set_option maxRecDepth 100000 in
theorem fl_X11_312 : llFd RX11 312 9 5 .int false := ⟨_, _, _, _, cl_X10, by decide, wd_346, rfl, rfl⟩
set_option maxRecDepth 100000 in
theorem fl_X11_315 : llFd RX11 315 9 6 .int false := ⟨_, _, _, _, cl_X10, by decide, wd_348, rfl, rfl⟩
set_option maxRecDepth 100000 in
theorem fl_X11_318 : llFd RX11 318 9 7 .int false := ⟨_, _, _, _, cl_X10, by decide, wd_350, rfl, rfl⟩
set_option maxRecDepth 100000 in
theorem fl_X11_346 : llFd RX11 346 6 3 (.array .int) true := ⟨_, _, _, _, cl_X7, by decide, wd_186, rfl, rfl⟩
set_option maxRecDepth 100000 in
theorem fl_X11_349 : llFd RX11 349 6 2 (.array .int) true := ⟨_, _, _, _, cl_X7, by decide, wd_184, rfl, rfl⟩
set_option maxRecDepth 100000 in
theorem fl_X11_35 : llFd RX11 35 10 3 (.object "LeagueLevels$Deeds") true := ⟨_, _, _, _, cl_X11, by decide, wd_463, rfl, rfl⟩
set_option maxRecDepth 100000 in
theorem fl_X11_367 : llFd RX11 367 7 6 .int false := ⟨_, _, _, _, cl_X8, by decide, wd_314, rfl, rfl⟩
set_option maxRecDepth 100000 in
theorem fl_X11_370 : llFd RX11 370 7 7 (.array .int) true := ⟨_, _, _, _, cl_X8, by decide, wd_316, rfl, rfl⟩
set_option maxRecDepth 100000 in
theorem fl_X11_373 : llFd RX11 373 4 0 .int false := ⟨_, _, _, _, cl_X5, by decide, wd_90, rfl, rfl⟩
set_option maxRecDepth 100000 in
theorem fl_X11_44 : llFd RX11 44 10 4 (.object "LeagueLevels$PyramidText") true := ⟨_, _, _, _, cl_X11, by decide, wd_464, rfl, rfl⟩
set_option maxRecDepth 100000 in
theorem fl_X11_53 : llFd RX11 53 10 5 (.object "LeagueLevels$DayText") true := ⟨_, _, _, _, cl_X11, by decide, wd_465, rfl, rfl⟩
set_option maxRecDepth 100000 in
theorem fl_X11_60 : llFd RX11 60 10 6 (.object "LeagueLevels$Table") true := ⟨_, _, _, _, cl_X11, by decide, wd_466, rfl, rfl⟩
set_option maxRecDepth 100000 in
theorem fl_X11_69 : llFd RX11 69 10 7 (.object "LeagueLevels$Travel") true := ⟨_, _, _, _, cl_X11, by decide, wd_467, rfl, rfl⟩
set_option maxRecDepth 100000 in
theorem fl_X11_78 : llFd RX11 78 10 8 (.object "LeagueLevels$Parting") true := ⟨_, _, _, _, cl_X11, by decide, wd_468, rfl, rfl⟩
set_option maxRecDepth 100000 in
theorem fl_X11_87 : llFd RX11 87 10 9 (.object "LeagueLevels$Ending") true := ⟨_, _, _, _, cl_X11, by decide, wd_469, rfl, rfl⟩
set_option maxRecDepth 100000 in
theorem fl_X11_91 : llFd RX11 91 8 1 .int false := ⟨_, _, _, _, cl_X9, by decide, wd_40, rfl, rfl⟩
set_option maxRecDepth 100000 in
theorem fl_X12_101 : llFd RX12 101 11 50 (.array .int) true := ⟨_, _, _, _, cl_X12, by decide, wd_1182, rfl, rfl⟩
set_option maxRecDepth 100000 in
theorem fl_X12_104 : llFd RX12 104 11 51 (.array .int) true := ⟨_, _, _, _, cl_X12, by decide, wd_1183, rfl, rfl⟩
set_option maxRecDepth 100000 in
theorem fl_X12_107 : llFd RX12 107 11 52 (.array .int) true := ⟨_, _, _, _, cl_X12, by decide, wd_1184, rfl, rfl⟩
set_option maxRecDepth 100000 in
theorem fl_X12_110 : llFd RX12 110 11 14 .int false := ⟨_, _, _, _, cl_X12, by decide, wd_1146, rfl, rfl⟩
set_option maxRecDepth 100000 in
theorem fl_X12_113 : llFd RX12 113 11 16 .int false := ⟨_, _, _, _, cl_X12, by decide, wd_1148, rfl, rfl⟩
set_option maxRecDepth 100000 in
theorem fl_X12_124 : llFd RX12 124 11 23 .int false := ⟨_, _, _, _, cl_X12, by decide, wd_1155, rfl, rfl⟩
set_option maxRecDepth 100000 in
theorem fl_X12_13 : llFd RX12 13 11 3 (.array .long) true := ⟨_, _, _, _, cl_X12, by decide, wd_1135, rfl, rfl⟩
set_option maxRecDepth 100000 in
theorem fl_X12_131 : llFd RX12 131 11 22 .int false := ⟨_, _, _, _, cl_X12, by decide, wd_1154, rfl, rfl⟩
set_option maxRecDepth 100000 in
theorem fl_X12_134 : llFd RX12 134 11 24 .long false := ⟨_, _, _, _, cl_X12, by decide, wd_1156, rfl, rfl⟩
set_option maxRecDepth 100000 in
theorem fl_X12_138 : llFd RX12 138 11 25 .int false := ⟨_, _, _, _, cl_X12, by decide, wd_1157, rfl, rfl⟩
set_option maxRecDepth 100000 in
theorem fl_X12_141 : llFd RX12 141 11 26 .int false := ⟨_, _, _, _, cl_X12, by decide, wd_1158, rfl, rfl⟩
set_option maxRecDepth 100000 in
theorem fl_X12_144 : llFd RX12 144 11 21 .int false := ⟨_, _, _, _, cl_X12, by decide, wd_1153, rfl, rfl⟩
set_option maxRecDepth 100000 in
theorem fl_X12_155 : llFd RX12 155 11 19 .int false := ⟨_, _, _, _, cl_X12, by decide, wd_1151, rfl, rfl⟩
set_option maxRecDepth 100000 in
theorem fl_X12_158 : llFd RX12 158 11 20 .int false := ⟨_, _, _, _, cl_X12, by decide, wd_1152, rfl, rfl⟩
set_option maxRecDepth 100000 in
theorem fl_X12_17 : llFd RX12 17 11 4 (.array .int) true := ⟨_, _, _, _, cl_X12, by decide, wd_1136, rfl, rfl⟩
set_option maxRecDepth 100000 in
theorem fl_X12_198 : llFd RX12 198 11 27 .int false := ⟨_, _, _, _, cl_X12, by decide, wd_1159, rfl, rfl⟩
set_option maxRecDepth 100000 in
theorem fl_X12_20 : llFd RX12 20 11 5 (.array .int) true := ⟨_, _, _, _, cl_X12, by decide, wd_1137, rfl, rfl⟩
set_option maxRecDepth 100000 in
theorem fl_X12_205 : llFd RX12 205 11 2 .int false := ⟨_, _, _, _, cl_X12, by decide, wd_1134, rfl, rfl⟩
set_option maxRecDepth 100000 in
theorem fl_X12_221 : llFd RX12 221 11 10 .int false := ⟨_, _, _, _, cl_X12, by decide, wd_1142, rfl, rfl⟩
set_option maxRecDepth 100000 in
theorem fl_X12_23 : llFd RX12 23 11 6 (.array .int) true := ⟨_, _, _, _, cl_X12, by decide, wd_1138, rfl, rfl⟩
set_option maxRecDepth 100000 in
theorem fl_X12_248 : llFd RX12 248 11 17 .int false := ⟨_, _, _, _, cl_X12, by decide, wd_1149, rfl, rfl⟩
set_option maxRecDepth 100000 in
theorem fl_X12_26 : llFd RX12 26 11 7 (.array .int) true := ⟨_, _, _, _, cl_X12, by decide, wd_1139, rfl, rfl⟩
set_option maxRecDepth 100000 in
theorem fl_X12_260 : llFd RX12 260 11 1 .int false := ⟨_, _, _, _, cl_X12, by decide, wd_1133, rfl, rfl⟩
set_option maxRecDepth 100000 in
theorem fl_X12_263 : llFd RX12 263 11 9 .int false := ⟨_, _, _, _, cl_X12, by decide, wd_1141, rfl, rfl⟩
set_option maxRecDepth 100000 in
theorem fl_X12_266 : llFd RX12 266 11 11 .int false := ⟨_, _, _, _, cl_X12, by decide, wd_1143, rfl, rfl⟩
set_option maxRecDepth 100000 in
theorem fl_X12_275 : llFd RX12 275 11 29 .int false := ⟨_, _, _, _, cl_X12, by decide, wd_1161, rfl, rfl⟩
set_option maxRecDepth 100000 in
theorem fl_X12_29 : llFd RX12 29 11 8 (.array .int) true := ⟨_, _, _, _, cl_X12, by decide, wd_1140, rfl, rfl⟩
set_option maxRecDepth 100000 in
theorem fl_X12_32 : llFd RX12 32 11 12 (.array .int) true := ⟨_, _, _, _, cl_X12, by decide, wd_1144, rfl, rfl⟩
set_option maxRecDepth 100000 in
theorem fl_X12_326 : llFd RX12 326 11 41 .int false := ⟨_, _, _, _, cl_X12, by decide, wd_1173, rfl, rfl⟩
set_option maxRecDepth 100000 in
theorem fl_X12_329 : llFd RX12 329 11 42 .int false := ⟨_, _, _, _, cl_X12, by decide, wd_1174, rfl, rfl⟩
set_option maxRecDepth 100000 in
theorem fl_X12_332 : llFd RX12 332 11 43 .int false := ⟨_, _, _, _, cl_X12, by decide, wd_1175, rfl, rfl⟩
set_option maxRecDepth 100000 in
theorem fl_X12_35 : llFd RX12 35 11 13 (.array .int) true := ⟨_, _, _, _, cl_X12, by decide, wd_1145, rfl, rfl⟩
set_option maxRecDepth 100000 in
theorem fl_X12_38 : llFd RX12 38 11 15 (.array .int) true := ⟨_, _, _, _, cl_X12, by decide, wd_1147, rfl, rfl⟩
set_option maxRecDepth 100000 in
theorem fl_X12_408 : llFd RX12 408 11 53 .int false := ⟨_, _, _, _, cl_X12, by decide, wd_1185, rfl, rfl⟩
set_option maxRecDepth 100000 in
theorem fl_X12_41 : llFd RX12 41 11 18 .int false := ⟨_, _, _, _, cl_X12, by decide, wd_1150, rfl, rfl⟩
set_option maxRecDepth 100000 in
theorem fl_X12_45 : llFd RX12 45 11 28 (.array .int) true := ⟨_, _, _, _, cl_X12, by decide, wd_1160, rfl, rfl⟩
set_option maxRecDepth 100000 in
theorem fl_X12_48 : llFd RX12 48 11 30 (.array .int) true := ⟨_, _, _, _, cl_X12, by decide, wd_1162, rfl, rfl⟩
set_option maxRecDepth 100000 in
theorem fl_X12_51 : llFd RX12 51 11 31 (.array .int) true := ⟨_, _, _, _, cl_X12, by decide, wd_1163, rfl, rfl⟩
set_option maxRecDepth 100000 in
theorem fl_X12_54 : llFd RX12 54 11 32 (.array .int) true := ⟨_, _, _, _, cl_X12, by decide, wd_1164, rfl, rfl⟩
set_option maxRecDepth 100000 in
theorem fl_X12_57 : llFd RX12 57 11 33 (.array .int) true := ⟨_, _, _, _, cl_X12, by decide, wd_1165, rfl, rfl⟩
set_option maxRecDepth 100000 in
theorem fl_X12_60 : llFd RX12 60 11 34 (.array .float) true := ⟨_, _, _, _, cl_X12, by decide, wd_1166, rfl, rfl⟩
set_option maxRecDepth 100000 in
theorem fl_X12_64 : llFd RX12 64 11 35 (.array .int) true := ⟨_, _, _, _, cl_X12, by decide, wd_1167, rfl, rfl⟩
set_option maxRecDepth 100000 in
theorem fl_X12_67 : llFd RX12 67 11 36 (.array .int) true := ⟨_, _, _, _, cl_X12, by decide, wd_1168, rfl, rfl⟩
set_option maxRecDepth 100000 in
theorem fl_X12_7 : llFd RX12 7 11 0 (.array .int) true := ⟨_, _, _, _, cl_X12, by decide, wd_1132, rfl, rfl⟩
set_option maxRecDepth 100000 in
theorem fl_X12_70 : llFd RX12 70 11 37 (.array .int) true := ⟨_, _, _, _, cl_X12, by decide, wd_1169, rfl, rfl⟩
set_option maxRecDepth 100000 in
theorem fl_X12_73 : llFd RX12 73 11 38 (.array .int) true := ⟨_, _, _, _, cl_X12, by decide, wd_1170, rfl, rfl⟩
set_option maxRecDepth 100000 in
theorem fl_X12_76 : llFd RX12 76 11 39 (.array .int) true := ⟨_, _, _, _, cl_X12, by decide, wd_1171, rfl, rfl⟩
set_option maxRecDepth 100000 in
theorem fl_X12_79 : llFd RX12 79 11 40 (.array .int) true := ⟨_, _, _, _, cl_X12, by decide, wd_1172, rfl, rfl⟩
set_option maxRecDepth 100000 in
theorem fl_X12_82 : llFd RX12 82 11 44 (.array .boolean) true := ⟨_, _, _, _, cl_X12, by decide, wd_1176, rfl, rfl⟩
set_option maxRecDepth 100000 in
theorem fl_X12_86 : llFd RX12 86 11 45 (.array .boolean) true := ⟨_, _, _, _, cl_X12, by decide, wd_1177, rfl, rfl⟩
set_option maxRecDepth 100000 in
theorem fl_X12_89 : llFd RX12 89 11 46 (.array .boolean) true := ⟨_, _, _, _, cl_X12, by decide, wd_1178, rfl, rfl⟩
set_option maxRecDepth 100000 in
theorem fl_X12_92 : llFd RX12 92 11 47 (.array .boolean) true := ⟨_, _, _, _, cl_X12, by decide, wd_1179, rfl, rfl⟩
set_option maxRecDepth 100000 in
theorem fl_X12_95 : llFd RX12 95 11 48 (.array .int) true := ⟨_, _, _, _, cl_X12, by decide, wd_1180, rfl, rfl⟩
set_option maxRecDepth 100000 in
theorem fl_X12_98 : llFd RX12 98 11 49 (.array .int) true := ⟨_, _, _, _, cl_X12, by decide, wd_1181, rfl, rfl⟩
set_option maxRecDepth 100000 in
theorem fl_X1_15 : llFd RX1 15 0 1 (.object "LeagueLevels$Pyramid") true := ⟨_, _, _, _, cl_X1, by decide, wd_287, rfl, rfl⟩
set_option maxRecDepth 100000 in
theorem fl_X1_19 : llFd RX1 19 0 2 (.object "LeagueLevels$Season") true := ⟨_, _, _, _, cl_X1, by decide, wd_288, rfl, rfl⟩
set_option maxRecDepth 100000 in
theorem fl_X1_31 : llFd RX1 31 8 2 .int false := ⟨_, _, _, _, cl_X9, by decide, wd_42, rfl, rfl⟩
set_option maxRecDepth 100000 in
theorem fl_X1_73 : llFd RX1 73 8 6 .long false := ⟨_, _, _, _, cl_X9, by decide, wd_49, rfl, rfl⟩
set_option maxRecDepth 100000 in
theorem fl_X1_9 : llFd RX1 9 0 0 (.object "LeagueLevels$Tape") true := ⟨_, _, _, _, cl_X1, by decide, wd_286, rfl, rfl⟩
set_option maxRecDepth 100000 in
theorem fl_X2_13 : llFd RX2 13 1 1 (.object "LeagueLevels$Season") true := ⟨_, _, _, _, cl_X2, by decide, wd_245, rfl, rfl⟩
set_option maxRecDepth 100000 in
theorem fl_X2_17 : llFd RX2 17 1 3 (.array .int) true := ⟨_, _, _, _, cl_X2, by decide, wd_248, rfl, rfl⟩
set_option maxRecDepth 100000 in
theorem fl_X2_21 : llFd RX2 21 1 4 (.array .int) true := ⟨_, _, _, _, cl_X2, by decide, wd_249, rfl, rfl⟩
set_option maxRecDepth 100000 in
theorem fl_X2_24 : llFd RX2 24 1 5 (.array .int) true := ⟨_, _, _, _, cl_X2, by decide, wd_250, rfl, rfl⟩
set_option maxRecDepth 100000 in
theorem fl_X2_27 : llFd RX2 27 1 2 .int false := ⟨_, _, _, _, cl_X2, by decide, wd_246, rfl, rfl⟩
set_option maxRecDepth 100000 in
theorem fl_X2_53 : llFd RX2 53 6 5 (.array .int) true := ⟨_, _, _, _, cl_X7, by decide, wd_190, rfl, rfl⟩
set_option maxRecDepth 100000 in
theorem fl_X2_56 : llFd RX2 56 6 6 (.array .int) true := ⟨_, _, _, _, cl_X7, by decide, wd_194, rfl, rfl⟩
set_option maxRecDepth 100000 in
theorem fl_X2_59 : llFd RX2 59 6 7 (.array .int) true := ⟨_, _, _, _, cl_X7, by decide, wd_197, rfl, rfl⟩
set_option maxRecDepth 100000 in
theorem fl_X2_62 : llFd RX2 62 4 9 (.array .int) true := ⟨_, _, _, _, cl_X5, by decide, wd_130, rfl, rfl⟩
set_option maxRecDepth 100000 in
theorem fl_X2_7 : llFd RX2 7 1 0 (.object "LeagueLevels$Pyramid") true := ⟨_, _, _, _, cl_X2, by decide, wd_244, rfl, rfl⟩
set_option maxRecDepth 100000 in
theorem fl_X3_104 : llFd RX3 104 4 3 (.array .int) true := ⟨_, _, _, _, cl_X5, by decide, wd_103, rfl, rfl⟩
set_option maxRecDepth 100000 in
theorem fl_X3_122 : llFd RX3 122 7 2 .int false := ⟨_, _, _, _, cl_X8, by decide, wd_305, rfl, rfl⟩
set_option maxRecDepth 100000 in
theorem fl_X3_125 : llFd RX3 125 7 3 (.array .int) true := ⟨_, _, _, _, cl_X8, by decide, wd_308, rfl, rfl⟩
set_option maxRecDepth 100000 in
theorem fl_X3_15 : llFd RX3 15 2 1 (.object "LeagueLevels$Season") true := ⟨_, _, _, _, cl_X3, by decide, wd_435, rfl, rfl⟩
set_option maxRecDepth 100000 in
theorem fl_X3_19 : llFd RX3 19 2 2 (.object "LeagueLevels$Table") true := ⟨_, _, _, _, cl_X3, by decide, wd_436, rfl, rfl⟩
set_option maxRecDepth 100000 in
theorem fl_X3_23 : llFd RX3 23 2 3 (.array .int) true := ⟨_, _, _, _, cl_X3, by decide, wd_437, rfl, rfl⟩
set_option maxRecDepth 100000 in
theorem fl_X3_27 : llFd RX3 27 2 4 (.array .int) true := ⟨_, _, _, _, cl_X3, by decide, wd_438, rfl, rfl⟩
set_option maxRecDepth 100000 in
theorem fl_X3_30 : llFd RX3 30 2 5 (.array .int) true := ⟨_, _, _, _, cl_X3, by decide, wd_439, rfl, rfl⟩
set_option maxRecDepth 100000 in
theorem fl_X3_33 : llFd RX3 33 2 6 (.array .int) true := ⟨_, _, _, _, cl_X3, by decide, wd_440, rfl, rfl⟩
set_option maxRecDepth 100000 in
theorem fl_X3_36 : llFd RX3 36 2 7 (.array .int) true := ⟨_, _, _, _, cl_X3, by decide, wd_441, rfl, rfl⟩
set_option maxRecDepth 100000 in
theorem fl_X3_39 : llFd RX3 39 4 5 .int false := ⟨_, _, _, _, cl_X5, by decide, wd_110, rfl, rfl⟩
set_option maxRecDepth 100000 in
theorem fl_X3_45 : llFd RX3 45 6 5 (.array .int) true := ⟨_, _, _, _, cl_X7, by decide, wd_189, rfl, rfl⟩
set_option maxRecDepth 100000 in
theorem fl_X3_54 : llFd RX3 54 4 10 (.array .int) true := ⟨_, _, _, _, cl_X5, by decide, wd_134, rfl, rfl⟩
set_option maxRecDepth 100000 in
theorem fl_X3_57 : llFd RX3 57 6 6 (.array .int) true := ⟨_, _, _, _, cl_X7, by decide, wd_193, rfl, rfl⟩
set_option maxRecDepth 100000 in
theorem fl_X3_60 : llFd RX3 60 4 9 (.array .int) true := ⟨_, _, _, _, cl_X5, by decide, wd_129, rfl, rfl⟩
set_option maxRecDepth 100000 in
theorem fl_X3_63 : llFd RX3 63 4 4 (.array .int) true := ⟨_, _, _, _, cl_X5, by decide, wd_106, rfl, rfl⟩
set_option maxRecDepth 100000 in
theorem fl_X3_69 : llFd RX3 69 4 0 .int false := ⟨_, _, _, _, cl_X5, by decide, wd_89, rfl, rfl⟩
set_option maxRecDepth 100000 in
theorem fl_X3_9 : llFd RX3 9 2 0 (.object "LeagueLevels$Pyramid") true := ⟨_, _, _, _, cl_X3, by decide, wd_434, rfl, rfl⟩
set_option maxRecDepth 100000 in
theorem fl_X4_100 : llFd RX4 100 3 7 .int false := ⟨_, _, _, _, cl_X4, by decide, wd_383, rfl, rfl⟩
set_option maxRecDepth 100000 in
theorem fl_X4_102 : llFd RX4 102 3 10 .int false := ⟨_, _, _, _, cl_X4, by decide, wd_386, rfl, rfl⟩
set_option maxRecDepth 100000 in
theorem fl_X4_112 : llFd RX4 112 3 16 .int false := ⟨_, _, _, _, cl_X4, by decide, wd_392, rfl, rfl⟩
set_option maxRecDepth 100000 in
theorem fl_X4_15 : llFd RX4 15 3 1 (.object "LeagueLevels$Travel") true := ⟨_, _, _, _, cl_X4, by decide, wd_375, rfl, rfl⟩
set_option maxRecDepth 100000 in
theorem fl_X4_19 : llFd RX4 19 3 2 (.array .int) true := ⟨_, _, _, _, cl_X4, by decide, wd_376, rfl, rfl⟩
set_option maxRecDepth 100000 in
theorem fl_X4_23 : llFd RX4 23 3 3 (.array .int) true := ⟨_, _, _, _, cl_X4, by decide, wd_377, rfl, rfl⟩
set_option maxRecDepth 100000 in
theorem fl_X4_26 : llFd RX4 26 3 4 (.array .int) true := ⟨_, _, _, _, cl_X4, by decide, wd_379, rfl, rfl⟩
set_option maxRecDepth 100000 in
theorem fl_X4_29 : llFd RX4 29 3 8 (.array .int) true := ⟨_, _, _, _, cl_X4, by decide, wd_384, rfl, rfl⟩
set_option maxRecDepth 100000 in
theorem fl_X4_32 : llFd RX4 32 3 9 (.array .int) true := ⟨_, _, _, _, cl_X4, by decide, wd_385, rfl, rfl⟩
set_option maxRecDepth 100000 in
theorem fl_X4_35 : llFd RX4 35 3 11 (.array .int) true := ⟨_, _, _, _, cl_X4, by decide, wd_387, rfl, rfl⟩
set_option maxRecDepth 100000 in
theorem fl_X4_38 : llFd RX4 38 3 12 (.array .int) true := ⟨_, _, _, _, cl_X4, by decide, wd_388, rfl, rfl⟩
set_option maxRecDepth 100000 in
theorem fl_X4_41 : llFd RX4 41 3 13 (.array .int) true := ⟨_, _, _, _, cl_X4, by decide, wd_389, rfl, rfl⟩
set_option maxRecDepth 100000 in
theorem fl_X4_44 : llFd RX4 44 3 14 (.array .int) true := ⟨_, _, _, _, cl_X4, by decide, wd_390, rfl, rfl⟩
set_option maxRecDepth 100000 in
theorem fl_X4_47 : llFd RX4 47 3 15 (.array .int) true := ⟨_, _, _, _, cl_X4, by decide, wd_391, rfl, rfl⟩
set_option maxRecDepth 100000 in
theorem fl_X4_56 : llFd RX4 56 4 5 .int false := ⟨_, _, _, _, cl_X5, by decide, wd_113, rfl, rfl⟩
set_option maxRecDepth 100000 in
theorem fl_X4_62 : llFd RX4 62 4 10 (.array .int) true := ⟨_, _, _, _, cl_X5, by decide, wd_135, rfl, rfl⟩
set_option maxRecDepth 100000 in
theorem fl_X4_73 : llFd RX4 73 4 0 .int false := ⟨_, _, _, _, cl_X5, by decide, wd_88, rfl, rfl⟩
set_option maxRecDepth 100000 in
theorem fl_X4_79 : llFd RX4 79 4 11 (.array .int) true := ⟨_, _, _, _, cl_X5, by decide, wd_142, rfl, rfl⟩
set_option maxRecDepth 100000 in
theorem fl_X4_89 : llFd RX4 89 3 5 .int false := ⟨_, _, _, _, cl_X4, by decide, wd_381, rfl, rfl⟩
set_option maxRecDepth 100000 in
theorem fl_X4_9 : llFd RX4 9 3 0 (.object "LeagueLevels$Pyramid") true := ⟨_, _, _, _, cl_X4, by decide, wd_374, rfl, rfl⟩
set_option maxRecDepth 100000 in
theorem fl_X4_92 : llFd RX4 92 4 2 (.array .int) true := ⟨_, _, _, _, cl_X5, by decide, wd_98, rfl, rfl⟩
set_option maxRecDepth 100000 in
theorem fl_X4_95 : llFd RX4 95 3 6 .int false := ⟨_, _, _, _, cl_X4, by decide, wd_382, rfl, rfl⟩
set_option maxRecDepth 100000 in
theorem fl_X4_97 : llFd RX4 97 4 1 (.array .int) true := ⟨_, _, _, _, cl_X5, by decide, wd_93, rfl, rfl⟩
set_option maxRecDepth 100000 in
theorem fl_X5_15 : llFd RX5 15 4 2 (.array .int) true := ⟨_, _, _, _, cl_X5, by decide, wd_96, rfl, rfl⟩
set_option maxRecDepth 100000 in
theorem fl_X5_18 : llFd RX5 18 4 3 (.array .int) true := ⟨_, _, _, _, cl_X5, by decide, wd_101, rfl, rfl⟩
set_option maxRecDepth 100000 in
theorem fl_X5_21 : llFd RX5 21 4 4 (.array .int) true := ⟨_, _, _, _, cl_X5, by decide, wd_105, rfl, rfl⟩
set_option maxRecDepth 100000 in
theorem fl_X5_24 : llFd RX5 24 4 6 (.array .long) true := ⟨_, _, _, _, cl_X5, by decide, wd_117, rfl, rfl⟩
set_option maxRecDepth 100000 in
theorem fl_X5_28 : llFd RX5 28 4 7 (.array .int) true := ⟨_, _, _, _, cl_X5, by decide, wd_120, rfl, rfl⟩
set_option maxRecDepth 100000 in
theorem fl_X5_31 : llFd RX5 31 4 8 (.array .int) true := ⟨_, _, _, _, cl_X5, by decide, wd_124, rfl, rfl⟩
set_option maxRecDepth 100000 in
theorem fl_X5_34 : llFd RX5 34 4 9 (.array .int) true := ⟨_, _, _, _, cl_X5, by decide, wd_128, rfl, rfl⟩
set_option maxRecDepth 100000 in
theorem fl_X5_37 : llFd RX5 37 4 10 (.array .int) true := ⟨_, _, _, _, cl_X5, by decide, wd_133, rfl, rfl⟩
set_option maxRecDepth 100000 in
theorem fl_X5_40 : llFd RX5 40 4 11 (.array .int) true := ⟨_, _, _, _, cl_X5, by decide, wd_139, rfl, rfl⟩
set_option maxRecDepth 100000 in
theorem fl_X5_43 : llFd RX5 43 4 0 .int false := ⟨_, _, _, _, cl_X5, by decide, wd_86, rfl, rfl⟩
set_option maxRecDepth 100000 in
theorem fl_X5_53 : llFd RX5 53 4 5 .int false := ⟨_, _, _, _, cl_X5, by decide, wd_112, rfl, rfl⟩
set_option maxRecDepth 100000 in
theorem fl_X5_9 : llFd RX5 9 4 1 (.array .int) true := ⟨_, _, _, _, cl_X5, by decide, wd_91, rfl, rfl⟩
set_option maxRecDepth 100000 in
theorem fl_X6_100 : llFd RX6 100 8 6 .long false := ⟨_, _, _, _, cl_X9, by decide, wd_50, rfl, rfl⟩
set_option maxRecDepth 100000 in
theorem fl_X6_108 : llFd RX6 108 4 6 (.array .long) true := ⟨_, _, _, _, cl_X5, by decide, wd_118, rfl, rfl⟩
set_option maxRecDepth 100000 in
theorem fl_X6_112 : llFd RX6 112 4 7 (.array .int) true := ⟨_, _, _, _, cl_X5, by decide, wd_122, rfl, rfl⟩
set_option maxRecDepth 100000 in
theorem fl_X6_115 : llFd RX6 115 4 8 (.array .int) true := ⟨_, _, _, _, cl_X5, by decide, wd_126, rfl, rfl⟩
set_option maxRecDepth 100000 in
theorem fl_X6_120 : llFd RX6 120 4 9 (.array .int) true := ⟨_, _, _, _, cl_X5, by decide, wd_131, rfl, rfl⟩
set_option maxRecDepth 100000 in
theorem fl_X6_126 : llFd RX6 126 4 10 (.array .int) true := ⟨_, _, _, _, cl_X5, by decide, wd_136, rfl, rfl⟩
set_option maxRecDepth 100000 in
theorem fl_X6_129 : llFd RX6 129 4 11 (.array .int) true := ⟨_, _, _, _, cl_X5, by decide, wd_141, rfl, rfl⟩
set_option maxRecDepth 100000 in
theorem fl_X6_18 : llFd RX6 18 5 1 (.object "LeagueLevels$Pyramid") true := ⟨_, _, _, _, cl_X6, by decide, wd_273, rfl, rfl⟩
set_option maxRecDepth 100000 in
theorem fl_X6_22 : llFd RX6 22 4 0 .int false := ⟨_, _, _, _, cl_X5, by decide, wd_87, rfl, rfl⟩
set_option maxRecDepth 100000 in
theorem fl_X6_26 : llFd RX6 26 4 5 .int false := ⟨_, _, _, _, cl_X5, by decide, wd_111, rfl, rfl⟩
set_option maxRecDepth 100000 in
theorem fl_X6_37 : llFd RX6 37 8 2 .int false := ⟨_, _, _, _, cl_X9, by decide, wd_43, rfl, rfl⟩
set_option maxRecDepth 100000 in
theorem fl_X6_84 : llFd RX6 84 4 1 (.array .int) true := ⟨_, _, _, _, cl_X5, by decide, wd_92, rfl, rfl⟩
set_option maxRecDepth 100000 in
theorem fl_X6_88 : llFd RX6 88 4 2 (.array .int) true := ⟨_, _, _, _, cl_X5, by decide, wd_97, rfl, rfl⟩
set_option maxRecDepth 100000 in
theorem fl_X6_9 : llFd RX6 9 5 0 (.object "LeagueLevels$Tape") true := ⟨_, _, _, _, cl_X6, by decide, wd_272, rfl, rfl⟩
set_option maxRecDepth 100000 in
theorem fl_X6_91 : llFd RX6 91 4 3 (.array .int) true := ⟨_, _, _, _, cl_X5, by decide, wd_102, rfl, rfl⟩
set_option maxRecDepth 100000 in
theorem fl_X6_94 : llFd RX6 94 4 4 (.array .int) true := ⟨_, _, _, _, cl_X5, by decide, wd_107, rfl, rfl⟩
set_option maxRecDepth 100000 in
theorem fl_X7_11 : llFd RX7 11 6 2 (.array .int) true := ⟨_, _, _, _, cl_X7, by decide, wd_183, rfl, rfl⟩
set_option maxRecDepth 100000 in
theorem fl_X7_15 : llFd RX7 15 6 3 (.array .int) true := ⟨_, _, _, _, cl_X7, by decide, wd_185, rfl, rfl⟩
set_option maxRecDepth 100000 in
theorem fl_X7_18 : llFd RX7 18 6 4 (.array .int) true := ⟨_, _, _, _, cl_X7, by decide, wd_187, rfl, rfl⟩
set_option maxRecDepth 100000 in
theorem fl_X7_27 : llFd RX7 27 6 5 (.array .int) true := ⟨_, _, _, _, cl_X7, by decide, wd_188, rfl, rfl⟩
set_option maxRecDepth 100000 in
theorem fl_X7_30 : llFd RX7 30 6 6 (.array .int) true := ⟨_, _, _, _, cl_X7, by decide, wd_192, rfl, rfl⟩
set_option maxRecDepth 100000 in
theorem fl_X7_33 : llFd RX7 33 6 7 (.array .int) true := ⟨_, _, _, _, cl_X7, by decide, wd_196, rfl, rfl⟩
set_option maxRecDepth 100000 in
theorem fl_X7_36 : llFd RX7 36 6 8 (.array .int) true := ⟨_, _, _, _, cl_X7, by decide, wd_199, rfl, rfl⟩
set_option maxRecDepth 100000 in
theorem fl_X7_39 : llFd RX7 39 6 9 (.array .int) true := ⟨_, _, _, _, cl_X7, by decide, wd_202, rfl, rfl⟩
set_option maxRecDepth 100000 in
theorem fl_X7_42 : llFd RX7 42 6 10 (.array .int) true := ⟨_, _, _, _, cl_X7, by decide, wd_204, rfl, rfl⟩
set_option maxRecDepth 100000 in
theorem fl_X7_45 : llFd RX7 45 6 11 (.array .int) true := ⟨_, _, _, _, cl_X7, by decide, wd_206, rfl, rfl⟩
set_option maxRecDepth 100000 in
theorem fl_X7_48 : llFd RX7 48 6 12 (.array .int) true := ⟨_, _, _, _, cl_X7, by decide, wd_209, rfl, rfl⟩
set_option maxRecDepth 100000 in
theorem fl_X7_55 : llFd RX7 55 6 1 .int false := ⟨_, _, _, _, cl_X7, by decide, wd_181, rfl, rfl⟩
set_option maxRecDepth 100000 in
theorem fl_X7_82 : llFd RX7 82 4 5 .int false := ⟨_, _, _, _, cl_X5, by decide, wd_116, rfl, rfl⟩
set_option maxRecDepth 100000 in
theorem fl_X8_101 : llFd RX8 101 4 6 (.array .long) true := ⟨_, _, _, _, cl_X5, by decide, wd_119, rfl, rfl⟩
set_option maxRecDepth 100000 in
theorem fl_X8_15 : llFd RX8 15 7 1 (.object "LeagueLevels$Season") true := ⟨_, _, _, _, cl_X8, by decide, wd_303, rfl, rfl⟩
set_option maxRecDepth 100000 in
theorem fl_X8_19 : llFd RX8 19 7 3 (.array .int) true := ⟨_, _, _, _, cl_X8, by decide, wd_307, rfl, rfl⟩
set_option maxRecDepth 100000 in
theorem fl_X8_23 : llFd RX8 23 7 4 (.array .int) true := ⟨_, _, _, _, cl_X8, by decide, wd_310, rfl, rfl⟩
set_option maxRecDepth 100000 in
theorem fl_X8_26 : llFd RX8 26 7 5 (.array .int) true := ⟨_, _, _, _, cl_X8, by decide, wd_312, rfl, rfl⟩
set_option maxRecDepth 100000 in
theorem fl_X8_29 : llFd RX8 29 7 7 (.array .int) true := ⟨_, _, _, _, cl_X8, by decide, wd_315, rfl, rfl⟩
set_option maxRecDepth 100000 in
theorem fl_X8_38 : llFd RX8 38 7 2 .int false := ⟨_, _, _, _, cl_X8, by decide, wd_304, rfl, rfl⟩
set_option maxRecDepth 100000 in
theorem fl_X8_55 : llFd RX8 55 4 11 (.array .int) true := ⟨_, _, _, _, cl_X5, by decide, wd_140, rfl, rfl⟩
set_option maxRecDepth 100000 in
theorem fl_X8_65 : llFd RX8 65 6 11 (.array .int) true := ⟨_, _, _, _, cl_X7, by decide, wd_207, rfl, rfl⟩
set_option maxRecDepth 100000 in
theorem fl_X8_74 : llFd RX8 74 6 8 (.array .int) true := ⟨_, _, _, _, cl_X7, by decide, wd_200, rfl, rfl⟩
set_option maxRecDepth 100000 in
theorem fl_X8_83 : llFd RX8 83 4 2 (.array .int) true := ⟨_, _, _, _, cl_X5, by decide, wd_99, rfl, rfl⟩
set_option maxRecDepth 100000 in
theorem fl_X8_86 : llFd RX8 86 4 10 (.array .int) true := ⟨_, _, _, _, cl_X5, by decide, wd_137, rfl, rfl⟩
set_option maxRecDepth 100000 in
theorem fl_X8_89 : llFd RX8 89 4 5 .int false := ⟨_, _, _, _, cl_X5, by decide, wd_115, rfl, rfl⟩
set_option maxRecDepth 100000 in
theorem fl_X8_9 : llFd RX8 9 7 0 (.object "LeagueLevels$Pyramid") true := ⟨_, _, _, _, cl_X8, by decide, wd_302, rfl, rfl⟩
set_option maxRecDepth 100000 in
theorem fl_X8_95 : llFd RX8 95 7 6 .int false := ⟨_, _, _, _, cl_X8, by decide, wd_313, rfl, rfl⟩
set_option maxRecDepth 100000 in
theorem fl_X9_11 : llFd RX9 11 8 0 (.array .int) true := ⟨_, _, _, _, cl_X9, by decide, wd_39, rfl, rfl⟩
set_option maxRecDepth 100000 in
theorem fl_X9_15 : llFd RX9 15 8 8 .int false := ⟨_, _, _, _, cl_X9, by decide, wd_55, rfl, rfl⟩
set_option maxRecDepth 100000 in
theorem fl_X9_19 : llFd RX9 19 8 1 .int false := ⟨_, _, _, _, cl_X9, by decide, wd_41, rfl, rfl⟩
set_option maxRecDepth 100000 in
theorem fl_X9_22 : llFd RX9 22 8 9 .int false := ⟨_, _, _, _, cl_X9, by decide, wd_57, rfl, rfl⟩
set_option maxRecDepth 100000 in
theorem fl_X9_25 : llFd RX9 25 8 7 .int false := ⟨_, _, _, _, cl_X9, by decide, wd_53, rfl, rfl⟩
set_option maxRecDepth 100000 in
theorem fl_X9_28 : llFd RX9 28 8 3 .int false := ⟨_, _, _, _, cl_X9, by decide, wd_46, rfl, rfl⟩
set_option maxRecDepth 100000 in
theorem fl_X9_31 : llFd RX9 31 8 2 .int false := ⟨_, _, _, _, cl_X9, by decide, wd_44, rfl, rfl⟩
set_option maxRecDepth 100000 in
theorem fl_X9_34 : llFd RX9 34 8 5 .int false := ⟨_, _, _, _, cl_X9, by decide, wd_48, rfl, rfl⟩
set_option maxRecDepth 100000 in
theorem fl_X9_43 : llFd RX9 43 8 6 .long false := ⟨_, _, _, _, cl_X9, by decide, wd_51, rfl, rfl⟩
set_option maxRecDepth 100000 in
theorem fl_X9_47 : llFd RX9 47 8 4 .int false := ⟨_, _, _, _, cl_X9, by decide, wd_47, rfl, rfl⟩
set_option maxRecDepth 100000 in
theorem ym_J0_charAt_5068e : llYv yJ0_charAt_5068e cJ0_charAt_5068e 2 (some .char) 1 := ⟨wd_1361, wd_1359, wd_1360, wd_16, ⟨by decide, by decide, by decide +kernel⟩, by decide⟩
set_option maxRecDepth 100000 in
theorem ym_J0_checkIndex_df160 : llYs yJ0_checkIndex_df160 cJ0_checkIndex_df160 2 none 2 := ⟨wd_1371, wd_1370, wd_16, ⟨by decide, by decide, by decide +kernel⟩, by decide⟩
set_option maxRecDepth 100000 in
theorem ym_J0_coder_7d493 : llYv yJ0_coder_7d493 cJ0_coder_7d493 1 (some .byte) 0 := ⟨wd_1352, wd_1350, wd_1351, wd_16, ⟨by decide, by decide, by decide +kernel⟩, by decide⟩
set_option maxRecDepth 100000 in
theorem ym_J0_isLatin1_aae02 : llYv yJ0_isLatin1_aae02 cJ0_isLatin1_aae02 1 (some .boolean) 0 := ⟨wd_1365, wd_1363, wd_1364, wd_16, ⟨by decide, by decide, by decide +kernel⟩, by decide⟩
set_option maxRecDepth 100000 in
theorem ym_J0_length_8abf5 : llYv yJ0_length_8abf5 cJ0_length_8abf5 1 (some .int) 0 := ⟨wd_1348, wd_1346, wd_1347, wd_16, ⟨by decide, by decide, by decide +kernel⟩, by decide⟩
set_option maxRecDepth 100000 in
theorem ym_J1_charAt_3b067 : llYs yJ1_charAt_3b067 cJ1_charAt_3b067 2 (some .char) 2 := ⟨wd_1368, wd_1367, wd_17, ⟨by decide, by decide, by decide +kernel⟩, by decide⟩
set_option maxRecDepth 100000 in
theorem ym_J3_checkIndex_8e157 : llYs yJ3_checkIndex_8e157 cJ3_checkIndex_8e157 3 (some .int) 3 := ⟨wd_1376, wd_1375, wd_18, ⟨by decide, by decide, by decide +kernel⟩, by decide⟩
set_option maxRecDepth 100000 in
theorem ym_J6_bitCount_0f7a4 : llYs yJ6_bitCount_0f7a4 cJ6_bitCount_0f7a4 1 (some .int) 1 := ⟨wd_876, wd_875, wd_21, ⟨by decide, by decide, by decide +kernel⟩, by decide⟩
set_option maxRecDepth 100000 in
theorem ym_J7_fill_53178 : llYs yJ7_fill_53178 cJ7_fill_53178 4 none 2 := ⟨wd_179, wd_178, wd_5, ⟨by decide, by decide, by decide +kernel⟩, by decide⟩
set_option maxRecDepth 100000 in
theorem ym_Jxe99ae_doubleToLongBits_ccdee : llYs yJxe99ae_doubleToLongBits_ccdee cJxe99ae_doubleToLongBits_ccdee 2 (some .long) 1 := ⟨wd_1678, wd_1677, wd_24, ⟨by decide, by decide, by decide +kernel⟩, by decide⟩
set_option maxRecDepth 100000 in
theorem ym_Jxe99ae_isNaN_b9ae7 : llYs yJxe99ae_isNaN_b9ae7 cJxe99ae_isNaN_b9ae7 2 (some .boolean) 1 := ⟨wd_1681, wd_1680, wd_24, ⟨by decide, by decide, by decide +kernel⟩, by decide⟩
set_option maxRecDepth 100000 in
theorem ym_Jxf58ca_floatToIntBits_5c35a : llYs yJxf58ca_floatToIntBits_5c35a cJxf58ca_floatToIntBits_5c35a 1 (some .int) 1 := ⟨wd_1609, wd_1608, wd_23, ⟨by decide, by decide, by decide +kernel⟩, by decide⟩
set_option maxRecDepth 100000 in
theorem ym_Jxf58ca_isNaN_12338 : llYs yJxf58ca_isNaN_12338 cJxf58ca_isNaN_12338 1 (some .boolean) 1 := ⟨wd_1612, wd_1611, wd_23, ⟨by decide, by decide, by decide +kernel⟩, by decide⟩
set_option maxRecDepth 100000 in
theorem ym_X0_ofDouble : llYs yX0_ofDouble cX0_ofDouble 7 (some .long) 1 := ⟨wd_933, wd_932, wd_22, ⟨by decide, by decide, by decide +kernel⟩, by decide⟩
set_option maxRecDepth 100000 in
theorem ym_X0_ofFloat : llYs yX0_ofFloat cX0_ofFloat 5 (some .int) 1 := ⟨wd_930, wd_929, wd_22, ⟨by decide, by decide, by decide +kernel⟩, by decide⟩
set_option maxRecDepth 100000 in
theorem ym_X10_between : llYv yX10_between cX10_between 3 (some .int) 2 := ⟨wd_867, wd_865, wd_866, wd_10, ⟨by decide, by decide, by decide +kernel⟩, by decide⟩
set_option maxRecDepth 100000 in
theorem ym_X10_closest : llYv yX10_closest cX10_closest 5 (some .int) 1 := ⟨wd_1072, wd_1070, wd_1071, wd_10, ⟨by decide, by decide, by decide +kernel⟩, by decide⟩
set_option maxRecDepth 100000 in
theorem ym_X10_divisionOf : llYv yX10_divisionOf cX10_divisionOf 2 (some .int) 1 := ⟨wd_1015, wd_1014, (llTb_of (List.mem_append_left _ (List.mem_of_getElem? (i := 28) (by decide +kernel))) (by decide)), wd_10, ⟨by decide, by decide, by decide +kernel⟩, by decide⟩
set_option maxRecDepth 100000 in
theorem ym_X10_farFrom : llYv yX10_farFrom cX10_farFrom 3 (some .int) 2 := ⟨wd_1023, wd_1022, (llTb_of (List.mem_append_left _ (List.mem_of_getElem? (i := 30) (by decide +kernel))) (by decide)), wd_10, ⟨by decide, by decide, by decide +kernel⟩, by decide⟩
set_option maxRecDepth 100000 in
theorem ym_X10_findSwap : llYv yX10_findSwap cX10_findSwap 5 (some .boolean) 1 := ⟨wd_1006, wd_1004, wd_1005, wd_10, ⟨by decide, by decide, by decide +kernel⟩, by decide⟩
set_option maxRecDepth 100000 in
theorem ym_X10_measure : llYv yX10_measure cX10_measure 6 none 0 := ⟨wd_626, wd_624, wd_625, wd_10, ⟨by decide, by decide, by decide +kernel⟩, by decide⟩
set_option maxRecDepth 100000 in
theorem ym_X10_midmost : llYv yX10_midmost cX10_midmost 7 (some .int) 1 := ⟨wd_1031, wd_1029, wd_1030, wd_10, ⟨by decide, by decide, by decide +kernel⟩, by decide⟩
set_option maxRecDepth 100000 in
theorem ym_X10_ofLevel : llYv yX10_ofLevel cX10_ofLevel 4 (some .int) 1 := ⟨wd_966, wd_964, wd_965, wd_10, ⟨by decide, by decide, by decide +kernel⟩, by decide⟩
set_option maxRecDepth 100000 in
theorem ym_X10_rootOf : llYs yX10_rootOf cX10_rootOf 4 (some .int) 1 := ⟨wd_629, wd_628, wd_10, ⟨by decide, by decide, by decide +kernel⟩, by decide⟩
set_option maxRecDepth 100000 in
theorem ym_X10_savingOf : llYv yX10_savingOf cX10_savingOf 5 (some .int) 2 := ⟨wd_1019, wd_1018, (llTb_of (List.mem_append_left _ (List.mem_of_getElem? (i := 29) (by decide +kernel))) (by decide)), wd_10, ⟨by decide, by decide, by decide +kernel⟩, by decide⟩
set_option maxRecDepth 100000 in
theorem ym_X10_strangersOf : llYv yX10_strangersOf cX10_strangersOf 5 (some .int) 1 := ⟨wd_1092, wd_1090, wd_1091, wd_10, ⟨by decide, by decide, by decide +kernel⟩, by decide⟩
set_option maxRecDepth 100000 in
theorem ym_X10_survey : llYv yX10_survey cX10_survey 4 none 1 := ⟨wd_1010, wd_1009, (llTb_of (List.mem_append_left _ (List.mem_of_getElem? (i := 27) (by decide +kernel))) (by decide)), wd_10, ⟨by decide, by decide, by decide +kernel⟩, by decide⟩
set_option maxRecDepth 100000 in
theorem ym_X10_toDivision : llYv yX10_toDivision cX10_toDivision 6 (some .int) 3 := ⟨wd_915, wd_913, wd_914, wd_10, ⟨by decide, by decide, by decide +kernel⟩, by decide⟩
set_option maxRecDepth 100000 in
theorem ym_X10_withinTwice : llYv yX10_withinTwice cX10_withinTwice 5 (some .int) 2 := ⟨wd_970, wd_968, wd_969, wd_10, ⟨by decide, by decide, by decide +kernel⟩, by decide⟩
set_option maxRecDepth 100000 in
theorem ym_X11_above : llYv yX11_above cX11_above 2 (some .int) 1 := ⟨wd_1054, wd_1052, wd_1053, wd_1, ⟨by decide, by decide, by decide +kernel⟩, by decide⟩
set_option maxRecDepth 100000 in
theorem ym_X11_average : llYv yX11_average cX11_average 3 (some .int) 1 := ⟨wd_927, wd_925, wd_926, wd_1, ⟨by decide, by decide, by decide +kernel⟩, by decide⟩
set_option maxRecDepth 100000 in
theorem ym_X11_close : llYv yX11_close cX11_close 2 (some .int) 0 := ⟨wd_742, wd_740, wd_741, wd_1, ⟨by decide, by decide, by decide +kernel⟩, by decide⟩
set_option maxRecDepth 100000 in
theorem ym_X11_club : llYv yX11_club cX11_club 3 (some .int) 2 := ⟨wd_902, wd_900, wd_901, wd_1, ⟨by decide, by decide, by decide +kernel⟩, by decide⟩
set_option maxRecDepth 100000 in
theorem ym_X11_day : llYv yX11_day cX11_day 4 (some .int) 0 := ⟨wd_663, wd_661, wd_662, wd_1, ⟨by decide, by decide, by decide +kernel⟩, by decide⟩
set_option maxRecDepth 100000 in
theorem ym_X11_deduct : llYv yX11_deduct cX11_deduct 3 (some .boolean) 2 := ⟨wd_733, wd_731, wd_732, wd_1, ⟨by decide, by decide, by decide +kernel⟩, by decide⟩
set_option maxRecDepth 100000 in
theorem ym_X11_end : llYv yX11_end cX11_end 2 (some .boolean) 1 := ⟨wd_502, wd_500, wd_501, wd_1, ⟨by decide, by decide, by decide +kernel⟩, by decide⟩
set_option maxRecDepth 100000 in
theorem ym_X11_fault : llYv yX11_fault cX11_fault 2 (some .int) 1 := ⟨wd_710, wd_708, wd_709, wd_1, ⟨by decide, by decide, by decide +kernel⟩, by decide⟩
set_option maxRecDepth 100000 in
theorem ym_X11_feed : llYv yX11_feed cX11_feed 6 (some .int) 5 := ⟨wd_494, wd_492, wd_493, wd_1, ⟨by decide, by decide, by decide +kernel⟩, by decide⟩
set_option maxRecDepth 100000 in
theorem ym_X11_grade : llYv yX11_grade cX11_grade 4 (some .boolean) 2 := ⟨wd_737, wd_735, wd_736, wd_1, ⟨by decide, by decide, by decide +kernel⟩, by decide⟩
set_option maxRecDepth 100000 in
theorem ym_X11_journeys : llYv yX11_journeys cX11_journeys 4 (some .int) 1 := ⟨wd_1063, wd_1061, wd_1062, wd_1, ⟨by decide, by decide, by decide +kernel⟩, by decide⟩
set_option maxRecDepth 100000 in
theorem ym_X11_level : llYv yX11_level cX11_level 3 (some .int) 2 := ⟨wd_960, wd_958, wd_959, wd_1, ⟨by decide, by decide, by decide +kernel⟩, by decide⟩
set_option maxRecDepth 100000 in
theorem ym_X11_look : llYv yX11_look cX11_look 2 (some .int) 1 := ⟨wd_1124, wd_1122, wd_1123, wd_1, ⟨by decide, by decide, by decide +kernel⟩, by decide⟩
set_option maxRecDepth 100000 in
theorem ym_X11_match : llYv yX11_match cX11_match 4 (some .int) 3 := ⟨wd_1048, wd_1046, wd_1047, wd_1, ⟨by decide, by decide, by decide +kernel⟩, by decide⟩
set_option maxRecDepth 100000 in
theorem ym_X11_middle : llYv yX11_middle cX11_middle 2 (some .int) 1 := ⟨wd_1027, wd_1025, wd_1026, wd_1, ⟨by decide, by decide, by decide +kernel⟩, by decide⟩
set_option maxRecDepth 100000 in
theorem ym_X11_moves : llYv yX11_moves cX11_moves 5 (some .int) 3 := ⟨wd_976, wd_974, wd_975, wd_1, ⟨by decide, by decide, by decide +kernel⟩, by decide⟩
set_option maxRecDepth 100000 in
theorem ym_X11_named : llYv yX11_named cX11_named 5 (some .int) 0 := ⟨wd_714, wd_712, wd_713, wd_1, ⟨by decide, by decide, by decide +kernel⟩, by decide⟩
set_option maxRecDepth 100000 in
theorem ym_X11_nearest : llYv yX11_nearest cX11_nearest 2 (some .int) 1 := ⟨wd_1068, wd_1066, wd_1067, wd_1, ⟨by decide, by decide, by decide +kernel⟩, by decide⟩
set_option maxRecDepth 100000 in
theorem ym_X11_needs : llYv yX11_needs cX11_needs 3 (some .int) 1 := ⟨wd_989, wd_987, wd_988, wd_1, ⟨by decide, by decide, by decide +kernel⟩, by decide⟩
set_option maxRecDepth 100000 in
theorem ym_X11_of : llYv yX11_of cX11_of 3 (some .int) 2 := ⟨wd_906, wd_904, wd_905, wd_1, ⟨by decide, by decide, by decide +kernel⟩, by decide⟩
set_option maxRecDepth 100000 in
theorem ym_X11_order : llYv yX11_order cX11_order 3 (some .int) 2 := ⟨wd_955, wd_953, wd_954, wd_1, ⟨by decide, by decide, by decide +kernel⟩, by decide⟩
set_option maxRecDepth 100000 in
theorem ym_X11_out : llYv yX11_out cX11_out 2 (some .int) 1 := ⟨wd_1120, wd_1118, wd_1119, wd_1, ⟨by decide, by decide, by decide +kernel⟩, by decide⟩
set_option maxRecDepth 100000 in
theorem ym_X11_parted : llYv yX11_parted cX11_parted 2 (some .int) 1 := ⟨wd_998, wd_996, wd_997, wd_1, ⟨by decide, by decide, by decide +kernel⟩, by decide⟩
set_option maxRecDepth 100000 in
theorem ym_X11_points : llYv yX11_points cX11_points 2 (some .int) 1 := ⟨wd_921, wd_919, wd_920, wd_1, ⟨by decide, by decide, by decide +kernel⟩, by decide⟩
set_option maxRecDepth 100000 in
theorem ym_X11_pyramid : llYv yX11_pyramid cX11_pyramid 2 (some .int) 0 := ⟨wd_506, wd_504, wd_505, wd_1, ⟨by decide, by decide, by decide +kernel⟩, by decide⟩
set_option maxRecDepth 100000 in
theorem ym_X11_ranked : llYv yX11_ranked cX11_ranked 4 (some .int) 3 := ⟨wd_943, wd_941, wd_942, wd_1, ⟨by decide, by decide, by decide +kernel⟩, by decide⟩
set_option maxRecDepth 100000 in
theorem ym_X11_refuse : llYv yX11_refuse cX11_refuse 2 (some .boolean) 1 := ⟨wd_729, wd_727, wd_728, wd_1, ⟨by decide, by decide, by decide +kernel⟩, by decide⟩
set_option maxRecDepth 100000 in
theorem ym_X11_resign : llYv yX11_resign cX11_resign 2 (some .boolean) 1 := ⟨wd_724, wd_722, wd_723, wd_1, ⟨by decide, by decide, by decide +kernel⟩, by decide⟩
set_option maxRecDepth 100000 in
theorem ym_X11_rest : llYv yX11_rest cX11_rest 6 (some .long) 2 := ⟨wd_1036, wd_1034, wd_1035, wd_1, ⟨by decide, by decide, by decide +kernel⟩, by decide⟩
set_option maxRecDepth 100000 in
theorem ym_X11_show : llYv yX11_show cX11_show 3 (some .int) 2 := ⟨wd_1096, wd_1094, wd_1095, wd_1, ⟨by decide, by decide, by decide +kernel⟩, by decide⟩
set_option maxRecDepth 100000 in
theorem ym_X11_strangers : llYv yX11_strangers cX11_strangers 2 (some .int) 1 := ⟨wd_1088, wd_1086, wd_1087, wd_1, ⟨by decide, by decide, by decide +kernel⟩, by decide⟩
set_option maxRecDepth 100000 in
theorem ym_X11_swap : llYv yX11_swap cX11_swap 3 (some .int) 2 := ⟨wd_1002, wd_1000, wd_1001, wd_1, ⟨by decide, by decide, by decide +kernel⟩, by decide⟩
set_option maxRecDepth 100000 in
theorem ym_X11_undo : llYv yX11_undo cX11_undo 1 (some .boolean) 0 := ⟨wd_888, wd_886, wd_887, wd_1, ⟨by decide, by decide, by decide +kernel⟩, by decide⟩
set_option maxRecDepth 100000 in
theorem ym_X11_versus : llYv yX11_versus cX11_versus 3 (some .int) 2 := ⟨wd_1077, wd_1075, wd_1076, wd_1, ⟨by decide, by decide, by decide +kernel⟩, by decide⟩
set_option maxRecDepth 100000 in
theorem ym_X11_would : llYv yX11_would cX11_would 2 (some .int) 1 := ⟨wd_985, wd_983, wd_984, wd_1, ⟨by decide, by decide, by decide +kernel⟩, by decide⟩
set_option maxRecDepth 100000 in
theorem ym_X12_above : llYv yX12_above cX12_above 6 (some .int) 1 := ⟨wd_1693, wd_1691, wd_1692, wd_13, ⟨by decide, by decide, by decide +kernel⟩, by decide⟩
set_option maxRecDepth 100000 in
theorem ym_X12_areTogether : llYv yX12_areTogether cX12_areTogether 3 (some .boolean) 2 := ⟨wd_1466, wd_1465, (llTb_of (List.mem_append_left _ (List.mem_of_getElem? (i := 53) (by decide +kernel))) (by decide)), wd_13, ⟨by decide, by decide, by decide +kernel⟩, by decide⟩
set_option maxRecDepth 100000 in
theorem ym_X12_average : llYv yX12_average cX12_average 2 (some .int) 1 := ⟨wd_1606, wd_1604, wd_1605, wd_13, ⟨by decide, by decide, by decide +kernel⟩, by decide⟩
set_option maxRecDepth 100000 in
theorem ym_X12_averageOf : llYv yX12_averageOf cX12_averageOf 3 (some .float) 1 := ⟨wd_1539, wd_1538, (llTb_of (List.mem_append_left _ (List.mem_of_getElem? (i := 63) (by decide +kernel))) (by decide)), wd_13, ⟨by decide, by decide, by decide +kernel⟩, by decide⟩
set_option maxRecDepth 100000 in
theorem ym_X12_begins : llYv yX12_begins cX12_begins 1 none 0 := ⟨wd_1323, wd_1322, (llTb_of (List.mem_append_left _ (List.mem_of_getElem? (i := 35) (by decide +kernel))) (by decide)), wd_13, ⟨by decide, by decide, by decide +kernel⟩, by decide⟩
set_option maxRecDepth 100000 in
theorem ym_X12_close : llYv yX12_close cX12_close 4 (some .int) 0 := ⟨wd_1508, wd_1506, wd_1507, wd_13, ⟨by decide, by decide, by decide +kernel⟩, by decide⟩
set_option maxRecDepth 100000 in
theorem ym_X12_club : llYv yX12_club cX12_club 3 (some .int) 2 := ⟨wd_1588, wd_1586, wd_1587, wd_13, ⟨by decide, by decide, by decide +kernel⟩, by decide⟩
set_option maxRecDepth 100000 in
theorem ym_X12_day : llYv yX12_day cX12_day 3 (some .int) 0 := ⟨wd_1458, wd_1456, wd_1457, wd_13, ⟨by decide, by decide, by decide +kernel⟩, by decide⟩
set_option maxRecDepth 100000 in
theorem ym_X12_deduct : llYv yX12_deduct cX12_deduct 3 (some .boolean) 2 := ⟨wd_1498, wd_1496, wd_1497, wd_13, ⟨by decide, by decide, by decide +kernel⟩, by decide⟩
set_option maxRecDepth 100000 in
theorem ym_X12_end : llYv yX12_end cX12_end 2 (some .boolean) 1 := ⟨wd_1312, wd_1310, wd_1311, wd_13, ⟨by decide, by decide, by decide +kernel⟩, by decide⟩
set_option maxRecDepth 100000 in
theorem ym_X12_ends : llYv yX12_ends cX12_ends 7 (some .boolean) 0 := ⟨wd_1512, wd_1511, (llTb_of (List.mem_append_left _ (List.mem_of_getElem? (i := 57) (by decide +kernel))) (by decide)), wd_13, ⟨by decide, by decide, by decide +kernel⟩, by decide⟩
set_option maxRecDepth 100000 in
theorem ym_X12_fails : llYv yX12_fails cX12_fails 2 (some .boolean) 1 := ⟨wd_1403, wd_1402, (llTb_of (List.mem_append_left _ (List.mem_of_getElem? (i := 41) (by decide +kernel))) (by decide)), wd_13, ⟨by decide, by decide, by decide +kernel⟩, by decide⟩
set_option maxRecDepth 100000 in
theorem ym_X12_fault : llYv yX12_fault cX12_fault 2 (some .int) 1 := ⟨wd_1482, wd_1480, wd_1481, wd_13, ⟨by decide, by decide, by decide +kernel⟩, by decide⟩
set_option maxRecDepth 100000 in
theorem ym_X12_feed : llYv yX12_feed cX12_feed 6 (some .int) 5 := ⟨wd_1304, wd_1302, wd_1303, wd_13, ⟨by decide, by decide, by decide +kernel⟩, by decide⟩
set_option maxRecDepth 100000 in
theorem ym_X12_fills : llYv yX12_fills cX12_fills 9 none 4 := ⟨wd_1584, wd_1583, (llTb_of (List.mem_append_left _ (List.mem_of_getElem? (i := 74) (by decide +kernel))) (by decide)), wd_13, ⟨by decide, by decide, by decide +kernel⟩, by decide⟩
set_option maxRecDepth 100000 in
theorem ym_X12_four : llYv yX12_four cX12_four 3 none 1 := ⟨wd_1308, wd_1307, (llTb_of (List.mem_append_left _ (List.mem_of_getElem? (i := 34) (by decide +kernel))) (by decide)), wd_13, ⟨by decide, by decide, by decide +kernel⟩, by decide⟩
set_option maxRecDepth 100000 in
theorem ym_X12_gains : llYs yX12_gains cX12_gains 2 (some .int) 2 := ⟨wd_1708, wd_1707, wd_13, ⟨by decide, by decide, by decide +kernel⟩, by decide⟩
set_option maxRecDepth 100000 in
theorem ym_X12_goalsAt : llYv yX12_goalsAt cX12_goalsAt 3 (some .int) 2 := ⟨wd_1532, wd_1531, (llTb_of (List.mem_append_left _ (List.mem_of_getElem? (i := 62) (by decide +kernel))) (by decide)), wd_13, ⟨by decide, by decide, by decide +kernel⟩, by decide⟩
set_option maxRecDepth 100000 in
theorem ym_X12_goesUp : llYv yX12_goesUp cX12_goesUp 3 none 1 := ⟨wd_1568, wd_1567, (llTb_of (List.mem_append_left _ (List.mem_of_getElem? (i := 70) (by decide +kernel))) (by decide)), wd_13, ⟨by decide, by decide, by decide +kernel⟩, by decide⟩
set_option maxRecDepth 100000 in
theorem ym_X12_grade : llYv yX12_grade cX12_grade 3 (some .boolean) 2 := ⟨wd_1503, wd_1501, wd_1502, wd_13, ⟨by decide, by decide, by decide +kernel⟩, by decide⟩
set_option maxRecDepth 100000 in
theorem ym_X12_isAhead : llYv yX12_isAhead cX12_isAhead 3 (some .boolean) 2 := ⟨wd_1543, wd_1542, (llTb_of (List.mem_append_left _ (List.mem_of_getElem? (i := 64) (by decide +kernel))) (by decide)), wd_13, ⟨by decide, by decide, by decide +kernel⟩, by decide⟩
set_option maxRecDepth 100000 in
theorem ym_X12_isBefore : llYv yX12_isBefore cX12_isBefore 3 (some .boolean) 2 := ⟨wd_1547, wd_1546, (llTb_of (List.mem_append_left _ (List.mem_of_getElem? (i := 65) (by decide +kernel))) (by decide)), wd_13, ⟨by decide, by decide, by decide +kernel⟩, by decide⟩
set_option maxRecDepth 100000 in
theorem ym_X12_isClub : llYv yX12_isClub cX12_isClub 2 (some .boolean) 1 := ⟨wd_1474, wd_1473, (llTb_of (List.mem_append_left _ (List.mem_of_getElem? (i := 55) (by decide +kernel))) (by decide)), wd_13, ⟨by decide, by decide, by decide +kernel⟩, by decide⟩
set_option maxRecDepth 100000 in
theorem ym_X12_isDivision : llYv yX12_isDivision cX12_isDivision 3 (some .boolean) 2 := ⟨wd_1624, wd_1623, (llTb_of (List.mem_append_left _ (List.mem_of_getElem? (i := 76) (by decide +kernel))) (by decide)), wd_13, ⟨by decide, by decide, by decide +kernel⟩, by decide⟩
set_option maxRecDepth 100000 in
theorem ym_X12_isIn : llYs yX12_isIn cX12_isIn 6 (some .boolean) 3 := ⟨wd_1315, wd_1314, wd_13, ⟨by decide, by decide, by decide +kernel⟩, by decide⟩
set_option maxRecDepth 100000 in
theorem ym_X12_isLevel : llYv yX12_isLevel cX12_isLevel 2 (some .boolean) 1 := ⟨wd_1628, wd_1627, (llTb_of (List.mem_append_left _ (List.mem_of_getElem? (i := 77) (by decide +kernel))) (by decide)), wd_13, ⟨by decide, by decide, by decide +kernel⟩, by decide⟩
set_option maxRecDepth 100000 in
theorem ym_X12_isName : llYv yX12_isName cX12_isName 1 (some .boolean) 0 := ⟨wd_1428, wd_1427, (llTb_of (List.mem_append_left _ (List.mem_of_getElem? (i := 46) (by decide +kernel))) (by decide)), wd_13, ⟨by decide, by decide, by decide +kernel⟩, by decide⟩
set_option maxRecDepth 100000 in
theorem ym_X12_isRead : llYv yX12_isRead cX12_isRead 1 (some .boolean) 0 := ⟨wd_1449, wd_1448, (llTb_of (List.mem_append_left _ (List.mem_of_getElem? (i := 50) (by decide +kernel))) (by decide)), wd_13, ⟨by decide, by decide, by decide +kernel⟩, by decide⟩
set_option maxRecDepth 100000 in
theorem ym_X12_isWord : llYv yX12_isWord cX12_isWord 2 (some .boolean) 1 := ⟨wd_1344, wd_1343, (llTb_of (List.mem_append_left _ (List.mem_of_getElem? (i := 39) (by decide +kernel))) (by decide)), wd_13, ⟨by decide, by decide, by decide +kernel⟩, by decide⟩
set_option maxRecDepth 100000 in
theorem ym_X12_journeys : llYv yX12_journeys cX12_journeys 4 (some .int) 1 := ⟨wd_1697, wd_1695, wd_1696, wd_13, ⟨by decide, by decide, by decide +kernel⟩, by decide⟩
set_option maxRecDepth 100000 in
theorem ym_X12_keeps : llYv yX12_keeps cX12_keeps 2 none 0 := ⟨wd_1478, wd_1477, (llTb_of (List.mem_append_left _ (List.mem_of_getElem? (i := 56) (by decide +kernel))) (by decide)), wd_13, ⟨by decide, by decide, by decide +kernel⟩, by decide⟩
set_option maxRecDepth 100000 in
theorem ym_X12_lays : llYv yX12_lays cX12_lays 4 (some .boolean) 3 := ⟨wd_1407, wd_1406, (llTb_of (List.mem_append_left _ (List.mem_of_getElem? (i := 42) (by decide +kernel))) (by decide)), wd_13, ⟨by decide, by decide, by decide +kernel⟩, by decide⟩
set_option maxRecDepth 100000 in
theorem ym_X12_laysOrders : llYv yX12_laysOrders cX12_laysOrders 5 none 0 := ⟨wd_1516, wd_1515, (llTb_of (List.mem_append_left _ (List.mem_of_getElem? (i := 58) (by decide +kernel))) (by decide)), wd_13, ⟨by decide, by decide, by decide +kernel⟩, by decide⟩
set_option maxRecDepth 100000 in
theorem ym_X12_laysParts : llYv yX12_laysParts cX12_laysParts 4 none 1 := ⟨wd_1576, wd_1575, (llTb_of (List.mem_append_left _ (List.mem_of_getElem? (i := 72) (by decide +kernel))) (by decide)), wd_13, ⟨by decide, by decide, by decide +kernel⟩, by decide⟩
set_option maxRecDepth 100000 in
theorem ym_X12_laysRanks : llYv yX12_laysRanks cX12_laysRanks 3 none 0 := ⟨wd_1520, wd_1519, (llTb_of (List.mem_append_left _ (List.mem_of_getElem? (i := 59) (by decide +kernel))) (by decide)), wd_13, ⟨by decide, by decide, by decide +kernel⟩, by decide⟩
set_option maxRecDepth 100000 in
theorem ym_X12_laysWanting : llYv yX12_laysWanting cX12_laysWanting 4 none 0 := ⟨wd_1551, wd_1550, (llTb_of (List.mem_append_left _ (List.mem_of_getElem? (i := 66) (by decide +kernel))) (by decide)), wd_13, ⟨by decide, by decide, by decide +kernel⟩, by decide⟩
set_option maxRecDepth 100000 in
theorem ym_X12_level : llYv yX12_level cX12_level 5 (some .int) 2 := ⟨wd_1636, wd_1634, wd_1635, wd_13, ⟨by decide, by decide, by decide +kernel⟩, by decide⟩
set_option maxRecDepth 100000 in
theorem ym_X12_levelThen : llYv yX12_levelThen cX12_levelThen 2 (some .int) 1 := ⟨wd_1572, wd_1571, (llTb_of (List.mem_append_left _ (List.mem_of_getElem? (i := 71) (by decide +kernel))) (by decide)), wd_13, ⟨by decide, by decide, by decide +kernel⟩, by decide⟩
set_option maxRecDepth 100000 in
theorem ym_X12_look : llYv yX12_look cX12_look 6 (some .int) 1 := ⟨wd_1734, wd_1732, wd_1733, wd_13, ⟨by decide, by decide, by decide +kernel⟩, by decide⟩
set_option maxRecDepth 100000 in
theorem ym_X12_manyIn : llYv yX12_manyIn cX12_manyIn 5 (some .int) 2 := ⟨wd_1438, wd_1437, (llTb_of (List.mem_append_left _ (List.mem_of_getElem? (i := 48) (by decide +kernel))) (by decide)), wd_13, ⟨by decide, by decide, by decide +kernel⟩, by decide⟩
set_option maxRecDepth 100000 in
theorem ym_X12_match : llYv yX12_match cX12_match 4 (some .int) 3 := ⟨wd_1689, wd_1687, wd_1688, wd_13, ⟨by decide, by decide, by decide +kernel⟩, by decide⟩
set_option maxRecDepth 100000 in
theorem ym_X12_may : llYv yX12_may cX12_may 2 (some .boolean) 1 := ⟨wd_1560, wd_1559, (llTb_of (List.mem_append_left _ (List.mem_of_getElem? (i := 68) (by decide +kernel))) (by decide)), wd_13, ⟨by decide, by decide, by decide +kernel⟩, by decide⟩
set_option maxRecDepth 100000 in
theorem ym_X12_mayFrom : llYv yX12_mayFrom cX12_mayFrom 4 (some .int) 1 := ⟨wd_1556, wd_1555, (llTb_of (List.mem_append_left _ (List.mem_of_getElem? (i := 67) (by decide +kernel))) (by decide)), wd_13, ⟨by decide, by decide, by decide +kernel⟩, by decide⟩
set_option maxRecDepth 100000 in
theorem ym_X12_middle : llYv yX12_middle cX12_middle 4 (some .int) 1 := ⟨wd_1666, wd_1664, wd_1665, wd_13, ⟨by decide, by decide, by decide +kernel⟩, by decide⟩
set_option maxRecDepth 100000 in
theorem ym_X12_miles : llYv yX12_miles cX12_miles 5 (some .int) 2 := ⟨wd_1580, wd_1579, (llTb_of (List.mem_append_left _ (List.mem_of_getElem? (i := 73) (by decide +kernel))) (by decide)), wd_13, ⟨by decide, by decide, by decide +kernel⟩, by decide⟩
set_option maxRecDepth 100000 in
theorem ym_X12_milesAll : llYv yX12_milesAll cX12_milesAll 4 (some .int) 1 := ⟨wd_1670, wd_1669, (llTb_of (List.mem_append_left _ (List.mem_of_getElem? (i := 79) (by decide +kernel))) (by decide)), wd_13, ⟨by decide, by decide, by decide +kernel⟩, by decide⟩
set_option maxRecDepth 100000 in
theorem ym_X12_milesIn : llYv yX12_milesIn cX12_milesIn 6 (some .int) 3 := ⟨wd_1597, wd_1596, (llTb_of (List.mem_append_left _ (List.mem_of_getElem? (i := 75) (by decide +kernel))) (by decide)), wd_13, ⟨by decide, by decide, by decide +kernel⟩, by decide⟩
set_option maxRecDepth 100000 in
theorem ym_X12_milesOf : llYv yX12_milesOf cX12_milesOf 5 (some .int) 2 := ⟨wd_1640, wd_1639, (llTb_of (List.mem_append_left _ (List.mem_of_getElem? (i := 78) (by decide +kernel))) (by decide)), wd_13, ⟨by decide, by decide, by decide +kernel⟩, by decide⟩
set_option maxRecDepth 100000 in
theorem ym_X12_moves : llYv yX12_moves cX12_moves 7 (some .int) 3 := ⟨wd_1644, wd_1642, wd_1643, wd_13, ⟨by decide, by decide, by decide +kernel⟩, by decide⟩
set_option maxRecDepth 100000 in
theorem ym_X12_named : llYv yX12_named cX12_named 3 (some .int) 0 := ⟨wd_1486, wd_1484, wd_1485, wd_13, ⟨by decide, by decide, by decide +kernel⟩, by decide⟩
set_option maxRecDepth 100000 in
theorem ym_X12_nearest : llYv yX12_nearest cX12_nearest 4 (some .int) 1 := ⟨wd_1701, wd_1699, wd_1700, wd_13, ⟨by decide, by decide, by decide +kernel⟩, by decide⟩
set_option maxRecDepth 100000 in
theorem ym_X12_needs : llYv yX12_needs cX12_needs 5 (some .int) 1 := ⟨wd_1653, wd_1651, wd_1652, wd_13, ⟨by decide, by decide, by decide +kernel⟩, by decide⟩
set_option maxRecDepth 100000 in
theorem ym_X12_next : llYv yX12_next cX12_next 2 none 0 := ⟨wd_1327, wd_1326, (llTb_of (List.mem_append_left _ (List.mem_of_getElem? (i := 36) (by decide +kernel))) (by decide)), wd_13, ⟨by decide, by decide, by decide +kernel⟩, by decide⟩
set_option maxRecDepth 100000 in
theorem ym_X12_of : llYv yX12_of cX12_of 4 (some .int) 2 := ⟨wd_1592, wd_1590, wd_1591, wd_13, ⟨by decide, by decide, by decide +kernel⟩, by decide⟩
set_option maxRecDepth 100000 in
theorem ym_X12_one : llYs yX12_one cX12_one 1 (some .int) 1 := ⟨wd_1441, wd_1440, wd_13, ⟨by decide, by decide, by decide +kernel⟩, by decide⟩
set_option maxRecDepth 100000 in
theorem ym_X12_order : llYv yX12_order cX12_order 3 (some .int) 2 := ⟨wd_1632, wd_1630, wd_1631, wd_13, ⟨by decide, by decide, by decide +kernel⟩, by decide⟩
set_option maxRecDepth 100000 in
theorem ym_X12_out : llYv yX12_out cX12_out 2 (some .int) 1 := ⟨wd_1730, wd_1728, wd_1729, wd_13, ⟨by decide, by decide, by decide +kernel⟩, by decide⟩
set_option maxRecDepth 100000 in
theorem ym_X12_packed : llYs yX12_packed cX12_packed 4 (some .long) 1 := ⟨wd_1357, wd_1356, wd_13, ⟨by decide, by decide, by decide +kernel⟩, by decide⟩
set_option maxRecDepth 100000 in
theorem ym_X12_partOf : llYs yX12_partOf cX12_partOf 3 (some .int) 3 := ⟨wd_1535, wd_1534, wd_13, ⟨by decide, by decide, by decide +kernel⟩, by decide⟩
set_option maxRecDepth 100000 in
theorem ym_X12_parted : llYv yX12_parted cX12_parted 3 (some .int) 1 := ⟨wd_1657, wd_1655, wd_1656, wd_13, ⟨by decide, by decide, by decide +kernel⟩, by decide⟩
set_option maxRecDepth 100000 in
theorem ym_X12_picks : llYv yX12_picks cX12_picks 6 none 3 := ⟨wd_1564, wd_1563, (llTb_of (List.mem_append_left _ (List.mem_of_getElem? (i := 69) (by decide +kernel))) (by decide)), wd_13, ⟨by decide, by decide, by decide +kernel⟩, by decide⟩
set_option maxRecDepth 100000 in
theorem ym_X12_placeOf : llYv yX12_placeOf cX12_placeOf 6 (some .int) 3 := ⟨wd_1434, wd_1433, (llTb_of (List.mem_append_left _ (List.mem_of_getElem? (i := 47) (by decide +kernel))) (by decide)), wd_13, ⟨by decide, by decide, by decide +kernel⟩, by decide⟩
set_option maxRecDepth 100000 in
theorem ym_X12_plays : llYv yX12_plays cX12_plays 2 (some .boolean) 1 := ⟨wd_1470, wd_1469, (llTb_of (List.mem_append_left _ (List.mem_of_getElem? (i := 54) (by decide +kernel))) (by decide)), wd_13, ⟨by decide, by decide, by decide +kernel⟩, by decide⟩
set_option maxRecDepth 100000 in
theorem ym_X12_points : llYv yX12_points cX12_points 2 (some .int) 1 := ⟨wd_1601, wd_1599, wd_1600, wd_13, ⟨by decide, by decide, by decide +kernel⟩, by decide⟩
set_option maxRecDepth 100000 in
theorem ym_X12_pointsOf : llYv yX12_pointsOf cX12_pointsOf 2 (some .int) 1 := ⟨wd_1524, wd_1523, (llTb_of (List.mem_append_left _ (List.mem_of_getElem? (i := 60) (by decide +kernel))) (by decide)), wd_13, ⟨by decide, by decide, by decide +kernel⟩, by decide⟩
set_option maxRecDepth 100000 in
theorem ym_X12_pyramid : llYv yX12_pyramid cX12_pyramid 4 (some .int) 0 := ⟨wd_1319, wd_1317, wd_1318, wd_13, ⟨by decide, by decide, by decide +kernel⟩, by decide⟩
set_option maxRecDepth 100000 in
theorem ym_X12_ranked : llYv yX12_ranked cX12_ranked 5 (some .int) 3 := ⟨wd_1620, wd_1618, wd_1619, wd_13, ⟨by decide, by decide, by decide +kernel⟩, by decide⟩
set_option maxRecDepth 100000 in
theorem ym_X12_readClub : llYv yX12_readClub cX12_readClub 4 (some .boolean) 0 := ⟨wd_1424, wd_1423, (llTb_of (List.mem_append_left _ (List.mem_of_getElem? (i := 45) (by decide +kernel))) (by decide)), wd_13, ⟨by decide, by decide, by decide +kernel⟩, by decide⟩
set_option maxRecDepth 100000 in
theorem ym_X12_readLevel : llYv yX12_readLevel cX12_readLevel 2 (some .boolean) 0 := ⟨wd_1399, wd_1398, (llTb_of (List.mem_append_left _ (List.mem_of_getElem? (i := 40) (by decide +kernel))) (by decide)), wd_13, ⟨by decide, by decide, by decide +kernel⟩, by decide⟩
set_option maxRecDepth 100000 in
theorem ym_X12_readLine : llYv yX12_readLine cX12_readLine 2 (some .boolean) 0 := ⟨wd_1339, wd_1338, (llTb_of (List.mem_append_left _ (List.mem_of_getElem? (i := 38) (by decide +kernel))) (by decide)), wd_13, ⟨by decide, by decide, by decide +kernel⟩, by decide⟩
set_option maxRecDepth 100000 in
theorem ym_X12_readMatch : llYv yX12_readMatch cX12_readMatch 7 (some .boolean) 0 := ⟨wd_1462, wd_1461, (llTb_of (List.mem_append_left _ (List.mem_of_getElem? (i := 52) (by decide +kernel))) (by decide)), wd_13, ⟨by decide, by decide, by decide +kernel⟩, by decide⟩
set_option maxRecDepth 100000 in
theorem ym_X12_readNumber : llYv yX12_readNumber cX12_readNumber 3 (some .boolean) 2 := ⟨wd_1411, wd_1410, (llTb_of (List.mem_append_left _ (List.mem_of_getElem? (i := 43) (by decide +kernel))) (by decide)), wd_13, ⟨by decide, by decide, by decide +kernel⟩, by decide⟩
set_option maxRecDepth 100000 in
theorem ym_X12_refuse : llYv yX12_refuse cX12_refuse 2 (some .boolean) 1 := ⟨wd_1494, wd_1492, wd_1493, wd_13, ⟨by decide, by decide, by decide +kernel⟩, by decide⟩
set_option maxRecDepth 100000 in
theorem ym_X12_resign : llYv yX12_resign cX12_resign 2 (some .boolean) 1 := ⟨wd_1490, wd_1488, wd_1489, wd_13, ⟨by decide, by decide, by decide +kernel⟩, by decide⟩
set_option maxRecDepth 100000 in
theorem ym_X12_rest : llYv yX12_rest cX12_rest 5 (some .long) 2 := ⟨wd_1674, wd_1672, wd_1673, wd_13, ⟨by decide, by decide, by decide +kernel⟩, by decide⟩
set_option maxRecDepth 100000 in
theorem ym_X12_says : llYv yX12_says cX12_says 2 none 1 := ⟨wd_1722, wd_1721, (llTb_of (List.mem_append_left _ (List.mem_of_getElem? (i := 80) (by decide +kernel))) (by decide)), wd_13, ⟨by decide, by decide, by decide +kernel⟩, by decide⟩
set_option maxRecDepth 100000 in
theorem ym_X12_saysNumber : llYv yX12_saysNumber cX12_saysNumber 4 none 1 := ⟨wd_1726, wd_1725, (llTb_of (List.mem_append_left _ (List.mem_of_getElem? (i := 81) (by decide +kernel))) (by decide)), wd_13, ⟨by decide, by decide, by decide +kernel⟩, by decide⟩
set_option maxRecDepth 100000 in
theorem ym_X12_see : llYv yX12_see cX12_see 2 (some .int) 1 := ⟨wd_1331, wd_1330, (llTb_of (List.mem_append_left _ (List.mem_of_getElem? (i := 37) (by decide +kernel))) (by decide)), wd_13, ⟨by decide, by decide, by decide +kernel⟩, by decide⟩
set_option maxRecDepth 100000 in
theorem ym_X12_show : llYv yX12_show cX12_show 6 (some .int) 2 := ⟨wd_1716, wd_1714, wd_1715, wd_13, ⟨by decide, by decide, by decide +kernel⟩, by decide⟩
set_option maxRecDepth 100000 in
theorem ym_X12_starts : llYv yX12_starts cX12_starts 2 none 0 := ⟨wd_1453, wd_1452, (llTb_of (List.mem_append_left _ (List.mem_of_getElem? (i := 51) (by decide +kernel))) (by decide)), wd_13, ⟨by decide, by decide, by decide +kernel⟩, by decide⟩
set_option maxRecDepth 100000 in
theorem ym_X12_strangers : llYv yX12_strangers cX12_strangers 6 (some .int) 1 := ⟨wd_1712, wd_1710, wd_1711, wd_13, ⟨by decide, by decide, by decide +kernel⟩, by decide⟩
set_option maxRecDepth 100000 in
theorem ym_X12_sumOf : llYv yX12_sumOf cX12_sumOf 6 (some .int) 2 := ⟨wd_1528, wd_1527, (llTb_of (List.mem_append_left _ (List.mem_of_getElem? (i := 61) (by decide +kernel))) (by decide)), wd_13, ⟨by decide, by decide, by decide +kernel⟩, by decide⟩
set_option maxRecDepth 100000 in
theorem ym_X12_swap : llYv yX12_swap cX12_swap 9 (some .int) 2 := ⟨wd_1661, wd_1659, wd_1660, wd_13, ⟨by decide, by decide, by decide +kernel⟩, by decide⟩
set_option maxRecDepth 100000 in
theorem ym_X12_takes : llYv yX12_takes cX12_takes 2 (some .boolean) 1 := ⟨wd_1416, wd_1415, (llTb_of (List.mem_append_left _ (List.mem_of_getElem? (i := 44) (by decide +kernel))) (by decide)), wd_13, ⟨by decide, by decide, by decide +kernel⟩, by decide⟩
set_option maxRecDepth 100000 in
theorem ym_X12_takesSign : llYv yX12_takesSign cX12_takesSign 2 (some .boolean) 1 := ⟨wd_1445, wd_1444, (llTb_of (List.mem_append_left _ (List.mem_of_getElem? (i := 49) (by decide +kernel))) (by decide)), wd_13, ⟨by decide, by decide, by decide +kernel⟩, by decide⟩
set_option maxRecDepth 100000 in
theorem ym_X12_undo : llYv yX12_undo cX12_undo 2 (some .boolean) 0 := ⟨wd_1300, wd_1298, wd_1299, wd_13, ⟨by decide, by decide, by decide +kernel⟩, by decide⟩
set_option maxRecDepth 100000 in
theorem ym_X12_versus : llYv yX12_versus cX12_versus 6 (some .int) 2 := ⟨wd_1705, wd_1703, wd_1704, wd_13, ⟨by decide, by decide, by decide +kernel⟩, by decide⟩
set_option maxRecDepth 100000 in
theorem ym_X12_would : llYv yX12_would cX12_would 2 (some .int) 1 := ⟨wd_1649, wd_1647, wd_1648, wd_13, ⟨by decide, by decide, by decide +kernel⟩, by decide⟩
set_option maxRecDepth 100000 in
theorem ym_X1_clubHere : llYv yX1_clubHere cX1_clubHere 2 (some .int) 0 := ⟨wd_677, wd_676, (llTb_of (List.mem_append_left _ (List.mem_of_getElem? (i := 8) (by decide +kernel))) (by decide)), wd_8, ⟨by decide, by decide, by decide +kernel⟩, by decide⟩
set_option maxRecDepth 100000 in
theorem ym_X1_read : llYv yX1_read cX1_read 2 (some .boolean) 0 := ⟨wd_667, wd_665, wd_666, wd_8, ⟨by decide, by decide, by decide +kernel⟩, by decide⟩
set_option maxRecDepth 100000 in
theorem ym_X1_readMatch : llYv yX1_readMatch cX1_readMatch 5 (some .boolean) 0 := ⟨wd_673, wd_672, (llTb_of (List.mem_append_left _ (List.mem_of_getElem? (i := 7) (by decide +kernel))) (by decide)), wd_8, ⟨by decide, by decide, by decide +kernel⟩, by decide⟩
set_option maxRecDepth 100000 in
theorem ym_X2_keep : llYv yX2_keep cX2_keep 4 none 3 := ⟨wd_705, wd_703, wd_704, wd_6, ⟨by decide, by decide, by decide +kernel⟩, by decide⟩
set_option maxRecDepth 100000 in
theorem ym_X2_takeBack : llYv yX2_takeBack cX2_takeBack 1 (some .boolean) 0 := ⟨wd_892, wd_890, wd_891, wd_6, ⟨by decide, by decide, by decide +kernel⟩, by decide⟩
set_option maxRecDepth 100000 in
theorem ym_X2_takeBackOf : llYv yX2_takeBackOf cX2_takeBackOf 4 none 3 := ⟨wd_898, wd_897, (llTb_of (List.mem_append_left _ (List.mem_of_getElem? (i := 26) (by decide +kernel))) (by decide)), wd_6, ⟨by decide, by decide, by decide +kernel⟩, by decide⟩
set_option maxRecDepth 100000 in
theorem ym_X3_add : llYv yX3_add cX3_add 6 none 4 := ⟨wd_821, wd_820, (llTb_of (List.mem_append_left _ (List.mem_of_getElem? (i := 18) (by decide +kernel))) (by decide)), wd_12, ⟨by decide, by decide, by decide +kernel⟩, by decide⟩
set_option maxRecDepth 100000 in
theorem ym_X3_bringIn : llYv yX3_bringIn cX3_bringIn 4 (some .boolean) 1 := ⟨wd_829, wd_828, (llTb_of (List.mem_append_left _ (List.mem_of_getElem? (i := 20) (by decide +kernel))) (by decide)), wd_12, ⟨by decide, by decide, by decide +kernel⟩, by decide⟩
set_option maxRecDepth 100000 in
theorem ym_X3_countOf : llYv yX3_countOf cX3_countOf 3 (some .int) 2 := ⟨wd_817, wd_815, wd_816, wd_12, ⟨by decide, by decide, by decide +kernel⟩, by decide⟩
set_option maxRecDepth 100000 in
theorem ym_X3_mayRise : llYv yX3_mayRise cX3_mayRise 3 (some .boolean) 1 := ⟨wd_767, wd_766, (llTb_of (List.mem_append_left _ (List.mem_of_getElem? (i := 10) (by decide +kernel))) (by decide)), wd_12, ⟨by decide, by decide, by decide +kernel⟩, by decide⟩
set_option maxRecDepth 100000 in
theorem ym_X3_mayRiseFrom : llYv yX3_mayRiseFrom cX3_mayRiseFrom 4 (some .int) 1 := ⟨wd_763, wd_761, wd_762, wd_12, ⟨by decide, by decide, by decide +kernel⟩, by decide⟩
set_option maxRecDepth 100000 in
theorem ym_X3_moveClubs : llYv yX3_moveClubs cX3_moveClubs 2 none 0 := ⟨wd_846, wd_844, wd_845, wd_12, ⟨by decide, by decide, by decide +kernel⟩, by decide⟩
set_option maxRecDepth 100000 in
theorem ym_X3_mover : llYv yX3_mover cX3_mover 4 (some .int) 3 := ⟨wd_981, wd_979, wd_980, wd_12, ⟨by decide, by decide, by decide +kernel⟩, by decide⟩
set_option maxRecDepth 100000 in
theorem ym_X3_risenInAll : llYv yX3_risenInAll cX3_risenInAll 3 (some .int) 0 := ⟨wd_833, wd_831, wd_832, wd_12, ⟨by decide, by decide, by decide +kernel⟩, by decide⟩
set_option maxRecDepth 100000 in
theorem ym_X3_risesWith : llYv yX3_risesWith cX3_risesWith 5 (some .boolean) 2 := ⟨wd_993, wd_991, wd_992, wd_12, ⟨by decide, by decide, by decide +kernel⟩, by decide⟩
set_option maxRecDepth 100000 in
theorem ym_X3_sendDown : llYv yX3_sendDown cX3_sendDown 6 (some .boolean) 1 := ⟨wd_825, wd_824, (llTb_of (List.mem_append_left _ (List.mem_of_getElem? (i := 19) (by decide +kernel))) (by decide)), wd_12, ⟨by decide, by decide, by decide +kernel⟩, by decide⟩
set_option maxRecDepth 100000 in
theorem ym_X3_sendUp : llYv yX3_sendUp cX3_sendUp 2 (some .boolean) 1 := ⟨wd_809, wd_808, (llTb_of (List.mem_append_left _ (List.mem_of_getElem? (i := 16) (by decide +kernel))) (by decide)), wd_12, ⟨by decide, by decide, by decide +kernel⟩, by decide⟩
set_option maxRecDepth 100000 in
theorem ym_X3_sendUpThose : llYv yX3_sendUpThose cX3_sendUpThose 5 none 2 := ⟨wd_813, wd_812, (llTb_of (List.mem_append_left _ (List.mem_of_getElem? (i := 17) (by decide +kernel))) (by decide)), wd_12, ⟨by decide, by decide, by decide +kernel⟩, by decide⟩
set_option maxRecDepth 100000 in
theorem ym_X3_setNumbers : llYv yX3_setNumbers cX3_setNumbers 4 none 1 := ⟨wd_751, wd_750, (llTb_of (List.mem_append_left _ (List.mem_of_getElem? (i := 9) (by decide +kernel))) (by decide)), wd_12, ⟨by decide, by decide, by decide +kernel⟩, by decide⟩
set_option maxRecDepth 100000 in
theorem ym_X3_wantingOf : llYv yX3_wantingOf cX3_wantingOf 4 (some .int) 1 := ⟨wd_755, wd_753, wd_754, wd_12, ⟨by decide, by decide, by decide +kernel⟩, by decide⟩
set_option maxRecDepth 100000 in
theorem ym_X3_weigh : llYv yX3_weigh cX3_weigh 2 (some .boolean) 0 := ⟨wd_746, wd_744, wd_745, wd_12, ⟨by decide, by decide, by decide +kernel⟩, by decide⟩
set_option maxRecDepth 100000 in
theorem ym_X4_bestDivisionOf : llYv yX4_bestDivisionOf cX4_bestDivisionOf 3 (some .int) 1 := ⟨wd_883, wd_882, (llTb_of (List.mem_append_left _ (List.mem_of_getElem? (i := 25) (by decide +kernel))) (by decide)), wd_11, ⟨by decide, by decide, by decide +kernel⟩, by decide⟩
set_option maxRecDepth 100000 in
theorem ym_X4_choose : llYv yX4_choose cX4_choose 7 none 3 := ⟨wd_872, wd_871, (llTb_of (List.mem_append_left _ (List.mem_of_getElem? (i := 24) (by decide +kernel))) (by decide)), wd_11, ⟨by decide, by decide, by decide +kernel⟩, by decide⟩
set_option maxRecDepth 100000 in
theorem ym_X4_forgetAll : llYv yX4_forgetAll cX4_forgetAll 1 none 0 := ⟨wd_633, wd_631, wd_632, wd_11, ⟨by decide, by decide, by decide +kernel⟩, by decide⟩
set_option maxRecDepth 100000 in
theorem ym_X4_forgetChanged : llYv yX4_forgetChanged cX4_forgetChanged 3 none 1 := ⟨wd_837, wd_835, wd_836, wd_11, ⟨by decide, by decide, by decide +kernel⟩, by decide⟩
set_option maxRecDepth 100000 in
theorem ym_X4_forgetLevel : llYv yX4_forgetLevel cX4_forgetLevel 2 none 1 := ⟨wd_841, wd_840, (llTb_of (List.mem_append_left _ (List.mem_of_getElem? (i := 21) (by decide +kernel))) (by decide)), wd_11, ⟨by decide, by decide, by decide +kernel⟩, by decide⟩
set_option maxRecDepth 100000 in
theorem ym_X4_listSets : llYv yX4_listSets cX4_listSets 6 none 4 := ⟨wd_859, wd_858, (llTb_of (List.mem_append_left _ (List.mem_of_getElem? (i := 22) (by decide +kernel))) (by decide)), wd_11, ⟨by decide, by decide, by decide +kernel⟩, by decide⟩
set_option maxRecDepth 100000 in
theorem ym_X4_milesTo : llYv yX4_milesTo cX4_milesTo 4 (some .int) 1 := ⟨wd_863, wd_862, (llTb_of (List.mem_append_left _ (List.mem_of_getElem? (i := 23) (by decide +kernel))) (by decide)), wd_11, ⟨by decide, by decide, by decide +kernel⟩, by decide⟩
set_option maxRecDepth 100000 in
theorem ym_X4_partAnew : llYv yX4_partAnew cX4_partAnew 3 none 1 := ⟨wd_854, wd_852, wd_853, wd_11, ⟨by decide, by decide, by decide +kernel⟩, by decide⟩
set_option maxRecDepth 100000 in
theorem ym_X4_settle : llYv yX4_settle cX4_settle 2 none 0 := ⟨wd_850, wd_848, wd_849, wd_11, ⟨by decide, by decide, by decide +kernel⟩, by decide⟩
set_option maxRecDepth 100000 in
theorem ym_X5_copy : llYv yX5_copy cX5_copy 2 none 1 := ⟨wd_619, wd_617, wd_618, wd_3, ⟨by decide, by decide, by decide +kernel⟩, by decide⟩
set_option maxRecDepth 100000 in
theorem ym_X5_find : llYv yX5_find cX5_find 4 (some .int) 1 := ⟨wd_596, wd_594, wd_595, wd_3, ⟨by decide, by decide, by decide +kernel⟩, by decide⟩
set_option maxRecDepth 100000 in
theorem ym_X5_gather : llYv yX5_gather cX5_gather 5 (some .int) 2 := ⟨wd_776, wd_774, wd_775, wd_3, ⟨by decide, by decide, by decide +kernel⟩, by decide⟩
set_option maxRecDepth 100000 in
theorem ym_X5_hasDivision : llYv yX5_hasDivision cX5_hasDivision 3 (some .boolean) 2 := ⟨wd_947, wd_945, wd_946, wd_3, ⟨by decide, by decide, by decide +kernel⟩, by decide⟩
set_option maxRecDepth 100000 in
theorem ym_X5_hasLevel : llYv yX5_hasLevel cX5_hasLevel 2 (some .boolean) 1 := ⟨wd_607, wd_605, wd_606, wd_3, ⟨by decide, by decide, by decide +kernel⟩, by decide⟩
set_option maxRecDepth 100000 in
theorem ym_X5_howMany : llYv yX5_howMany cX5_howMany 4 (some .int) 1 := ⟨wd_534, wd_532, wd_533, wd_3, ⟨by decide, by decide, by decide +kernel⟩, by decide⟩
set_option maxRecDepth 100000 in
theorem ym_X5_howManyIn : llYv yX5_howManyIn cX5_howManyIn 5 (some .int) 2 := ⟨wd_611, wd_609, wd_610, wd_3, ⟨by decide, by decide, by decide +kernel⟩, by decide⟩
set_option maxRecDepth 100000 in
theorem ym_X5_isClub : llYv yX5_isClub cX5_isClub 2 (some .boolean) 1 := ⟨wd_694, wd_692, wd_693, wd_3, ⟨by decide, by decide, by decide +kernel⟩, by decide⟩
set_option maxRecDepth 100000 in
theorem ym_X5_plays : llYv yX5_plays cX5_plays 2 (some .boolean) 1 := ⟨wd_690, wd_688, wd_689, wd_3, ⟨by decide, by decide, by decide +kernel⟩, by decide⟩
set_option maxRecDepth 100000 in
theorem ym_X5_standsIn : llYv yX5_standsIn cX5_standsIn 4 (some .boolean) 3 := ⟨wd_615, wd_613, wd_614, wd_3, ⟨by decide, by decide, by decide +kernel⟩, by decide⟩
set_option maxRecDepth 100000 in
theorem ym_X5_together : llYv yX5_together cX5_together 3 (some .boolean) 2 := ⟨wd_686, wd_684, wd_685, wd_3, ⟨by decide, by decide, by decide +kernel⟩, by decide⟩
set_option maxRecDepth 100000 in
theorem ym_X6_allFull : llYv yX6_allFull cX6_allFull 2 (some .boolean) 0 := ⟨wd_530, wd_529, (llTb_of (List.mem_append_left _ (List.mem_of_getElem? (i := 2) (by decide +kernel))) (by decide)), wd_7, ⟨by decide, by decide, by decide +kernel⟩, by decide⟩
set_option maxRecDepth 100000 in
theorem ym_X6_read : llYv yX6_read cX6_read 3 (some .boolean) 0 := ⟨wd_510, wd_508, wd_509, wd_7, ⟨by decide, by decide, by decide +kernel⟩, by decide⟩
set_option maxRecDepth 100000 in
theorem ym_X6_readClub : llYv yX6_readClub cX6_readClub 2 (some .boolean) 1 := ⟨wd_577, wd_576, (llTb_of (List.mem_append_left _ (List.mem_of_getElem? (i := 4) (by decide +kernel))) (by decide)), wd_7, ⟨by decide, by decide, by decide +kernel⟩, by decide⟩
set_option maxRecDepth 100000 in
theorem ym_X6_readLevel : llYv yX6_readLevel cX6_readLevel 6 (some .boolean) 1 := ⟨wd_547, wd_546, (llTb_of (List.mem_append_left _ (List.mem_of_getElem? (i := 3) (by decide +kernel))) (by decide)), wd_7, ⟨by decide, by decide, by decide +kernel⟩, by decide⟩
set_option maxRecDepth 100000 in
theorem ym_X6_readPlace : llYv yX6_readPlace cX6_readPlace 4 (some .boolean) 1 := ⟨wd_601, wd_600, (llTb_of (List.mem_append_left _ (List.mem_of_getElem? (i := 5) (by decide +kernel))) (by decide)), wd_7, ⟨by decide, by decide, by decide +kernel⟩, by decide⟩
set_option maxRecDepth 100000 in
theorem ym_X7_awayGoals : llYv yX7_awayGoals cX7_awayGoals 3 (some .int) 2 := ⟨wd_654, wd_652, wd_653, wd_4, ⟨by decide, by decide, by decide +kernel⟩, by decide⟩
set_option maxRecDepth 100000 in
theorem ym_X7_begin : llYv yX7_begin cX7_begin 1 none 0 := ⟨wd_638, wd_636, wd_637, wd_4, ⟨by decide, by decide, by decide +kernel⟩, by decide⟩
set_option maxRecDepth 100000 in
theorem ym_X7_goalsLessAgainst : llYv yX7_goalsLessAgainst cX7_goalsLessAgainst 2 (some .int) 1 := ⟨wd_792, wd_790, wd_791, wd_4, ⟨by decide, by decide, by decide +kernel⟩, by decide⟩
set_option maxRecDepth 100000 in
theorem ym_X7_gotFrom : llYv yX7_gotFrom cX7_gotFrom 4 (some .int) 2 := ⟨wd_1081, wd_1079, wd_1080, wd_4, ⟨by decide, by decide, by decide +kernel⟩, by decide⟩
set_option maxRecDepth 100000 in
theorem ym_X7_homeGoals : llYv yX7_homeGoals cX7_homeGoals 3 (some .int) 2 := ⟨wd_646, wd_644, wd_645, wd_4, ⟨by decide, by decide, by decide +kernel⟩, by decide⟩
set_option maxRecDepth 100000 in
theorem ym_X7_isTold : llYv yX7_isTold cX7_isTold 3 (some .boolean) 2 := ⟨wd_650, wd_648, wd_649, wd_4, ⟨by decide, by decide, by decide +kernel⟩, by decide⟩
set_option maxRecDepth 100000 in
theorem ym_X7_keepFirst : llYv yX7_keepFirst cX7_keepFirst 7 none 1 := ⟨wd_642, wd_640, wd_641, wd_4, ⟨by decide, by decide, by decide +kernel⟩, by decide⟩
set_option maxRecDepth 100000 in
theorem ym_X7_playedIn : llYv yX7_playedIn cX7_playedIn 6 (some .int) 3 := ⟨wd_1041, wd_1039, wd_1040, wd_4, ⟨by decide, by decide, by decide +kernel⟩, by decide⟩
set_option maxRecDepth 100000 in
theorem ym_X7_pointsFor : llYs yX7_pointsFor cX7_pointsFor 2 (some .int) 2 := ⟨wd_1084, wd_1083, wd_4, ⟨by decide, by decide, by decide +kernel⟩, by decide⟩
set_option maxRecDepth 100000 in
theorem ym_X7_pointsOf : llYv yX7_pointsOf cX7_pointsOf 2 (some .int) 1 := ⟨wd_780, wd_778, wd_779, wd_4, ⟨by decide, by decide, by decide +kernel⟩, by decide⟩
set_option maxRecDepth 100000 in
theorem ym_X7_tally : llYv yX7_tally cX7_tally 5 none 4 := ⟨wd_658, wd_657, (llTb_of (List.mem_append_left _ (List.mem_of_getElem? (i := 6) (by decide +kernel))) (by decide)), wd_4, ⟨by decide, by decide, by decide +kernel⟩, by decide⟩
set_option maxRecDepth 100000 in
theorem ym_X7_tell : llYv yX7_tell cX7_tell 5 none 4 := ⟨wd_700, wd_698, wd_699, wd_4, ⟨by decide, by decide, by decide +kernel⟩, by decide⟩
set_option maxRecDepth 100000 in
theorem ym_X8_arrange : llYv yX8_arrange cX8_arrange 3 none 1 := ⟨wd_772, wd_770, wd_771, wd_9, ⟨by decide, by decide, by decide +kernel⟩, by decide⟩
set_option maxRecDepth 100000 in
theorem ym_X8_atRank : llYv yX8_atRank cX8_atRank 4 (some .int) 2 := ⟨wd_951, wd_949, wd_950, wd_9, ⟨by decide, by decide, by decide +kernel⟩, by decide⟩
set_option maxRecDepth 100000 in
theorem ym_X8_averagePoints : llYv yX8_averagePoints cX8_averagePoints 2 (some .int) 1 := ⟨wd_804, wd_803, (llTb_of (List.mem_append_left _ (List.mem_of_getElem? (i := 15) (by decide +kernel))) (by decide)), wd_9, ⟨by decide, by decide, by decide +kernel⟩, by decide⟩
set_option maxRecDepth 100000 in
theorem ym_X8_canReach : llYv yX8_canReach cX8_canReach 6 (some .int) 1 := ⟨wd_1058, wd_1056, wd_1057, wd_9, ⟨by decide, by decide, by decide +kernel⟩, by decide⟩
set_option maxRecDepth 100000 in
theorem ym_X8_isAhead : llYv yX8_isAhead cX8_isAhead 4 (some .boolean) 2 := ⟨wd_800, wd_799, (llTb_of (List.mem_append_left _ (List.mem_of_getElem? (i := 14) (by decide +kernel))) (by decide)), wd_9, ⟨by decide, by decide, by decide +kernel⟩, by decide⟩
set_option maxRecDepth 100000 in
theorem ym_X8_outranks : llYv yX8_outranks cX8_outranks 4 (some .boolean) 2 := ⟨wd_788, wd_787, (llTb_of (List.mem_append_left _ (List.mem_of_getElem? (i := 12) (by decide +kernel))) (by decide)), wd_9, ⟨by decide, by decide, by decide +kernel⟩, by decide⟩
set_option maxRecDepth 100000 in
theorem ym_X8_placeOf : llYv yX8_placeOf cX8_placeOf 3 (some .int) 1 := ⟨wd_911, wd_909, wd_910, wd_9, ⟨by decide, by decide, by decide +kernel⟩, by decide⟩
set_option maxRecDepth 100000 in
theorem ym_X8_rankNow : llYv yX8_rankNow cX8_rankNow 4 (some .int) 1 := ⟨wd_784, wd_783, (llTb_of (List.mem_append_left _ (List.mem_of_getElem? (i := 11) (by decide +kernel))) (by decide)), wd_9, ⟨by decide, by decide, by decide +kernel⟩, by decide⟩
set_option maxRecDepth 100000 in
theorem ym_X8_sink : llYv yX8_sink cX8_sink 4 none 1 := ⟨wd_796, wd_795, (llTb_of (List.mem_append_left _ (List.mem_of_getElem? (i := 13) (by decide +kernel))) (by decide)), wd_9, ⟨by decide, by decide, by decide +kernel⟩, by decide⟩
set_option maxRecDepth 100000 in
theorem ym_X8_write : llYv yX8_write cX8_write 3 none 1 := ⟨wd_1100, wd_1098, wd_1099, wd_9, ⟨by decide, by decide, by decide +kernel⟩, by decide⟩
set_option maxRecDepth 100000 in
theorem ym_X8_writeClub : llYv yX8_writeClub cX8_writeClub 4 none 1 := ⟨wd_1104, wd_1103, (llTb_of (List.mem_append_left _ (List.mem_of_getElem? (i := 31) (by decide +kernel))) (by decide)), wd_9, ⟨by decide, by decide, by decide +kernel⟩, by decide⟩
set_option maxRecDepth 100000 in
theorem ym_X8_writeNumber : llYv yX8_writeNumber cX8_writeNumber 3 none 1 := ⟨wd_1113, wd_1112, (llTb_of (List.mem_append_left _ (List.mem_of_getElem? (i := 33) (by decide +kernel))) (by decide)), wd_9, ⟨by decide, by decide, by decide +kernel⟩, by decide⟩
set_option maxRecDepth 100000 in
theorem ym_X8_writeSign : llYv yX8_writeSign cX8_writeSign 2 none 1 := ⟨wd_1109, wd_1108, (llTb_of (List.mem_append_left _ (List.mem_of_getElem? (i := 32) (by decide +kernel))) (by decide)), wd_9, ⟨by decide, by decide, by decide +kernel⟩, by decide⟩
set_option maxRecDepth 100000 in
theorem ym_X9_fail : llYv yX9_fail cX9_fail 2 (some .boolean) 1 := ⟨wd_538, wd_536, wd_537, wd_2, ⟨by decide, by decide, by decide +kernel⟩, by decide⟩
set_option maxRecDepth 100000 in
theorem ym_X9_isName : llYv yX9_isName cX9_isName 1 (some .boolean) 0 := ⟨wd_585, wd_583, wd_584, wd_2, ⟨by decide, by decide, by decide +kernel⟩, by decide⟩
set_option maxRecDepth 100000 in
theorem ym_X9_isSign : llYv yX9_isSign cX9_isSign 2 (some .boolean) 1 := ⟨wd_572, wd_570, wd_571, wd_2, ⟨by decide, by decide, by decide +kernel⟩, by decide⟩
set_option maxRecDepth 100000 in
theorem ym_X9_isWord : llYv yX9_isWord cX9_isWord 3 (some .boolean) 1 := ⟨wd_543, wd_541, wd_542, wd_2, ⟨by decide, by decide, by decide +kernel⟩, by decide⟩
set_option maxRecDepth 100000 in
theorem ym_X9_next : llYv yX9_next cX9_next 1 none 0 := ⟨wd_518, wd_516, wd_517, wd_2, ⟨by decide, by decide, by decide +kernel⟩, by decide⟩
set_option maxRecDepth 100000 in
theorem ym_X9_put : llYv yX9_put cX9_put 3 none 1 := ⟨wd_498, wd_496, wd_497, wd_2, ⟨by decide, by decide, by decide +kernel⟩, by decide⟩
set_option maxRecDepth 100000 in
theorem ym_X9_readNumber : llYv yX9_readNumber cX9_readNumber 1 none 0 := ⟨wd_526, wd_525, (llTb_of (List.mem_append_left _ (List.mem_of_getElem? (i := 1) (by decide +kernel))) (by decide)), wd_2, ⟨by decide, by decide, by decide +kernel⟩, by decide⟩
set_option maxRecDepth 100000 in
theorem ym_X9_readWord : llYv yX9_readWord cX9_readWord 1 none 0 := ⟨wd_522, wd_521, (llTb_of (List.mem_append_left _ (List.mem_of_getElem? (i := 0) (by decide +kernel))) (by decide)), wd_2, ⟨by decide, by decide, by decide +kernel⟩, by decide⟩
set_option maxRecDepth 100000 in
theorem ym_X9_rewind : llYv yX9_rewind cX9_rewind 1 none 0 := ⟨wd_718, wd_716, wd_717, wd_2, ⟨by decide, by decide, by decide +kernel⟩, by decide⟩
set_option maxRecDepth 100000 in
theorem ym_X9_startText : llYv yX9_startText cX9_startText 1 none 0 := ⟨wd_514, wd_512, wd_513, wd_2, ⟨by decide, by decide, by decide +kernel⟩, by decide⟩
set_option maxRecDepth 100000 in
theorem ym_X9_takeName : llYv yX9_takeName cX9_takeName 1 (some .boolean) 0 := ⟨wd_581, wd_579, wd_580, wd_2, ⟨by decide, by decide, by decide +kernel⟩, by decide⟩
set_option maxRecDepth 100000 in
theorem ym_X9_takeNumber : llYv yX9_takeNumber cX9_takeNumber 3 (some .int) 2 := ⟨wd_551, wd_549, wd_550, wd_2, ⟨by decide, by decide, by decide +kernel⟩, by decide⟩
set_option maxRecDepth 100000 in
theorem ym_X9_takeSign : llYv yX9_takeSign cX9_takeSign 2 (some .boolean) 1 := ⟨wd_568, wd_566, wd_567, wd_2, ⟨by decide, by decide, by decide +kernel⟩, by decide⟩
set_option maxRecDepth 100000 in
theorem ym_X9_takeWord : llYv yX9_takeWord cX9_takeWord 3 (some .boolean) 1 := ⟨wd_558, wd_556, wd_557, wd_2, ⟨by decide, by decide, by decide +kernel⟩, by decide⟩
