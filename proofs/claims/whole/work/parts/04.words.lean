set_option maxRecDepth 20000 in
theorem tw_1 : (Jvm.Cond.initialized "NinthStep") ∈ ns_TB := ns_tb (mt_1 (List.mem_of_getElem? (i := 1) (by decide +kernel))) rfl
set_option maxRecDepth 20000 in
theorem tw_2 : (Jvm.Cond.initialized "NinthStep$World") ∈ ns_TB := ns_tb (mt_1 (List.mem_of_getElem? (i := 2) (by decide +kernel))) rfl
set_option maxRecDepth 20000 in
theorem tw_3 : (Jvm.Cond.initialized "NinthStep$Ground") ∈ ns_TB := ns_tb (mt_1 (List.mem_of_getElem? (i := 3) (by decide +kernel))) rfl
set_option maxRecDepth 20000 in
theorem tw_4 : (Jvm.Cond.initialized "NinthStep$Mule") ∈ ns_TB := ns_tb (mt_1 (List.mem_of_getElem? (i := 4) (by decide +kernel))) rfl
set_option maxRecDepth 20000 in
theorem tw_5 : (Jvm.Cond.initialized "NinthStep$Tape") ∈ ns_TB := ns_tb (mt_1 (List.mem_of_getElem? (i := 5) (by decide +kernel))) rfl
set_option maxRecDepth 20000 in
theorem tw_6 : (Jvm.Cond.initialized "NinthStep$TurnPlan") ∈ ns_TB := ns_tb (mt_1 (List.mem_of_getElem? (i := 6) (by decide +kernel))) rfl
set_option maxRecDepth 20000 in
theorem tw_7 : (Jvm.Cond.initialized "NinthStep$StonePlan") ∈ ns_TB := ns_tb (mt_1 (List.mem_of_getElem? (i := 7) (by decide +kernel))) rfl
set_option maxRecDepth 20000 in
theorem tw_8 : (Jvm.Cond.initialized "NinthStep$Chance") ∈ ns_TB := ns_tb (mt_1 (List.mem_of_getElem? (i := 8) (by decide +kernel))) rfl
set_option maxRecDepth 20000 in
theorem tw_9 : (Jvm.Cond.initialized "NinthStep$Shelf") ∈ ns_TB := ns_tb (mt_1 (List.mem_of_getElem? (i := 9) (by decide +kernel))) rfl
set_option maxRecDepth 20000 in
theorem tw_10 : (Jvm.Cond.initialized "NinthStepModel") ∈ ns_TB := ns_tb (mt_1 (List.mem_of_getElem? (i := 10) (by decide +kernel))) rfl
set_option maxRecDepth 20000 in
theorem tw_11 : (Jvm.Cond.initialized "java/lang/System") ∈ ns_TB := ns_tb (mt_1 (List.mem_of_getElem? (i := 11) (by decide +kernel))) rfl
set_option maxRecDepth 20000 in
theorem tw_12 : (Jvm.Cond.initialized "java/lang/Long") ∈ ns_TB := ns_tb (mt_1 (List.mem_of_getElem? (i := 12) (by decide +kernel))) rfl
set_option maxRecDepth 20000 in
theorem tw_13 : (Jvm.Cond.initialized "java/lang/Integer") ∈ ns_TB := ns_tb (mt_1 (List.mem_of_getElem? (i := 13) (by decide +kernel))) rfl
set_option maxRecDepth 20000 in
theorem tw_14 : (Jvm.Cond.initialized "java/lang/String") ∈ ns_TB := ns_tb (mt_1 (List.mem_of_getElem? (i := 14) (by decide +kernel))) rfl
set_option maxRecDepth 20000 in
theorem tw_15 : (Jvm.Cond.initialized "java/lang/StringLatin1") ∈ ns_TB := ns_tb (mt_1 (List.mem_of_getElem? (i := 15) (by decide +kernel))) rfl
set_option maxRecDepth 20000 in
theorem tw_16 : (Jvm.Cond.initialized "jdk/internal/util/Preconditions") ∈ ns_TB := ns_tb (mt_1 (List.mem_of_getElem? (i := 16) (by decide +kernel))) rfl
set_option maxRecDepth 20000 in
theorem tw_18 : (Jvm.Cond.initialized "java/lang/Math") ∈ ns_TB := ns_tb (mt_1 (List.mem_of_getElem? (i := 18) (by decide +kernel))) rfl
set_option maxRecDepth 20000 in
theorem tw_39 : (Jvm.Cond.fieldLink "NinthStep$Ground" (9 : Nat) "NinthStep$Ground" "end" "I") ∈ ns_TB := ns_tb (mt_1 (List.mem_of_getElem? (i := 39) (by decide +kernel))) rfl
set_option maxRecDepth 20000 in
theorem tw_40 : (Jvm.Cond.fieldLinkNest "NinthStep$TurnPlan" (47 : Nat) "NinthStep$Ground" "end" "I" "NinthStep") ∈ ns_NB := ns_nb (mt_1 (List.mem_of_getElem? (i := 40) (by decide +kernel))) rfl
set_option maxRecDepth 20000 in
theorem tw_41 : (Jvm.Cond.fieldLinkNest "NinthStep$Chance" (37 : Nat) "NinthStep$Ground" "end" "I" "NinthStep") ∈ ns_NB := ns_nb (mt_1 (List.mem_of_getElem? (i := 41) (by decide +kernel))) rfl
set_option maxRecDepth 20000 in
theorem tw_42 : (Jvm.Cond.fieldLinkNest "NinthStep$StonePlan" (87 : Nat) "NinthStep$Ground" "end" "I" "NinthStep") ∈ ns_NB := ns_nb (mt_1 (List.mem_of_getElem? (i := 42) (by decide +kernel))) rfl
set_option maxRecDepth 20000 in
theorem tw_43 : (Jvm.Cond.fieldLinkNest "NinthStep$Tape" (88 : Nat) "NinthStep$Ground" "end" "I" "NinthStep") ∈ ns_NB := ns_nb (mt_1 (List.mem_of_getElem? (i := 43) (by decide +kernel))) rfl
set_option maxRecDepth 20000 in
theorem tw_44 : (Jvm.Cond.fieldLinkNest "NinthStep$World" (73 : Nat) "NinthStep$Ground" "end" "I" "NinthStep") ∈ ns_NB := ns_nb (mt_1 (List.mem_of_getElem? (i := 44) (by decide +kernel))) rfl
set_option maxRecDepth 20000 in
theorem tw_45 : (Jvm.Cond.fieldLinkNest "NinthStep" (147 : Nat) "NinthStep$Ground" "end" "I" "NinthStep") ∈ ns_NB := ns_nb (mt_1 (List.mem_of_getElem? (i := 45) (by decide +kernel))) rfl
set_option maxRecDepth 20000 in
theorem tw_46 : (Jvm.Cond.fieldLink "NinthStep$Ground" (15 : Nat) "NinthStep$Ground" "stones" "J") ∈ ns_TB := ns_tb (mt_1 (List.mem_of_getElem? (i := 46) (by decide +kernel))) rfl
set_option maxRecDepth 20000 in
theorem tw_47 : (Jvm.Cond.fieldLinkNest "NinthStep$Chance" (42 : Nat) "NinthStep$Ground" "stones" "J" "NinthStep") ∈ ns_NB := ns_nb (mt_1 (List.mem_of_getElem? (i := 47) (by decide +kernel))) rfl
set_option maxRecDepth 20000 in
theorem tw_48 : (Jvm.Cond.fieldLinkNest "NinthStep$StonePlan" (97 : Nat) "NinthStep$Ground" "stones" "J" "NinthStep") ∈ ns_NB := ns_nb (mt_1 (List.mem_of_getElem? (i := 48) (by decide +kernel))) rfl
set_option maxRecDepth 20000 in
theorem tw_49 : (Jvm.Cond.fieldLinkNest "NinthStep$Mule" (46 : Nat) "NinthStep$Ground" "stones" "J" "NinthStep") ∈ ns_NB := ns_nb (mt_1 (List.mem_of_getElem? (i := 49) (by decide +kernel))) rfl
set_option maxRecDepth 20000 in
theorem tw_50 : (Jvm.Cond.fieldLinkNest "NinthStep" (343 : Nat) "NinthStep$Ground" "stones" "J" "NinthStep") ∈ ns_NB := ns_nb (mt_1 (List.mem_of_getElem? (i := 50) (by decide +kernel))) rfl
set_option maxRecDepth 20000 in
theorem tw_51 : (Jvm.Cond.fieldLink "NinthStep$Ground" (19 : Nat) "NinthStep$Ground" "inns" "J") ∈ ns_TB := ns_tb (mt_1 (List.mem_of_getElem? (i := 51) (by decide +kernel))) rfl
set_option maxRecDepth 20000 in
theorem tw_52 : (Jvm.Cond.fieldLinkNest "NinthStep$Mule" (52 : Nat) "NinthStep$Ground" "inns" "J" "NinthStep") ∈ ns_NB := ns_nb (mt_1 (List.mem_of_getElem? (i := 52) (by decide +kernel))) rfl
set_option maxRecDepth 20000 in
theorem tw_53 : (Jvm.Cond.fieldLinkNest "NinthStep" (349 : Nat) "NinthStep$Ground" "inns" "J" "NinthStep") ∈ ns_NB := ns_nb (mt_1 (List.mem_of_getElem? (i := 53) (by decide +kernel))) rfl
set_option maxRecDepth 20000 in
theorem tw_54 : (Jvm.Cond.fieldLink "NinthStep$Ground" (22 : Nat) "NinthStep$Ground" "cliffs" "J") ∈ ns_TB := ns_tb (mt_1 (List.mem_of_getElem? (i := 54) (by decide +kernel))) rfl
set_option maxRecDepth 20000 in
theorem tw_55 : (Jvm.Cond.fieldLinkNest "NinthStep$Chance" (57 : Nat) "NinthStep$Ground" "cliffs" "J" "NinthStep") ∈ ns_NB := ns_nb (mt_1 (List.mem_of_getElem? (i := 55) (by decide +kernel))) rfl
set_option maxRecDepth 20000 in
theorem tw_56 : (Jvm.Cond.fieldLinkNest "NinthStep$TurnPlan" (84 : Nat) "NinthStep$Ground" "cliffs" "J" "NinthStep") ∈ ns_NB := ns_nb (mt_1 (List.mem_of_getElem? (i := 56) (by decide +kernel))) rfl
set_option maxRecDepth 20000 in
theorem tw_57 : (Jvm.Cond.fieldLinkNest "NinthStep$World" (62 : Nat) "NinthStep$Ground" "cliffs" "J" "NinthStep") ∈ ns_NB := ns_nb (mt_1 (List.mem_of_getElem? (i := 57) (by decide +kernel))) rfl
set_option maxRecDepth 20000 in
theorem tw_58 : (Jvm.Cond.fieldLinkNest "NinthStep$Mule" (59 : Nat) "NinthStep$Ground" "cliffs" "J" "NinthStep") ∈ ns_NB := ns_nb (mt_1 (List.mem_of_getElem? (i := 58) (by decide +kernel))) rfl
set_option maxRecDepth 20000 in
theorem tw_59 : (Jvm.Cond.fieldLinkNest "NinthStep$StonePlan" (148 : Nat) "NinthStep$Ground" "cliffs" "J" "NinthStep") ∈ ns_NB := ns_nb (mt_1 (List.mem_of_getElem? (i := 59) (by decide +kernel))) rfl
set_option maxRecDepth 20000 in
theorem tw_60 : (Jvm.Cond.fieldLinkNest "NinthStep" (234 : Nat) "NinthStep$Ground" "cliffs" "J" "NinthStep") ∈ ns_NB := ns_nb (mt_1 (List.mem_of_getElem? (i := 60) (by decide +kernel))) rfl
set_option maxRecDepth 20000 in
theorem tw_61 : (Jvm.Cond.fieldLink "NinthStep$Ground" (25 : Nat) "NinthStep$Ground" "views" "J") ∈ ns_TB := ns_tb (mt_1 (List.mem_of_getElem? (i := 61) (by decide +kernel))) rfl
set_option maxRecDepth 20000 in
theorem tw_62 : (Jvm.Cond.fieldLinkNest "NinthStep$TurnPlan" (96 : Nat) "NinthStep$Ground" "views" "J" "NinthStep") ∈ ns_NB := ns_nb (mt_1 (List.mem_of_getElem? (i := 62) (by decide +kernel))) rfl
set_option maxRecDepth 20000 in
theorem tw_63 : (Jvm.Cond.fieldLinkNest "NinthStep" (364 : Nat) "NinthStep$Ground" "views" "J" "NinthStep") ∈ ns_NB := ns_nb (mt_1 (List.mem_of_getElem? (i := 63) (by decide +kernel))) rfl
set_option maxRecDepth 20000 in
theorem tw_82 : (Jvm.Cond.fieldLink "NinthStep$Mule" (9 : Nat) "NinthStep$Mule" "kind" "I") ∈ ns_TB := ns_tb (mt_1 (List.mem_of_getElem? (i := 82) (by decide +kernel))) rfl
set_option maxRecDepth 20000 in
theorem tw_83 : (Jvm.Cond.fieldLinkNest "NinthStep" (124 : Nat) "NinthStep$Mule" "kind" "I" "NinthStep") ∈ ns_NB := ns_nb (mt_1 (List.mem_of_getElem? (i := 83) (by decide +kernel))) rfl
set_option maxRecDepth 20000 in
theorem tw_84 : (Jvm.Cond.fieldLink "NinthStep$Mule" (15 : Nat) "NinthStep$Mule" "number" "I") ∈ ns_TB := ns_tb (mt_1 (List.mem_of_getElem? (i := 84) (by decide +kernel))) rfl
set_option maxRecDepth 20000 in
theorem tw_85 : (Jvm.Cond.fieldLinkNest "NinthStep$Chance" (50 : Nat) "NinthStep$Mule" "number" "I" "NinthStep") ∈ ns_NB := ns_nb (mt_1 (List.mem_of_getElem? (i := 85) (by decide +kernel))) rfl
set_option maxRecDepth 20000 in
theorem tw_86 : (Jvm.Cond.fieldLinkNest "NinthStep" (176 : Nat) "NinthStep$Mule" "number" "I" "NinthStep") ∈ ns_NB := ns_nb (mt_1 (List.mem_of_getElem? (i := 86) (by decide +kernel))) rfl
set_option maxRecDepth 20000 in
theorem tw_87 : (Jvm.Cond.fieldLinkNest "NinthStep$TurnPlan" (29 : Nat) "NinthStep$Mule" "at" "I" "NinthStep") ∈ ns_NB := ns_nb (mt_1 (List.mem_of_getElem? (i := 87) (by decide +kernel))) rfl
set_option maxRecDepth 20000 in
theorem tw_88 : (Jvm.Cond.fieldLink "NinthStep$Mule" (21 : Nat) "NinthStep$Mule" "at" "I") ∈ ns_TB := ns_tb (mt_1 (List.mem_of_getElem? (i := 88) (by decide +kernel))) rfl
set_option maxRecDepth 20000 in
theorem tw_89 : (Jvm.Cond.fieldLinkNest "NinthStep$Chance" (34 : Nat) "NinthStep$Mule" "at" "I" "NinthStep") ∈ ns_NB := ns_nb (mt_1 (List.mem_of_getElem? (i := 89) (by decide +kernel))) rfl
set_option maxRecDepth 20000 in
theorem tw_90 : (Jvm.Cond.fieldLinkNest "NinthStep$StonePlan" (107 : Nat) "NinthStep$Mule" "at" "I" "NinthStep") ∈ ns_NB := ns_nb (mt_1 (List.mem_of_getElem? (i := 90) (by decide +kernel))) rfl
set_option maxRecDepth 20000 in
theorem tw_91 : (Jvm.Cond.fieldLinkNest "NinthStep$World" (66 : Nat) "NinthStep$Mule" "at" "I" "NinthStep") ∈ ns_NB := ns_nb (mt_1 (List.mem_of_getElem? (i := 91) (by decide +kernel))) rfl
set_option maxRecDepth 20000 in
theorem tw_92 : (Jvm.Cond.fieldLinkNest "NinthStep$Tape" (111 : Nat) "NinthStep$Mule" "at" "I" "NinthStep") ∈ ns_NB := ns_nb (mt_1 (List.mem_of_getElem? (i := 92) (by decide +kernel))) rfl
set_option maxRecDepth 20000 in
theorem tw_93 : (Jvm.Cond.fieldLinkNest "NinthStep" (179 : Nat) "NinthStep$Mule" "at" "I" "NinthStep") ∈ ns_NB := ns_nb (mt_1 (List.mem_of_getElem? (i := 93) (by decide +kernel))) rfl
set_option maxRecDepth 20000 in
theorem tw_94 : (Jvm.Cond.fieldLink "NinthStep$Mule" (24 : Nat) "NinthStep$Mule" "count" "I") ∈ ns_TB := ns_tb (mt_1 (List.mem_of_getElem? (i := 94) (by decide +kernel))) rfl
set_option maxRecDepth 20000 in
theorem tw_95 : (Jvm.Cond.fieldLinkNest "NinthStep$Chance" (18 : Nat) "NinthStep$Mule" "count" "I" "NinthStep") ∈ ns_NB := ns_nb (mt_1 (List.mem_of_getElem? (i := 95) (by decide +kernel))) rfl
set_option maxRecDepth 20000 in
theorem tw_96 : (Jvm.Cond.fieldLinkNest "NinthStep$Tape" (115 : Nat) "NinthStep$Mule" "count" "I" "NinthStep") ∈ ns_NB := ns_nb (mt_1 (List.mem_of_getElem? (i := 96) (by decide +kernel))) rfl
set_option maxRecDepth 20000 in
theorem tw_97 : (Jvm.Cond.fieldLinkNest "NinthStep" (182 : Nat) "NinthStep$Mule" "count" "I" "NinthStep") ∈ ns_NB := ns_nb (mt_1 (List.mem_of_getElem? (i := 97) (by decide +kernel))) rfl
set_option maxRecDepth 20000 in
theorem tw_98 : (Jvm.Cond.fieldLink "NinthStep$Mule" (27 : Nat) "NinthStep$Mule" "rested" "I") ∈ ns_TB := ns_tb (mt_1 (List.mem_of_getElem? (i := 98) (by decide +kernel))) rfl
set_option maxRecDepth 20000 in
theorem tw_99 : (Jvm.Cond.fieldLinkNest "NinthStep$World" (56 : Nat) "NinthStep$Mule" "rested" "I" "NinthStep") ∈ ns_NB := ns_nb (mt_1 (List.mem_of_getElem? (i := 99) (by decide +kernel))) rfl
set_option maxRecDepth 20000 in
theorem tw_100 : (Jvm.Cond.fieldLinkNest "NinthStep" (203 : Nat) "NinthStep$Mule" "rested" "I" "NinthStep") ∈ ns_NB := ns_nb (mt_1 (List.mem_of_getElem? (i := 100) (by decide +kernel))) rfl
set_option maxRecDepth 20000 in
theorem tw_101 : (Jvm.Cond.fieldLink "NinthStep$Mule" (18 : Nat) "NinthStep$Mule" "a" "I") ∈ ns_TB := ns_tb (mt_1 (List.mem_of_getElem? (i := 101) (by decide +kernel))) rfl
set_option maxRecDepth 20000 in
theorem tw_102 : (Jvm.Cond.fieldLinkNest "NinthStep" (206 : Nat) "NinthStep$Mule" "a" "I" "NinthStep") ∈ ns_NB := ns_nb (mt_1 (List.mem_of_getElem? (i := 102) (by decide +kernel))) rfl
set_option maxRecDepth 20000 in
theorem tw_103 : (Jvm.Cond.fieldLink "NinthStep$Mule" (34 : Nat) "NinthStep$Mule" "restTime" "I") ∈ ns_TB := ns_tb (mt_1 (List.mem_of_getElem? (i := 103) (by decide +kernel))) rfl
set_option maxRecDepth 20000 in
theorem tw_104 : (Jvm.Cond.fieldLinkNest "NinthStep$World" (59 : Nat) "NinthStep$Mule" "restTime" "I" "NinthStep") ∈ ns_NB := ns_nb (mt_1 (List.mem_of_getElem? (i := 104) (by decide +kernel))) rfl
set_option maxRecDepth 20000 in
theorem tw_105 : (Jvm.Cond.fieldLinkNest "NinthStep" (340 : Nat) "NinthStep$Mule" "restTime" "I" "NinthStep") ∈ ns_NB := ns_nb (mt_1 (List.mem_of_getElem? (i := 105) (by decide +kernel))) rfl
set_option maxRecDepth 20000 in
theorem tw_106 : (Jvm.Cond.fieldLink "NinthStep$Mule" (37 : Nat) "NinthStep$Mule" "stoneWeight" "I") ∈ ns_TB := ns_tb (mt_1 (List.mem_of_getElem? (i := 106) (by decide +kernel))) rfl
set_option maxRecDepth 20000 in
theorem tw_107 : (Jvm.Cond.fieldLinkNest "NinthStep$StonePlan" (123 : Nat) "NinthStep$Mule" "stoneWeight" "I" "NinthStep") ∈ ns_NB := ns_nb (mt_1 (List.mem_of_getElem? (i := 107) (by decide +kernel))) rfl
set_option maxRecDepth 20000 in
theorem tw_125 : (Jvm.Cond.fieldLink "NinthStep$World" (12 : Nat) "NinthStep$World" "ground" "LNinthStep$Ground;") ∈ ns_TB := ns_tb (mt_1 (List.mem_of_getElem? (i := 125) (by decide +kernel))) rfl
set_option maxRecDepth 20000 in
theorem tw_126 : (Jvm.Cond.fieldLinkNest "NinthStep$StonePlan" (38 : Nat) "NinthStep$World" "ground" "LNinthStep$Ground;" "NinthStep") ∈ ns_NB := ns_nb (mt_1 (List.mem_of_getElem? (i := 126) (by decide +kernel))) rfl
set_option maxRecDepth 20000 in
theorem tw_127 : (Jvm.Cond.fieldLinkNest "NinthStep$Tape" (49 : Nat) "NinthStep$World" "ground" "LNinthStep$Ground;" "NinthStep") ∈ ns_NB := ns_nb (mt_1 (List.mem_of_getElem? (i := 127) (by decide +kernel))) rfl
set_option maxRecDepth 20000 in
theorem tw_128 : (Jvm.Cond.fieldLinkNest "NinthStep" (138 : Nat) "NinthStep$World" "ground" "LNinthStep$Ground;" "NinthStep") ∈ ns_NB := ns_nb (mt_1 (List.mem_of_getElem? (i := 128) (by decide +kernel))) rfl
set_option maxRecDepth 20000 in
theorem tw_129 : (Jvm.Cond.fieldLink "NinthStep$World" (20 : Nat) "NinthStep$World" "mules" "[LNinthStep$Mule;") ∈ ns_TB := ns_tb (mt_1 (List.mem_of_getElem? (i := 129) (by decide +kernel))) rfl
set_option maxRecDepth 20000 in
theorem tw_130 : (Jvm.Cond.fieldLinkNest "NinthStep$StonePlan" (49 : Nat) "NinthStep$World" "mules" "[LNinthStep$Mule;" "NinthStep") ∈ ns_NB := ns_nb (mt_1 (List.mem_of_getElem? (i := 130) (by decide +kernel))) rfl
set_option maxRecDepth 20000 in
theorem tw_131 : (Jvm.Cond.fieldLinkNest "NinthStep" (266 : Nat) "NinthStep$World" "mules" "[LNinthStep$Mule;" "NinthStep") ∈ ns_NB := ns_nb (mt_1 (List.mem_of_getElem? (i := 131) (by decide +kernel))) rfl
set_option maxRecDepth 20000 in
theorem tw_132 : (Jvm.Cond.fieldLinkNest "NinthStep$StonePlan" (45 : Nat) "NinthStep$World" "herd" "I" "NinthStep") ∈ ns_NB := ns_nb (mt_1 (List.mem_of_getElem? (i := 132) (by decide +kernel))) rfl
set_option maxRecDepth 20000 in
theorem tw_133 : (Jvm.Cond.fieldLink "NinthStep$World" (36 : Nat) "NinthStep$World" "herd" "I") ∈ ns_TB := ns_tb (mt_1 (List.mem_of_getElem? (i := 133) (by decide +kernel))) rfl
set_option maxRecDepth 20000 in
theorem tw_134 : (Jvm.Cond.fieldLinkNest "NinthStep$Tape" (70 : Nat) "NinthStep$World" "herd" "I" "NinthStep") ∈ ns_NB := ns_nb (mt_1 (List.mem_of_getElem? (i := 134) (by decide +kernel))) rfl
set_option maxRecDepth 20000 in
theorem tw_135 : (Jvm.Cond.fieldLinkNest "NinthStep" (135 : Nat) "NinthStep$World" "herd" "I" "NinthStep") ∈ ns_NB := ns_nb (mt_1 (List.mem_of_getElem? (i := 135) (by decide +kernel))) rfl
set_option maxRecDepth 20000 in
theorem tw_136 : (Jvm.Cond.fieldLink "NinthStep$World" (39 : Nat) "NinthStep$World" "slipping" "I") ∈ ns_TB := ns_tb (mt_1 (List.mem_of_getElem? (i := 136) (by decide +kernel))) rfl
set_option maxRecDepth 20000 in
theorem tw_137 : (Jvm.Cond.fieldLinkNest "NinthStep" (185 : Nat) "NinthStep$World" "slipping" "I" "NinthStep") ∈ ns_NB := ns_nb (mt_1 (List.mem_of_getElem? (i := 137) (by decide +kernel))) rfl
set_option maxRecDepth 20000 in
theorem tw_138 : (Jvm.Cond.fieldLink "NinthStep$World" (42 : Nat) "NinthStep$World" "fell" "I") ∈ ns_TB := ns_tb (mt_1 (List.mem_of_getElem? (i := 138) (by decide +kernel))) rfl
set_option maxRecDepth 20000 in
theorem tw_139 : (Jvm.Cond.fieldLinkNest "NinthStep" (323 : Nat) "NinthStep$World" "fell" "I" "NinthStep") ∈ ns_NB := ns_nb (mt_1 (List.mem_of_getElem? (i := 139) (by decide +kernel))) rfl
set_option maxRecDepth 20000 in
theorem tw_140 : (Jvm.Cond.fieldLink "NinthStep$World" (24 : Nat) "NinthStep$World" "seedNow" "I") ∈ ns_TB := ns_tb (mt_1 (List.mem_of_getElem? (i := 140) (by decide +kernel))) rfl
set_option maxRecDepth 20000 in
theorem tw_141 : (Jvm.Cond.fieldLinkNest "NinthStep" (330 : Nat) "NinthStep$World" "seedNow" "I" "NinthStep") ∈ ns_NB := ns_nb (mt_1 (List.mem_of_getElem? (i := 141) (by decide +kernel))) rfl
set_option maxRecDepth 20000 in
theorem tw_163 : (Jvm.Cond.fieldLink "NinthStep$Tape" (9 : Nat) "NinthStep$Tape" "bytes" "[I") ∈ ns_TB := ns_tb (mt_1 (List.mem_of_getElem? (i := 163) (by decide +kernel))) rfl
set_option maxRecDepth 20000 in
theorem tw_164 : (Jvm.Cond.fieldLink "NinthStep$Tape" (15 : Nat) "NinthStep$Tape" "size" "I") ∈ ns_TB := ns_tb (mt_1 (List.mem_of_getElem? (i := 164) (by decide +kernel))) rfl
set_option maxRecDepth 20000 in
theorem tw_165 : (Jvm.Cond.fieldLinkNest "NinthStep" (191 : Nat) "NinthStep$Tape" "size" "I" "NinthStep") ∈ ns_NB := ns_nb (mt_1 (List.mem_of_getElem? (i := 165) (by decide +kernel))) rfl
set_option maxRecDepth 20000 in
theorem tw_166 : (Jvm.Cond.fieldLink "NinthStep$Tape" (19 : Nat) "NinthStep$Tape" "fault" "I") ∈ ns_TB := ns_tb (mt_1 (List.mem_of_getElem? (i := 166) (by decide +kernel))) rfl
set_option maxRecDepth 20000 in
theorem tw_167 : (Jvm.Cond.fieldLinkNest "NinthStep" (200 : Nat) "NinthStep$Tape" "fault" "I" "NinthStep") ∈ ns_NB := ns_nb (mt_1 (List.mem_of_getElem? (i := 167) (by decide +kernel))) rfl
set_option maxRecDepth 20000 in
theorem tw_168 : (Jvm.Cond.fieldLink "NinthStep$Tape" (32 : Nat) "NinthStep$Tape" "sort" "I") ∈ ns_TB := ns_tb (mt_1 (List.mem_of_getElem? (i := 168) (by decide +kernel))) rfl
set_option maxRecDepth 20000 in
theorem tw_169 : (Jvm.Cond.fieldLink "NinthStep$Tape" (35 : Nat) "NinthStep$Tape" "from" "I") ∈ ns_TB := ns_tb (mt_1 (List.mem_of_getElem? (i := 169) (by decide +kernel))) rfl
set_option maxRecDepth 20000 in
theorem tw_170 : (Jvm.Cond.fieldLink "NinthStep$Tape" (22 : Nat) "NinthStep$Tape" "behind" "I") ∈ ns_TB := ns_tb (mt_1 (List.mem_of_getElem? (i := 170) (by decide +kernel))) rfl
set_option maxRecDepth 20000 in
theorem tw_193 : (Jvm.Cond.fieldLink "NinthStep$TurnPlan" (11 : Nat) "NinthStep$TurnPlan" "needed" "[I") ∈ ns_TB := ns_tb (mt_1 (List.mem_of_getElem? (i := 193) (by decide +kernel))) rfl
set_option maxRecDepth 20000 in
theorem tw_194 : (Jvm.Cond.fieldLink "NinthStep$TurnPlan" (15 : Nat) "NinthStep$TurnPlan" "numberAt" "[I") ∈ ns_TB := ns_tb (mt_1 (List.mem_of_getElem? (i := 194) (by decide +kernel))) rfl
set_option maxRecDepth 20000 in
theorem tw_195 : (Jvm.Cond.fieldLink "NinthStep$TurnPlan" (21 : Nat) "NinthStep$TurnPlan" "trial" "LNinthStep$Mule;") ∈ ns_TB := ns_tb (mt_1 (List.mem_of_getElem? (i := 195) (by decide +kernel))) rfl
set_option maxRecDepth 20000 in
theorem tw_196 : (Jvm.Cond.fieldLink "NinthStep$TurnPlan" (25 : Nat) "NinthStep$TurnPlan" "ground" "LNinthStep$Ground;") ∈ ns_TB := ns_tb (mt_1 (List.mem_of_getElem? (i := 196) (by decide +kernel))) rfl
set_option maxRecDepth 20000 in
theorem tw_197 : (Jvm.Cond.fieldLink "NinthStep$TurnPlan" (33 : Nat) "NinthStep$TurnPlan" "start" "I") ∈ ns_TB := ns_tb (mt_1 (List.mem_of_getElem? (i := 197) (by decide +kernel))) rfl
set_option maxRecDepth 20000 in
theorem tw_198 : (Jvm.Cond.fieldLink "NinthStep$TurnPlan" (40 : Nat) "NinthStep$TurnPlan" "firstCount" "I") ∈ ns_TB := ns_tb (mt_1 (List.mem_of_getElem? (i := 198) (by decide +kernel))) rfl
set_option maxRecDepth 20000 in
theorem tw_220 : (Jvm.Cond.fieldLink "NinthStep$StonePlan" (9 : Nat) "NinthStep$StonePlan" "safe" "[J") ∈ ns_TB := ns_tb (mt_1 (List.mem_of_getElem? (i := 220) (by decide +kernel))) rfl
set_option maxRecDepth 20000 in
theorem tw_221 : (Jvm.Cond.fieldLink "NinthStep$StonePlan" (15 : Nat) "NinthStep$StonePlan" "seconds" "[J") ∈ ns_TB := ns_tb (mt_1 (List.mem_of_getElem? (i := 221) (by decide +kernel))) rfl
set_option maxRecDepth 20000 in
theorem tw_222 : (Jvm.Cond.fieldLink "NinthStep$StonePlan" (18 : Nat) "NinthStep$StonePlan" "numberAt" "[I") ∈ ns_TB := ns_tb (mt_1 (List.mem_of_getElem? (i := 222) (by decide +kernel))) rfl
set_option maxRecDepth 20000 in
theorem tw_223 : (Jvm.Cond.fieldLink "NinthStep$StonePlan" (25 : Nat) "NinthStep$StonePlan" "outer" "LNinthStep$Mule;") ∈ ns_TB := ns_tb (mt_1 (List.mem_of_getElem? (i := 223) (by decide +kernel))) rfl
set_option maxRecDepth 20000 in
theorem tw_224 : (Jvm.Cond.fieldLink "NinthStep$StonePlan" (29 : Nat) "NinthStep$StonePlan" "branch" "LNinthStep$Mule;") ∈ ns_TB := ns_tb (mt_1 (List.mem_of_getElem? (i := 224) (by decide +kernel))) rfl
set_option maxRecDepth 20000 in
theorem tw_225 : (Jvm.Cond.fieldLink "NinthStep$StonePlan" (32 : Nat) "NinthStep$StonePlan" "inner" "LNinthStep$Mule;") ∈ ns_TB := ns_tb (mt_1 (List.mem_of_getElem? (i := 225) (by decide +kernel))) rfl
set_option maxRecDepth 20000 in
theorem tw_226 : (Jvm.Cond.fieldLink "NinthStep$StonePlan" (35 : Nat) "NinthStep$StonePlan" "trial" "LNinthStep$Mule;") ∈ ns_TB := ns_tb (mt_1 (List.mem_of_getElem? (i := 226) (by decide +kernel))) rfl
set_option maxRecDepth 20000 in
theorem tw_227 : (Jvm.Cond.fieldLink "NinthStep$StonePlan" (44 : Nat) "NinthStep$StonePlan" "ground" "LNinthStep$Ground;") ∈ ns_TB := ns_tb (mt_1 (List.mem_of_getElem? (i := 227) (by decide +kernel))) rfl
set_option maxRecDepth 20000 in
theorem tw_228 : (Jvm.Cond.fieldLink "NinthStep$StonePlan" (69 : Nat) "NinthStep$StonePlan" "first" "I") ∈ ns_TB := ns_tb (mt_1 (List.mem_of_getElem? (i := 228) (by decide +kernel))) rfl
set_option maxRecDepth 20000 in
theorem tw_229 : (Jvm.Cond.fieldLinkNest "NinthStep" (293 : Nat) "NinthStep$StonePlan" "first" "I" "NinthStep") ∈ ns_NB := ns_nb (mt_1 (List.mem_of_getElem? (i := 229) (by decide +kernel))) rfl
set_option maxRecDepth 20000 in
theorem tw_230 : (Jvm.Cond.fieldLink "NinthStep$StonePlan" (84 : Nat) "NinthStep$StonePlan" "second" "I") ∈ ns_TB := ns_tb (mt_1 (List.mem_of_getElem? (i := 230) (by decide +kernel))) rfl
set_option maxRecDepth 20000 in
theorem tw_231 : (Jvm.Cond.fieldLinkNest "NinthStep" (296 : Nat) "NinthStep$StonePlan" "second" "I" "NinthStep") ∈ ns_NB := ns_nb (mt_1 (List.mem_of_getElem? (i := 231) (by decide +kernel))) rfl
set_option maxRecDepth 20000 in
theorem tw_260 : (Jvm.Cond.fieldLink "NinthStep$Chance" (9 : Nat) "NinthStep$Chance" "parts" "[I") ∈ ns_TB := ns_tb (mt_2 (List.mem_of_getElem? (i := 20) (by decide +kernel))) rfl
set_option maxRecDepth 20000 in
theorem tw_261 : (Jvm.Cond.fieldLink "NinthStep$Chance" (15 : Nat) "NinthStep$Chance" "next" "[I") ∈ ns_TB := ns_tb (mt_2 (List.mem_of_getElem? (i := 21) (by decide +kernel))) rfl
set_option maxRecDepth 20000 in
theorem tw_274 : (Jvm.Cond.fieldLink "NinthStep$Shelf" (9 : Nat) "NinthStep$Shelf" "held" "I") ∈ ns_TB := ns_tb (mt_2 (List.mem_of_getElem? (i := 34) (by decide +kernel))) rfl
set_option maxRecDepth 20000 in
theorem tw_275 : (Jvm.Cond.fieldLinkNest "NinthStep" (117 : Nat) "NinthStep$Shelf" "held" "I" "NinthStep") ∈ ns_NB := ns_nb (mt_2 (List.mem_of_getElem? (i := 35) (by decide +kernel))) rfl
set_option maxRecDepth 20000 in
theorem tw_276 : (Jvm.Cond.fieldLink "NinthStep$Shelf" (19 : Nat) "NinthStep$Shelf" "size" "I") ∈ ns_TB := ns_tb (mt_2 (List.mem_of_getElem? (i := 36) (by decide +kernel))) rfl
set_option maxRecDepth 20000 in
theorem tw_277 : (Jvm.Cond.fieldLinkNest "NinthStep" (91 : Nat) "NinthStep$Shelf" "size" "I" "NinthStep") ∈ ns_NB := ns_nb (mt_2 (List.mem_of_getElem? (i := 37) (by decide +kernel))) rfl
set_option maxRecDepth 20000 in
theorem tw_278 : (Jvm.Cond.fieldLink "NinthStep$Shelf" (15 : Nat) "NinthStep$Shelf" "cells" "[J") ∈ ns_TB := ns_tb (mt_2 (List.mem_of_getElem? (i := 38) (by decide +kernel))) rfl
set_option maxRecDepth 20000 in
theorem tw_279 : (Jvm.Cond.fieldLinkNest "NinthStep" (103 : Nat) "NinthStep$Shelf" "cells" "[J" "NinthStep") ∈ ns_NB := ns_nb (mt_2 (List.mem_of_getElem? (i := 39) (by decide +kernel))) rfl
set_option maxRecDepth 20000 in
theorem tw_287 : (Jvm.Cond.fieldLink "NinthStep" (12 : Nat) "NinthStep" "now" "LNinthStep$World;") ∈ ns_TB := ns_tb (mt_2 (List.mem_of_getElem? (i := 47) (by decide +kernel))) rfl
set_option maxRecDepth 20000 in
theorem tw_288 : (Jvm.Cond.fieldLink "NinthStep" (16 : Nat) "NinthStep" "kept" "LNinthStep$World;") ∈ ns_TB := ns_tb (mt_2 (List.mem_of_getElem? (i := 48) (by decide +kernel))) rfl
set_option maxRecDepth 20000 in
theorem tw_289 : (Jvm.Cond.fieldLink "NinthStep" (19 : Nat) "NinthStep" "draft" "LNinthStep$World;") ∈ ns_TB := ns_tb (mt_2 (List.mem_of_getElem? (i := 49) (by decide +kernel))) rfl
set_option maxRecDepth 20000 in
theorem tw_290 : (Jvm.Cond.fieldLink "NinthStep" (24 : Nat) "NinthStep" "shelves" "[LNinthStep$Shelf;") ∈ ns_TB := ns_tb (mt_2 (List.mem_of_getElem? (i := 50) (by decide +kernel))) rfl
set_option maxRecDepth 20000 in
theorem tw_291 : (Jvm.Cond.fieldLink "NinthStep" (31 : Nat) "NinthStep" "tape" "LNinthStep$Tape;") ∈ ns_TB := ns_tb (mt_2 (List.mem_of_getElem? (i := 51) (by decide +kernel))) rfl
set_option maxRecDepth 20000 in
theorem tw_292 : (Jvm.Cond.fieldLink "NinthStep" (38 : Nat) "NinthStep" "turnPlan" "LNinthStep$TurnPlan;") ∈ ns_TB := ns_tb (mt_2 (List.mem_of_getElem? (i := 52) (by decide +kernel))) rfl
set_option maxRecDepth 20000 in
theorem tw_293 : (Jvm.Cond.fieldLink "NinthStep" (45 : Nat) "NinthStep" "stonePlan" "LNinthStep$StonePlan;") ∈ ns_TB := ns_tb (mt_2 (List.mem_of_getElem? (i := 53) (by decide +kernel))) rfl
set_option maxRecDepth 20000 in
theorem tw_294 : (Jvm.Cond.fieldLink "NinthStep" (52 : Nat) "NinthStep" "chance" "LNinthStep$Chance;") ∈ ns_TB := ns_tb (mt_2 (List.mem_of_getElem? (i := 54) (by decide +kernel))) rfl
set_option maxRecDepth 20000 in
theorem tw_295 : (Jvm.Cond.fieldLink "NinthStep" (59 : Nat) "NinthStep" "walker" "LNinthStep$Mule;") ∈ ns_TB := ns_tb (mt_2 (List.mem_of_getElem? (i := 55) (by decide +kernel))) rfl
set_option maxRecDepth 20000 in
theorem tw_296 : (Jvm.Cond.fieldLink "NinthStep" (63 : Nat) "NinthStep" "crowds" "[I") ∈ ns_TB := ns_tb (mt_2 (List.mem_of_getElem? (i := 56) (by decide +kernel))) rfl
set_option maxRecDepth 20000 in
theorem tw_297 : (Jvm.Cond.fieldLink "NinthStep" (67 : Nat) "NinthStep" "refusals" "[I") ∈ ns_TB := ns_tb (mt_2 (List.mem_of_getElem? (i := 57) (by decide +kernel))) rfl
set_option maxRecDepth 20000 in
theorem tw_298 : (Jvm.Cond.fieldLink "NinthStep" (333 : Nat) "NinthStep" "isKept" "Z") ∈ ns_TB := ns_tb (mt_2 (List.mem_of_getElem? (i := 58) (by decide +kernel))) rfl
set_option maxRecDepth 20000 in
theorem tw_328 : (Jvm.Cond.methodLink "NinthStep" (71 : Nat) ({ cls := "NinthStep", name := "shelfAt", desc := "(I)LNinthStep$Shelf;" } : Jvm.MethodName)) ∈ ns_TB := ns_tb (mt_2 (List.mem_of_getElem? (i := 88) (by decide +kernel))) rfl
set_option maxRecDepth 20000 in
theorem tw_330 : (Jvm.Cond.instanceMethod ({ cls := "NinthStep", name := "shelfAt", desc := "(I)LNinthStep$Shelf;" } : Jvm.MethodName)) ∈ ns_TB := ns_tb (mt_2 (List.mem_of_getElem? (i := 90) (by decide +kernel))) rfl
set_option maxRecDepth 20000 in
theorem tw_331 : (Jvm.Cond.code ({ cls := "NinthStep", name := "shelfAt", desc := "(I)LNinthStep$Shelf;" } : Jvm.MethodName) prog_1_method_48_code (2 : Nat) (Option.some (Jvm.ClassFile.FieldType.object "NinthStep$Shelf"))) ∈ ns_TB := ns_tb (mt_2 (List.mem_of_getElem? (i := 91) rfl)) rfl
set_option maxRecDepth 20000 in
theorem tw_332 : (Jvm.Cond.methodLink "NinthStep" (75 : Nat) ({ cls := "NinthStep", name := "isWithin", desc := "(III)Z" } : Jvm.MethodName)) ∈ ns_TB := ns_tb (mt_2 (List.mem_of_getElem? (i := 92) (by decide +kernel))) rfl
set_option maxRecDepth 20000 in
theorem tw_333 : (Jvm.Cond.static ({ cls := "NinthStep", name := "isWithin", desc := "(III)Z" } : Jvm.MethodName)) ∈ ns_TB := ns_tb (mt_2 (List.mem_of_getElem? (i := 93) (by decide +kernel))) rfl
set_option maxRecDepth 20000 in
theorem tw_334 : (Jvm.Cond.code ({ cls := "NinthStep", name := "isWithin", desc := "(III)Z" } : Jvm.MethodName) prog_1_method_67_code (3 : Nat) (Option.some Jvm.ClassFile.FieldType.boolean)) ∈ ns_TB := ns_tb (mt_2 (List.mem_of_getElem? (i := 94) rfl)) rfl
set_option maxRecDepth 20000 in
theorem tw_335 : (Jvm.Cond.methodLink "NinthStep" (79 : Nat) ({ cls := "NinthStep", name := "refuse", desc := "(I)I" } : Jvm.MethodName)) ∈ ns_TB := ns_tb (mt_2 (List.mem_of_getElem? (i := 95) (by decide +kernel))) rfl
set_option maxRecDepth 20000 in
theorem tw_337 : (Jvm.Cond.instanceMethod ({ cls := "NinthStep", name := "refuse", desc := "(I)I" } : Jvm.MethodName)) ∈ ns_TB := ns_tb (mt_2 (List.mem_of_getElem? (i := 97) (by decide +kernel))) rfl
set_option maxRecDepth 20000 in
theorem tw_338 : (Jvm.Cond.code ({ cls := "NinthStep", name := "refuse", desc := "(I)I" } : Jvm.MethodName) prog_1_method_47_code (3 : Nat) (Option.some Jvm.ClassFile.FieldType.int)) ∈ ns_TB := ns_tb (mt_2 (List.mem_of_getElem? (i := 98) rfl)) rfl
set_option maxRecDepth 20000 in
theorem tw_339 : (Jvm.Cond.methodLinkNest "NinthStep" (83 : Nat) ({ cls := "NinthStep$Shelf", name := "holdRow", desc := "(II)V" } : Jvm.MethodName) "NinthStep") ∈ ns_NB := ns_nb (mt_2 (List.mem_of_getElem? (i := 99) (by decide +kernel))) rfl
set_option maxRecDepth 20000 in
theorem tw_341 : (Jvm.Cond.instanceMethod ({ cls := "NinthStep$Shelf", name := "holdRow", desc := "(II)V" } : Jvm.MethodName)) ∈ ns_TB := ns_tb (mt_2 (List.mem_of_getElem? (i := 101) (by decide +kernel))) rfl
set_option maxRecDepth 20000 in
theorem tw_342 : (Jvm.Cond.code ({ cls := "NinthStep$Shelf", name := "holdRow", desc := "(II)V" } : Jvm.MethodName) prog_5_method_2_code (4 : Nat) (Option.none : Option Jvm.ClassFile.FieldType)) ∈ ns_TB := ns_tb (mt_2 (List.mem_of_getElem? (i := 102) rfl)) rfl
set_option maxRecDepth 20000 in
theorem tw_347 : (Jvm.Cond.methodLinkNest "NinthStep" (87 : Nat) ({ cls := "NinthStep$Shelf", name := "troubleAsRow", desc := "()I" } : Jvm.MethodName) "NinthStep") ∈ ns_NB := ns_nb (mt_2 (List.mem_of_getElem? (i := 107) (by decide +kernel))) rfl
set_option maxRecDepth 20000 in
theorem tw_349 : (Jvm.Cond.instanceMethod ({ cls := "NinthStep$Shelf", name := "troubleAsRow", desc := "()I" } : Jvm.MethodName)) ∈ ns_TB := ns_tb (mt_2 (List.mem_of_getElem? (i := 109) (by decide +kernel))) rfl
set_option maxRecDepth 20000 in
theorem tw_350 : (Jvm.Cond.code ({ cls := "NinthStep$Shelf", name := "troubleAsRow", desc := "()I" } : Jvm.MethodName) prog_5_method_3_code (1 : Nat) (Option.some Jvm.ClassFile.FieldType.int)) ∈ ns_TB := ns_tb (mt_2 (List.mem_of_getElem? (i := 110) rfl)) rfl
set_option maxRecDepth 20000 in
theorem tw_351 : (Jvm.Cond.methodLinkNest "NinthStep" (95 : Nat) ({ cls := "NinthStep$Shelf", name := "putCell", desc := "(IJ)V" } : Jvm.MethodName) "NinthStep") ∈ ns_NB := ns_nb (mt_2 (List.mem_of_getElem? (i := 111) (by decide +kernel))) rfl
set_option maxRecDepth 20000 in
theorem tw_353 : (Jvm.Cond.instanceMethod ({ cls := "NinthStep$Shelf", name := "putCell", desc := "(IJ)V" } : Jvm.MethodName)) ∈ ns_TB := ns_tb (mt_2 (List.mem_of_getElem? (i := 113) (by decide +kernel))) rfl
set_option maxRecDepth 20000 in
theorem tw_354 : (Jvm.Cond.code ({ cls := "NinthStep$Shelf", name := "putCell", desc := "(IJ)V" } : Jvm.MethodName) prog_5_method_5_code (4 : Nat) (Option.none : Option Jvm.ClassFile.FieldType)) ∈ ns_TB := ns_tb (mt_2 (List.mem_of_getElem? (i := 114) rfl)) rfl
set_option maxRecDepth 20000 in
theorem tw_355 : (Jvm.Cond.methodLinkNest "NinthStep$Shelf" (26 : Nat) ({ cls := "NinthStep", name := "isWithin", desc := "(III)Z" } : Jvm.MethodName) "NinthStep") ∈ ns_NB := ns_nb (mt_2 (List.mem_of_getElem? (i := 115) (by decide +kernel))) rfl
set_option maxRecDepth 20000 in
theorem tw_356 : (Jvm.Cond.methodLink "NinthStep$Shelf" (30 : Nat) ({ cls := "NinthStep$Shelf", name := "lowestBits", desc := "(J)J" } : Jvm.MethodName)) ∈ ns_TB := ns_tb (mt_2 (List.mem_of_getElem? (i := 116) (by decide +kernel))) rfl
set_option maxRecDepth 20000 in
theorem tw_358 : (Jvm.Cond.instanceMethod ({ cls := "NinthStep$Shelf", name := "lowestBits", desc := "(J)J" } : Jvm.MethodName)) ∈ ns_TB := ns_tb (mt_2 (List.mem_of_getElem? (i := 118) (by decide +kernel))) rfl
set_option maxRecDepth 20000 in
theorem tw_359 : (Jvm.Cond.code ({ cls := "NinthStep$Shelf", name := "lowestBits", desc := "(J)J" } : Jvm.MethodName) prog_5_method_6_code (3 : Nat) (Option.some Jvm.ClassFile.FieldType.long)) ∈ ns_TB := ns_tb (mt_2 (List.mem_of_getElem? (i := 119) rfl)) rfl
set_option maxRecDepth 20000 in
theorem tw_364 : (Jvm.Cond.methodLink "NinthStep" (99 : Nat) ({ cls := "NinthStep", name := "troubleAsPair", desc := "(LNinthStep$Shelf;LNinthStep$Shelf;)I" } : Jvm.MethodName)) ∈ ns_TB := ns_tb (mt_2 (List.mem_of_getElem? (i := 124) (by decide +kernel))) rfl
set_option maxRecDepth 20000 in
theorem tw_365 : (Jvm.Cond.static ({ cls := "NinthStep", name := "troubleAsPair", desc := "(LNinthStep$Shelf;LNinthStep$Shelf;)I" } : Jvm.MethodName)) ∈ ns_TB := ns_tb (mt_2 (List.mem_of_getElem? (i := 125) (by decide +kernel))) rfl
set_option maxRecDepth 20000 in
theorem tw_366 : (Jvm.Cond.code ({ cls := "NinthStep", name := "troubleAsPair", desc := "(LNinthStep$Shelf;LNinthStep$Shelf;)I" } : Jvm.MethodName) prog_1_method_50_code (4 : Nat) (Option.some Jvm.ClassFile.FieldType.int)) ∈ ns_TB := ns_tb (mt_2 (List.mem_of_getElem? (i := 126) rfl)) rfl
set_option maxRecDepth 20000 in
theorem tw_367 : (Jvm.Cond.methodLink "NinthStep" (107 : Nat) ({ cls := "java/lang/System", name := "arraycopy", desc := "(Ljava/lang/Object;ILjava/lang/Object;II)V" } : Jvm.MethodName)) ∈ ns_TB := ns_tb (mt_2 (List.mem_of_getElem? (i := 127) (by decide +kernel))) rfl
set_option maxRecDepth 20000 in
theorem tw_368 : (Jvm.Cond.static ({ cls := "java/lang/System", name := "arraycopy", desc := "(Ljava/lang/Object;ILjava/lang/Object;II)V" } : Jvm.MethodName)) ∈ ns_TB := ns_tb (mt_2 (List.mem_of_getElem? (i := 128) (by decide +kernel))) rfl
set_option maxRecDepth 20000 in
theorem tw_369 : (Jvm.Cond.native ({ cls := "java/lang/System", name := "arraycopy", desc := "(Ljava/lang/Object;ILjava/lang/Object;II)V" } : Jvm.MethodName)) ∈ ns_TB := ns_tb (mt_2 (List.mem_of_getElem? (i := 129) (by decide +kernel))) rfl
set_option maxRecDepth 20000 in
theorem tw_374 : (Jvm.Cond.methodLinkNest "NinthStep" (113 : Nat) ({ cls := "NinthStep$Shelf", name := "cellAt", desc := "(I)J" } : Jvm.MethodName) "NinthStep") ∈ ns_NB := ns_nb (mt_2 (List.mem_of_getElem? (i := 134) (by decide +kernel))) rfl
set_option maxRecDepth 20000 in
theorem tw_376 : (Jvm.Cond.instanceMethod ({ cls := "NinthStep$Shelf", name := "cellAt", desc := "(I)J" } : Jvm.MethodName)) ∈ ns_TB := ns_tb (mt_2 (List.mem_of_getElem? (i := 136) (by decide +kernel))) rfl
set_option maxRecDepth 20000 in
theorem tw_377 : (Jvm.Cond.code ({ cls := "NinthStep$Shelf", name := "cellAt", desc := "(I)J" } : Jvm.MethodName) prog_5_method_4_code (2 : Nat) (Option.some Jvm.ClassFile.FieldType.long)) ∈ ns_TB := ns_tb (mt_2 (List.mem_of_getElem? (i := 137) rfl)) rfl
set_option maxRecDepth 20000 in
theorem tw_378 : (Jvm.Cond.methodLink "NinthStep$Shelf" (22 : Nat) ({ cls := "NinthStep$Shelf", name := "troubleAsRow", desc := "()I" } : Jvm.MethodName)) ∈ ns_TB := ns_tb (mt_2 (List.mem_of_getElem? (i := 138) (by decide +kernel))) rfl
set_option maxRecDepth 20000 in
theorem tw_387 : (Jvm.Cond.methodLinkNest "NinthStep" (120 : Nat) ({ cls := "NinthStep$World", name := "muleAt", desc := "(I)LNinthStep$Mule;" } : Jvm.MethodName) "NinthStep") ∈ ns_NB := ns_nb (mt_2 (List.mem_of_getElem? (i := 147) (by decide +kernel))) rfl
set_option maxRecDepth 20000 in
theorem tw_389 : (Jvm.Cond.instanceMethod ({ cls := "NinthStep$World", name := "muleAt", desc := "(I)LNinthStep$Mule;" } : Jvm.MethodName)) ∈ ns_TB := ns_tb (mt_2 (List.mem_of_getElem? (i := 149) (by decide +kernel))) rfl
set_option maxRecDepth 20000 in
theorem tw_390 : (Jvm.Cond.code ({ cls := "NinthStep$World", name := "muleAt", desc := "(I)LNinthStep$Mule;" } : Jvm.MethodName) prog_9_method_3_code (2 : Nat) (Option.some (Jvm.ClassFile.FieldType.object "NinthStep$Mule"))) ∈ ns_TB := ns_tb (mt_2 (List.mem_of_getElem? (i := 150) rfl)) rfl
set_option maxRecDepth 20000 in
theorem tw_395 : (Jvm.Cond.methodLink "NinthStep" (127 : Nat) ({ cls := "NinthStep", name := "isUnder", desc := "(II)Z" } : Jvm.MethodName)) ∈ ns_TB := ns_tb (mt_2 (List.mem_of_getElem? (i := 155) (by decide +kernel))) rfl
set_option maxRecDepth 20000 in
theorem tw_396 : (Jvm.Cond.static ({ cls := "NinthStep", name := "isUnder", desc := "(II)Z" } : Jvm.MethodName)) ∈ ns_TB := ns_tb (mt_2 (List.mem_of_getElem? (i := 156) (by decide +kernel))) rfl
set_option maxRecDepth 20000 in
theorem tw_397 : (Jvm.Cond.code ({ cls := "NinthStep", name := "isUnder", desc := "(II)Z" } : Jvm.MethodName) prog_1_method_68_code (4 : Nat) (Option.some Jvm.ClassFile.FieldType.boolean)) ∈ ns_TB := ns_tb (mt_2 (List.mem_of_getElem? (i := 157) rfl)) rfl
set_option maxRecDepth 20000 in
theorem tw_398 : (Jvm.Cond.fieldLink "NinthStep" (379 : Nat) "NinthStep" "ABOVE" "[I") ∈ ns_TB := ns_tb (mt_2 (List.mem_of_getElem? (i := 158) (by decide +kernel))) rfl
set_option maxRecDepth 20000 in
theorem tw_400 : (Jvm.Cond.methodLink "NinthStep" (131 : Nat) ({ cls := "NinthStep", name := "saidAs", desc := "(LNinthStep$Mule;I)I" } : Jvm.MethodName)) ∈ ns_TB := ns_tb (mt_2 (List.mem_of_getElem? (i := 160) (by decide +kernel))) rfl
set_option maxRecDepth 20000 in
theorem tw_402 : (Jvm.Cond.instanceMethod ({ cls := "NinthStep", name := "saidAs", desc := "(LNinthStep$Mule;I)I" } : Jvm.MethodName)) ∈ ns_TB := ns_tb (mt_2 (List.mem_of_getElem? (i := 162) (by decide +kernel))) rfl
set_option maxRecDepth 20000 in
theorem tw_403 : (Jvm.Cond.code ({ cls := "NinthStep", name := "saidAs", desc := "(LNinthStep$Mule;I)I" } : Jvm.MethodName) prog_1_method_52_code (4 : Nat) (Option.some Jvm.ClassFile.FieldType.int)) ∈ ns_TB := ns_tb (mt_2 (List.mem_of_getElem? (i := 163) rfl)) rfl
set_option maxRecDepth 20000 in
theorem tw_404 : (Jvm.Cond.methodLink "NinthStep" (346 : Nat) ({ cls := "NinthStep", name := "above", desc := "(I)J" } : Jvm.MethodName)) ∈ ns_TB := ns_tb (mt_2 (List.mem_of_getElem? (i := 164) (by decide +kernel))) rfl
set_option maxRecDepth 20000 in
theorem tw_405 : (Jvm.Cond.static ({ cls := "NinthStep", name := "above", desc := "(I)J" } : Jvm.MethodName)) ∈ ns_TB := ns_tb (mt_2 (List.mem_of_getElem? (i := 165) (by decide +kernel))) rfl
set_option maxRecDepth 20000 in
theorem tw_406 : (Jvm.Cond.code ({ cls := "NinthStep", name := "above", desc := "(I)J" } : Jvm.MethodName) prog_1_method_71_code (1 : Nat) (Option.some Jvm.ClassFile.FieldType.long)) ∈ ns_TB := ns_tb (mt_2 (List.mem_of_getElem? (i := 166) rfl)) rfl
set_option maxRecDepth 20000 in
theorem tw_407 : (Jvm.Cond.constantLong "NinthStep" (382 : Nat) (-2 : Int64)) ∈ ns_TB := ns_tb (mt_2 (List.mem_of_getElem? (i := 167) (by decide +kernel))) rfl
set_option maxRecDepth 20000 in
theorem tw_408 : (Jvm.Cond.methodLink "NinthStep" (213 : Nat) ({ cls := "java/lang/Long", name := "bitCount", desc := "(J)I" } : Jvm.MethodName)) ∈ ns_TB := ns_tb (mt_2 (List.mem_of_getElem? (i := 168) (by decide +kernel))) rfl
set_option maxRecDepth 20000 in
theorem tw_409 : (Jvm.Cond.static ({ cls := "java/lang/Long", name := "bitCount", desc := "(J)I" } : Jvm.MethodName)) ∈ ns_TB := ns_tb (mt_2 (List.mem_of_getElem? (i := 169) (by decide +kernel))) rfl
set_option maxRecDepth 20000 in
theorem tw_410 : (Jvm.Cond.code ({ cls := "java/lang/Long", name := "bitCount", desc := "(J)I" } : Jvm.MethodName) prog_13_method_50_code (2 : Nat) (Option.some Jvm.ClassFile.FieldType.int)) ∈ ns_TB := ns_tb (mt_2 (List.mem_of_getElem? (i := 170) rfl)) rfl
set_option maxRecDepth 20000 in
theorem tw_411 : (Jvm.Cond.constantLong "java/lang/Long" (314 : Nat) (6148914691236517205 : Int64)) ∈ ns_TB := ns_tb (mt_2 (List.mem_of_getElem? (i := 171) (by decide +kernel))) rfl
set_option maxRecDepth 20000 in
theorem tw_412 : (Jvm.Cond.constantLong "java/lang/Long" (316 : Nat) (3689348814741910323 : Int64)) ∈ ns_TB := ns_tb (mt_2 (List.mem_of_getElem? (i := 172) (by decide +kernel))) rfl
set_option maxRecDepth 20000 in
theorem tw_413 : (Jvm.Cond.constantLong "java/lang/Long" (318 : Nat) (1085102592571150095 : Int64)) ∈ ns_TB := ns_tb (mt_2 (List.mem_of_getElem? (i := 173) (by decide +kernel))) rfl
set_option maxRecDepth 20000 in
theorem tw_414 : (Jvm.Cond.methodLink "NinthStep" (238 : Nat) ({ cls := "NinthStep", name := "firstOf", desc := "(J)I" } : Jvm.MethodName)) ∈ ns_TB := ns_tb (mt_2 (List.mem_of_getElem? (i := 174) (by decide +kernel))) rfl
set_option maxRecDepth 20000 in
theorem tw_415 : (Jvm.Cond.static ({ cls := "NinthStep", name := "firstOf", desc := "(J)I" } : Jvm.MethodName)) ∈ ns_TB := ns_tb (mt_2 (List.mem_of_getElem? (i := 175) (by decide +kernel))) rfl
set_option maxRecDepth 20000 in
theorem tw_416 : (Jvm.Cond.code ({ cls := "NinthStep", name := "firstOf", desc := "(J)I" } : Jvm.MethodName) prog_1_method_73_code (2 : Nat) (Option.some Jvm.ClassFile.FieldType.int)) ∈ ns_TB := ns_tb (mt_2 (List.mem_of_getElem? (i := 176) rfl)) rfl
set_option maxRecDepth 20000 in
theorem tw_417 : (Jvm.Cond.methodLink "NinthStep" (219 : Nat) ({ cls := "java/lang/Long", name := "numberOfTrailingZeros", desc := "(J)I" } : Jvm.MethodName)) ∈ ns_TB := ns_tb (mt_2 (List.mem_of_getElem? (i := 177) (by decide +kernel))) rfl
set_option maxRecDepth 20000 in
theorem tw_418 : (Jvm.Cond.static ({ cls := "java/lang/Long", name := "numberOfTrailingZeros", desc := "(J)I" } : Jvm.MethodName)) ∈ ns_TB := ns_tb (mt_2 (List.mem_of_getElem? (i := 178) (by decide +kernel))) rfl
set_option maxRecDepth 20000 in
theorem tw_419 : (Jvm.Cond.code ({ cls := "java/lang/Long", name := "numberOfTrailingZeros", desc := "(J)I" } : Jvm.MethodName) prog_13_method_49_code (3 : Nat) (Option.some Jvm.ClassFile.FieldType.int)) ∈ ns_TB := ns_tb (mt_2 (List.mem_of_getElem? (i := 179) rfl)) rfl
set_option maxRecDepth 20000 in
theorem tw_420 : (Jvm.Cond.methodLink "java/lang/Long" (311 : Nat) ({ cls := "java/lang/Integer", name := "numberOfTrailingZeros", desc := "(I)I" } : Jvm.MethodName)) ∈ ns_TB := ns_tb (mt_2 (List.mem_of_getElem? (i := 180) (by decide +kernel))) rfl
set_option maxRecDepth 20000 in
theorem tw_421 : (Jvm.Cond.static ({ cls := "java/lang/Integer", name := "numberOfTrailingZeros", desc := "(I)I" } : Jvm.MethodName)) ∈ ns_TB := ns_tb (mt_2 (List.mem_of_getElem? (i := 181) (by decide +kernel))) rfl
set_option maxRecDepth 20000 in
theorem tw_422 : (Jvm.Cond.code ({ cls := "java/lang/Integer", name := "numberOfTrailingZeros", desc := "(I)I" } : Jvm.MethodName) prog_12_method_48_code (2 : Nat) (Option.some Jvm.ClassFile.FieldType.int)) ∈ ns_TB := ns_tb (mt_2 (List.mem_of_getElem? (i := 182) rfl)) rfl
set_option maxRecDepth 20000 in
theorem tw_423 : (Jvm.Cond.constant "java/lang/Integer" (264 : Nat) (65536 : Int32)) ∈ ns_TB := ns_tb (mt_2 (List.mem_of_getElem? (i := 183) (by decide +kernel))) rfl
set_option maxRecDepth 20000 in
theorem tw_428 : (Jvm.Cond.methodLinkNest "NinthStep" (142 : Nat) ({ cls := "NinthStep$Ground", name := "highest", desc := "()I" } : Jvm.MethodName) "NinthStep") ∈ ns_NB := ns_nb (mt_2 (List.mem_of_getElem? (i := 188) (by decide +kernel))) rfl
set_option maxRecDepth 20000 in
theorem tw_430 : (Jvm.Cond.instanceMethod ({ cls := "NinthStep$Ground", name := "highest", desc := "()I" } : Jvm.MethodName)) ∈ ns_TB := ns_tb (mt_2 (List.mem_of_getElem? (i := 190) (by decide +kernel))) rfl
set_option maxRecDepth 20000 in
theorem tw_431 : (Jvm.Cond.code ({ cls := "NinthStep$Ground", name := "highest", desc := "()I" } : Jvm.MethodName) prog_3_method_6_code (1 : Nat) (Option.some Jvm.ClassFile.FieldType.int)) ∈ ns_TB := ns_tb (mt_2 (List.mem_of_getElem? (i := 191) rfl)) rfl
set_option maxRecDepth 20000 in
theorem tw_432 : (Jvm.Cond.methodLinkNest "NinthStep$Ground" (41 : Nat) ({ cls := "NinthStep", name := "lastOf", desc := "(J)I" } : Jvm.MethodName) "NinthStep") ∈ ns_NB := ns_nb (mt_2 (List.mem_of_getElem? (i := 192) (by decide +kernel))) rfl
set_option maxRecDepth 20000 in
theorem tw_433 : (Jvm.Cond.static ({ cls := "NinthStep", name := "lastOf", desc := "(J)I" } : Jvm.MethodName)) ∈ ns_TB := ns_tb (mt_2 (List.mem_of_getElem? (i := 193) (by decide +kernel))) rfl
set_option maxRecDepth 20000 in
theorem tw_434 : (Jvm.Cond.code ({ cls := "NinthStep", name := "lastOf", desc := "(J)I" } : Jvm.MethodName) prog_1_method_74_code (2 : Nat) (Option.some Jvm.ClassFile.FieldType.int)) ∈ ns_TB := ns_tb (mt_2 (List.mem_of_getElem? (i := 194) rfl)) rfl
set_option maxRecDepth 20000 in
theorem tw_435 : (Jvm.Cond.methodLink "NinthStep" (384 : Nat) ({ cls := "java/lang/Long", name := "numberOfLeadingZeros", desc := "(J)I" } : Jvm.MethodName)) ∈ ns_TB := ns_tb (mt_2 (List.mem_of_getElem? (i := 195) (by decide +kernel))) rfl
set_option maxRecDepth 20000 in
theorem tw_436 : (Jvm.Cond.static ({ cls := "java/lang/Long", name := "numberOfLeadingZeros", desc := "(J)I" } : Jvm.MethodName)) ∈ ns_TB := ns_tb (mt_2 (List.mem_of_getElem? (i := 196) (by decide +kernel))) rfl
set_option maxRecDepth 20000 in
theorem tw_437 : (Jvm.Cond.code ({ cls := "java/lang/Long", name := "numberOfLeadingZeros", desc := "(J)I" } : Jvm.MethodName) prog_13_method_48_code (3 : Nat) (Option.some Jvm.ClassFile.FieldType.int)) ∈ ns_TB := ns_tb (mt_2 (List.mem_of_getElem? (i := 197) rfl)) rfl
set_option maxRecDepth 20000 in
theorem tw_438 : (Jvm.Cond.methodLink "java/lang/Long" (308 : Nat) ({ cls := "java/lang/Integer", name := "numberOfLeadingZeros", desc := "(I)I" } : Jvm.MethodName)) ∈ ns_TB := ns_tb (mt_2 (List.mem_of_getElem? (i := 198) (by decide +kernel))) rfl
set_option maxRecDepth 20000 in
theorem tw_439 : (Jvm.Cond.static ({ cls := "java/lang/Integer", name := "numberOfLeadingZeros", desc := "(I)I" } : Jvm.MethodName)) ∈ ns_TB := ns_tb (mt_2 (List.mem_of_getElem? (i := 199) (by decide +kernel))) rfl
set_option maxRecDepth 20000 in
theorem tw_440 : (Jvm.Cond.code ({ cls := "java/lang/Integer", name := "numberOfLeadingZeros", desc := "(I)I" } : Jvm.MethodName) prog_12_method_47_code (2 : Nat) (Option.some Jvm.ClassFile.FieldType.int)) ∈ ns_TB := ns_tb (mt_2 (List.mem_of_getElem? (i := 200) rfl)) rfl
set_option maxRecDepth 20000 in
theorem tw_445 : (Jvm.Cond.methodLink "NinthStep" (150 : Nat) ({ cls := "NinthStep", name := "isPlace", desc := "(I)Z" } : Jvm.MethodName)) ∈ ns_TB := ns_tb (mt_2 (List.mem_of_getElem? (i := 205) (by decide +kernel))) rfl
set_option maxRecDepth 20000 in
theorem tw_447 : (Jvm.Cond.instanceMethod ({ cls := "NinthStep", name := "isPlace", desc := "(I)Z" } : Jvm.MethodName)) ∈ ns_TB := ns_tb (mt_2 (List.mem_of_getElem? (i := 207) (by decide +kernel))) rfl
set_option maxRecDepth 20000 in
theorem tw_448 : (Jvm.Cond.code ({ cls := "NinthStep", name := "isPlace", desc := "(I)Z" } : Jvm.MethodName) prog_1_method_51_code (2 : Nat) (Option.some Jvm.ClassFile.FieldType.boolean)) ∈ ns_TB := ns_tb (mt_2 (List.mem_of_getElem? (i := 208) rfl)) rfl
set_option maxRecDepth 20000 in
theorem tw_449 : (Jvm.Cond.methodLinkNest "NinthStep" (154 : Nat) ({ cls := "NinthStep$Ground", name := "forbids", desc := "(II)Z" } : Jvm.MethodName) "NinthStep") ∈ ns_NB := ns_nb (mt_2 (List.mem_of_getElem? (i := 209) (by decide +kernel))) rfl
set_option maxRecDepth 20000 in
theorem tw_451 : (Jvm.Cond.instanceMethod ({ cls := "NinthStep$Ground", name := "forbids", desc := "(II)Z" } : Jvm.MethodName)) ∈ ns_TB := ns_tb (mt_2 (List.mem_of_getElem? (i := 211) (by decide +kernel))) rfl
set_option maxRecDepth 20000 in
theorem tw_452 : (Jvm.Cond.code ({ cls := "NinthStep$Ground", name := "forbids", desc := "(II)Z" } : Jvm.MethodName) prog_3_method_5_code (3 : Nat) (Option.some Jvm.ClassFile.FieldType.boolean)) ∈ ns_TB := ns_tb (mt_2 (List.mem_of_getElem? (i := 212) rfl)) rfl
set_option maxRecDepth 20000 in
theorem tw_453 : (Jvm.Cond.methodLinkNest "NinthStep$Ground" (37 : Nat) ({ cls := "NinthStep", name := "isIn", desc := "(JI)Z" } : Jvm.MethodName) "NinthStep") ∈ ns_NB := ns_nb (mt_2 (List.mem_of_getElem? (i := 213) (by decide +kernel))) rfl
set_option maxRecDepth 20000 in
theorem tw_454 : (Jvm.Cond.static ({ cls := "NinthStep", name := "isIn", desc := "(JI)Z" } : Jvm.MethodName)) ∈ ns_TB := ns_tb (mt_2 (List.mem_of_getElem? (i := 214) (by decide +kernel))) rfl
set_option maxRecDepth 20000 in
theorem tw_455 : (Jvm.Cond.code ({ cls := "NinthStep", name := "isIn", desc := "(JI)Z" } : Jvm.MethodName) prog_1_method_70_code (3 : Nat) (Option.some Jvm.ClassFile.FieldType.boolean)) ∈ ns_TB := ns_tb (mt_2 (List.mem_of_getElem? (i := 215) rfl)) rfl
set_option maxRecDepth 20000 in
theorem tw_456 : (Jvm.Cond.methodLinkNest "NinthStep" (157 : Nat) ({ cls := "NinthStep$Ground", name := "allOf", desc := "(I)J" } : Jvm.MethodName) "NinthStep") ∈ ns_NB := ns_nb (mt_2 (List.mem_of_getElem? (i := 216) (by decide +kernel))) rfl
set_option maxRecDepth 20000 in
theorem tw_458 : (Jvm.Cond.instanceMethod ({ cls := "NinthStep$Ground", name := "allOf", desc := "(I)J" } : Jvm.MethodName)) ∈ ns_TB := ns_tb (mt_2 (List.mem_of_getElem? (i := 218) (by decide +kernel))) rfl
set_option maxRecDepth 20000 in
theorem tw_459 : (Jvm.Cond.code ({ cls := "NinthStep$Ground", name := "allOf", desc := "(I)J" } : Jvm.MethodName) prog_3_method_3_code (2 : Nat) (Option.some Jvm.ClassFile.FieldType.long)) ∈ ns_TB := ns_tb (mt_2 (List.mem_of_getElem? (i := 219) rfl)) rfl
set_option maxRecDepth 20000 in
theorem tw_460 : (Jvm.Cond.methodLink "NinthStep" (160 : Nat) ({ cls := "NinthStep", name := "isIn", desc := "(JI)Z" } : Jvm.MethodName)) ∈ ns_TB := ns_tb (mt_2 (List.mem_of_getElem? (i := 220) (by decide +kernel))) rfl
set_option maxRecDepth 20000 in
theorem tw_461 : (Jvm.Cond.methodLinkNest "NinthStep" (164 : Nat) ({ cls := "NinthStep$Ground", name := "mark", desc := "(IIZ)V" } : Jvm.MethodName) "NinthStep") ∈ ns_NB := ns_nb (mt_2 (List.mem_of_getElem? (i := 221) (by decide +kernel))) rfl
set_option maxRecDepth 20000 in
theorem tw_463 : (Jvm.Cond.instanceMethod ({ cls := "NinthStep$Ground", name := "mark", desc := "(IIZ)V" } : Jvm.MethodName)) ∈ ns_TB := ns_tb (mt_2 (List.mem_of_getElem? (i := 223) (by decide +kernel))) rfl
set_option maxRecDepth 20000 in
theorem tw_464 : (Jvm.Cond.code ({ cls := "NinthStep$Ground", name := "mark", desc := "(IIZ)V" } : Jvm.MethodName) prog_3_method_4_code (6 : Nat) (Option.none : Option Jvm.ClassFile.FieldType)) ∈ ns_TB := ns_tb (mt_2 (List.mem_of_getElem? (i := 224) rfl)) rfl
set_option maxRecDepth 20000 in
theorem tw_465 : (Jvm.Cond.methodLink "NinthStep$Ground" (28 : Nat) ({ cls := "NinthStep$Ground", name := "allOf", desc := "(I)J" } : Jvm.MethodName)) ∈ ns_TB := ns_tb (mt_2 (List.mem_of_getElem? (i := 225) (by decide +kernel))) rfl
set_option maxRecDepth 20000 in
theorem tw_466 : (Jvm.Cond.methodLinkNest "NinthStep$Ground" (32 : Nat) ({ cls := "NinthStep", name := "bit", desc := "(I)J" } : Jvm.MethodName) "NinthStep") ∈ ns_NB := ns_nb (mt_2 (List.mem_of_getElem? (i := 226) (by decide +kernel))) rfl
set_option maxRecDepth 20000 in
theorem tw_467 : (Jvm.Cond.static ({ cls := "NinthStep", name := "bit", desc := "(I)J" } : Jvm.MethodName)) ∈ ns_TB := ns_tb (mt_2 (List.mem_of_getElem? (i := 227) (by decide +kernel))) rfl
set_option maxRecDepth 20000 in
theorem tw_468 : (Jvm.Cond.code ({ cls := "NinthStep", name := "bit", desc := "(I)J" } : Jvm.MethodName) prog_1_method_72_code (1 : Nat) (Option.some Jvm.ClassFile.FieldType.long)) ∈ ns_TB := ns_tb (mt_2 (List.mem_of_getElem? (i := 228) rfl)) rfl
set_option maxRecDepth 20000 in
theorem tw_469 : (Jvm.Cond.constantLong "NinthStep$Ground" (35 : Nat) (-1 : Int64)) ∈ ns_TB := ns_tb (mt_2 (List.mem_of_getElem? (i := 229) (by decide +kernel))) rfl
set_option maxRecDepth 20000 in
theorem tw_474 : (Jvm.Cond.methodLinkNest "NinthStep" (168 : Nat) ({ cls := "NinthStep$World", name := "newMule", desc := "()LNinthStep$Mule;" } : Jvm.MethodName) "NinthStep") ∈ ns_NB := ns_nb (mt_2 (List.mem_of_getElem? (i := 234) (by decide +kernel))) rfl
set_option maxRecDepth 20000 in
theorem tw_476 : (Jvm.Cond.instanceMethod ({ cls := "NinthStep$World", name := "newMule", desc := "()LNinthStep$Mule;" } : Jvm.MethodName)) ∈ ns_TB := ns_tb (mt_2 (List.mem_of_getElem? (i := 236) (by decide +kernel))) rfl
set_option maxRecDepth 20000 in
theorem tw_477 : (Jvm.Cond.code ({ cls := "NinthStep$World", name := "newMule", desc := "()LNinthStep$Mule;" } : Jvm.MethodName) prog_9_method_4_code (1 : Nat) (Option.some (Jvm.ClassFile.FieldType.object "NinthStep$Mule"))) ∈ ns_TB := ns_tb (mt_2 (List.mem_of_getElem? (i := 237) rfl)) rfl
set_option maxRecDepth 20000 in
theorem tw_478 : (Jvm.Cond.methodLinkNest "NinthStep" (172 : Nat) ({ cls := "NinthStep$Mule", name := "become", desc := "(III)V" } : Jvm.MethodName) "NinthStep") ∈ ns_NB := ns_nb (mt_2 (List.mem_of_getElem? (i := 238) (by decide +kernel))) rfl
set_option maxRecDepth 20000 in
theorem tw_480 : (Jvm.Cond.instanceMethod ({ cls := "NinthStep$Mule", name := "become", desc := "(III)V" } : Jvm.MethodName)) ∈ ns_TB := ns_tb (mt_3 (List.mem_of_getElem? (i := 0) (by decide +kernel))) rfl
set_option maxRecDepth 20000 in
theorem tw_481 : (Jvm.Cond.code ({ cls := "NinthStep$Mule", name := "become", desc := "(III)V" } : Jvm.MethodName) prog_4_method_2_code (4 : Nat) (Option.none : Option Jvm.ClassFile.FieldType)) ∈ ns_TB := ns_tb (mt_3 (List.mem_of_getElem? (i := 1) rfl)) rfl
set_option maxRecDepth 20000 in
theorem tw_482 : (Jvm.Cond.methodLinkNest "NinthStep$Mule" (30 : Nat) ({ cls := "NinthStep", name := "isUnder", desc := "(II)Z" } : Jvm.MethodName) "NinthStep") ∈ ns_NB := ns_nb (mt_3 (List.mem_of_getElem? (i := 2) (by decide +kernel))) rfl
set_option maxRecDepth 20000 in
theorem tw_499 : (Jvm.Cond.methodLinkNest "NinthStep" (188 : Nat) ({ cls := "NinthStep$Tape", name := "append", desc := "(I)Z" } : Jvm.MethodName) "NinthStep") ∈ ns_NB := ns_nb (mt_3 (List.mem_of_getElem? (i := 19) (by decide +kernel))) rfl
set_option maxRecDepth 20000 in
theorem tw_501 : (Jvm.Cond.instanceMethod ({ cls := "NinthStep$Tape", name := "append", desc := "(I)Z" } : Jvm.MethodName)) ∈ ns_TB := ns_tb (mt_3 (List.mem_of_getElem? (i := 21) (by decide +kernel))) rfl
set_option maxRecDepth 20000 in
theorem tw_502 : (Jvm.Cond.code ({ cls := "NinthStep$Tape", name := "append", desc := "(I)Z" } : Jvm.MethodName) prog_7_method_2_code (2 : Nat) (Option.some Jvm.ClassFile.FieldType.boolean)) ∈ ns_TB := ns_tb (mt_3 (List.mem_of_getElem? (i := 22) rfl)) rfl
set_option maxRecDepth 20000 in
theorem tw_511 : (Jvm.Cond.methodLinkNest "NinthStep" (192 : Nat) ({ cls := "NinthStep$World", name := "takeFrom", desc := "(LNinthStep$World;)V" } : Jvm.MethodName) "NinthStep") ∈ ns_NB := ns_nb (mt_3 (List.mem_of_getElem? (i := 31) (by decide +kernel))) rfl
set_option maxRecDepth 20000 in
theorem tw_513 : (Jvm.Cond.instanceMethod ({ cls := "NinthStep$World", name := "takeFrom", desc := "(LNinthStep$World;)V" } : Jvm.MethodName)) ∈ ns_TB := ns_tb (mt_3 (List.mem_of_getElem? (i := 33) (by decide +kernel))) rfl
set_option maxRecDepth 20000 in
theorem tw_514 : (Jvm.Cond.code ({ cls := "NinthStep$World", name := "takeFrom", desc := "(LNinthStep$World;)V" } : Jvm.MethodName) prog_9_method_2_code (3 : Nat) (Option.none : Option Jvm.ClassFile.FieldType)) ∈ ns_TB := ns_tb (mt_3 (List.mem_of_getElem? (i := 34) rfl)) rfl
set_option maxRecDepth 20000 in
theorem tw_515 : (Jvm.Cond.methodLinkNest "NinthStep$World" (29 : Nat) ({ cls := "NinthStep$Ground", name := "takeFrom", desc := "(LNinthStep$Ground;)V" } : Jvm.MethodName) "NinthStep") ∈ ns_NB := ns_nb (mt_3 (List.mem_of_getElem? (i := 35) (by decide +kernel))) rfl
set_option maxRecDepth 20000 in
theorem tw_517 : (Jvm.Cond.instanceMethod ({ cls := "NinthStep$Ground", name := "takeFrom", desc := "(LNinthStep$Ground;)V" } : Jvm.MethodName)) ∈ ns_TB := ns_tb (mt_3 (List.mem_of_getElem? (i := 37) (by decide +kernel))) rfl
set_option maxRecDepth 20000 in
theorem tw_518 : (Jvm.Cond.code ({ cls := "NinthStep$Ground", name := "takeFrom", desc := "(LNinthStep$Ground;)V" } : Jvm.MethodName) prog_3_method_2_code (2 : Nat) (Option.none : Option Jvm.ClassFile.FieldType)) ∈ ns_TB := ns_tb (mt_3 (List.mem_of_getElem? (i := 38) rfl)) rfl
set_option maxRecDepth 20000 in
theorem tw_519 : (Jvm.Cond.methodLinkNest "NinthStep$World" (33 : Nat) ({ cls := "NinthStep$Mule", name := "takeFrom", desc := "(LNinthStep$Mule;)V" } : Jvm.MethodName) "NinthStep") ∈ ns_NB := ns_nb (mt_3 (List.mem_of_getElem? (i := 39) (by decide +kernel))) rfl
set_option maxRecDepth 20000 in
theorem tw_521 : (Jvm.Cond.instanceMethod ({ cls := "NinthStep$Mule", name := "takeFrom", desc := "(LNinthStep$Mule;)V" } : Jvm.MethodName)) ∈ ns_TB := ns_tb (mt_3 (List.mem_of_getElem? (i := 41) (by decide +kernel))) rfl
set_option maxRecDepth 20000 in
theorem tw_522 : (Jvm.Cond.code ({ cls := "NinthStep$Mule", name := "takeFrom", desc := "(LNinthStep$Mule;)V" } : Jvm.MethodName) prog_4_method_3_code (2 : Nat) (Option.none : Option Jvm.ClassFile.FieldType)) ∈ ns_TB := ns_tb (mt_3 (List.mem_of_getElem? (i := 42) rfl)) rfl
set_option maxRecDepth 20000 in
theorem tw_523 : (Jvm.Cond.methodLinkNest "NinthStep" (196 : Nat) ({ cls := "NinthStep$Tape", name := "readInto", desc := "(LNinthStep$World;)I" } : Jvm.MethodName) "NinthStep") ∈ ns_NB := ns_nb (mt_3 (List.mem_of_getElem? (i := 43) (by decide +kernel))) rfl
set_option maxRecDepth 20000 in
theorem tw_525 : (Jvm.Cond.instanceMethod ({ cls := "NinthStep$Tape", name := "readInto", desc := "(LNinthStep$World;)I" } : Jvm.MethodName)) ∈ ns_TB := ns_tb (mt_3 (List.mem_of_getElem? (i := 45) (by decide +kernel))) rfl
set_option maxRecDepth 20000 in
theorem tw_526 : (Jvm.Cond.code ({ cls := "NinthStep$Tape", name := "readInto", desc := "(LNinthStep$World;)I" } : Jvm.MethodName) prog_7_method_3_code (3 : Nat) (Option.some Jvm.ClassFile.FieldType.int)) ∈ ns_TB := ns_tb (mt_3 (List.mem_of_getElem? (i := 46) rfl)) rfl
set_option maxRecDepth 20000 in
theorem tw_527 : (Jvm.Cond.methodLink "NinthStep$Tape" (25 : Nat) ({ cls := "NinthStep$Tape", name := "nextToken", desc := "()V" } : Jvm.MethodName)) ∈ ns_TB := ns_tb (mt_3 (List.mem_of_getElem? (i := 47) (by decide +kernel))) rfl
set_option maxRecDepth 20000 in
theorem tw_529 : (Jvm.Cond.instanceMethod ({ cls := "NinthStep$Tape", name := "nextToken", desc := "()V" } : Jvm.MethodName)) ∈ ns_TB := ns_tb (mt_3 (List.mem_of_getElem? (i := 49) (by decide +kernel))) rfl
set_option maxRecDepth 20000 in
theorem tw_530 : (Jvm.Cond.code ({ cls := "NinthStep$Tape", name := "nextToken", desc := "()V" } : Jvm.MethodName) prog_7_method_11_code (1 : Nat) (Option.none : Option Jvm.ClassFile.FieldType)) ∈ ns_TB := ns_tb (mt_3 (List.mem_of_getElem? (i := 50) rfl)) rfl
set_option maxRecDepth 20000 in
theorem tw_531 : (Jvm.Cond.methodLink "NinthStep$Tape" (132 : Nat) ({ cls := "NinthStep$Tape", name := "sortOf", desc := "(I)I" } : Jvm.MethodName)) ∈ ns_TB := ns_tb (mt_3 (List.mem_of_getElem? (i := 51) (by decide +kernel))) rfl
set_option maxRecDepth 20000 in
theorem tw_532 : (Jvm.Cond.static ({ cls := "NinthStep$Tape", name := "sortOf", desc := "(I)I" } : Jvm.MethodName)) ∈ ns_TB := ns_tb (mt_3 (List.mem_of_getElem? (i := 52) (by decide +kernel))) rfl
set_option maxRecDepth 20000 in
theorem tw_533 : (Jvm.Cond.code ({ cls := "NinthStep$Tape", name := "sortOf", desc := "(I)I" } : Jvm.MethodName) prog_7_method_12_code (1 : Nat) (Option.some Jvm.ClassFile.FieldType.int)) ∈ ns_TB := ns_tb (mt_3 (List.mem_of_getElem? (i := 53) rfl)) rfl
set_option maxRecDepth 20000 in
theorem tw_534 : (Jvm.Cond.methodLink "NinthStep$Tape" (28 : Nat) ({ cls := "NinthStep$Tape", name := "readStatement", desc := "(LNinthStep$World;)V" } : Jvm.MethodName)) ∈ ns_TB := ns_tb (mt_3 (List.mem_of_getElem? (i := 54) (by decide +kernel))) rfl
set_option maxRecDepth 20000 in
theorem tw_536 : (Jvm.Cond.instanceMethod ({ cls := "NinthStep$Tape", name := "readStatement", desc := "(LNinthStep$World;)V" } : Jvm.MethodName)) ∈ ns_TB := ns_tb (mt_3 (List.mem_of_getElem? (i := 56) (by decide +kernel))) rfl
set_option maxRecDepth 20000 in
theorem tw_537 : (Jvm.Cond.code ({ cls := "NinthStep$Tape", name := "readStatement", desc := "(LNinthStep$World;)V" } : Jvm.MethodName) prog_7_method_4_code (2 : Nat) (Option.none : Option Jvm.ClassFile.FieldType)) ∈ ns_TB := ns_tb (mt_3 (List.mem_of_getElem? (i := 57) rfl)) rfl
set_option maxRecDepth 20000 in
theorem tw_539 : (Jvm.Cond.methodLink "NinthStep$Tape" (40 : Nat) ({ cls := "NinthStep$Tape", name := "isWord", desc := "(Ljava/lang/String;)Z" } : Jvm.MethodName)) ∈ ns_TB := ns_tb (mt_3 (List.mem_of_getElem? (i := 59) (by decide +kernel))) rfl
set_option maxRecDepth 20000 in
theorem tw_541 : (Jvm.Cond.instanceMethod ({ cls := "NinthStep$Tape", name := "isWord", desc := "(Ljava/lang/String;)Z" } : Jvm.MethodName)) ∈ ns_TB := ns_tb (mt_3 (List.mem_of_getElem? (i := 61) (by decide +kernel))) rfl
set_option maxRecDepth 20000 in
theorem tw_542 : (Jvm.Cond.code ({ cls := "NinthStep$Tape", name := "isWord", desc := "(Ljava/lang/String;)Z" } : Jvm.MethodName) prog_7_method_10_code (3 : Nat) (Option.some Jvm.ClassFile.FieldType.boolean)) ∈ ns_TB := ns_tb (mt_3 (List.mem_of_getElem? (i := 62) rfl)) rfl
set_option maxRecDepth 20000 in
theorem tw_543 : (Jvm.Cond.methodLink "NinthStep$Tape" (124 : Nat) ({ cls := "java/lang/String", name := "length", desc := "()I" } : Jvm.MethodName)) ∈ ns_TB := ns_tb (mt_3 (List.mem_of_getElem? (i := 63) (by decide +kernel))) rfl
set_option maxRecDepth 20000 in
theorem tw_544 : (Jvm.Cond.instanceMethod ({ cls := "java/lang/String", name := "length", desc := "()I" } : Jvm.MethodName)) ∈ ns_TB := ns_tb (mt_3 (List.mem_of_getElem? (i := 64) (by decide +kernel))) rfl
set_option maxRecDepth 20000 in
theorem tw_545 : (Jvm.Cond.selects "java/lang/String" ({ cls := "java/lang/String", name := "length", desc := "()I" } : Jvm.MethodName) ({ cls := "java/lang/String", name := "length", desc := "()I" } : Jvm.MethodName)) ∈ ns_TB := ns_tb (mt_3 (List.mem_of_getElem? (i := 65) (by decide +kernel))) rfl
set_option maxRecDepth 20000 in
theorem tw_546 : (Jvm.Cond.code ({ cls := "java/lang/String", name := "length", desc := "()I" } : Jvm.MethodName) prog_15_method_54_code (1 : Nat) (Option.some Jvm.ClassFile.FieldType.int)) ∈ ns_TB := ns_tb (mt_3 (List.mem_of_getElem? (i := 66) rfl)) rfl
set_option maxRecDepth 20000 in
theorem tw_547 : (Jvm.Cond.methodLink "java/lang/String" (335 : Nat) ({ cls := "java/lang/String", name := "coder", desc := "()B" } : Jvm.MethodName)) ∈ ns_TB := ns_tb (mt_3 (List.mem_of_getElem? (i := 67) (by decide +kernel))) rfl
set_option maxRecDepth 20000 in
theorem tw_548 : (Jvm.Cond.instanceMethod ({ cls := "java/lang/String", name := "coder", desc := "()B" } : Jvm.MethodName)) ∈ ns_TB := ns_tb (mt_3 (List.mem_of_getElem? (i := 68) (by decide +kernel))) rfl
set_option maxRecDepth 20000 in
theorem tw_549 : (Jvm.Cond.selects "java/lang/String" ({ cls := "java/lang/String", name := "coder", desc := "()B" } : Jvm.MethodName) ({ cls := "java/lang/String", name := "coder", desc := "()B" } : Jvm.MethodName)) ∈ ns_TB := ns_tb (mt_3 (List.mem_of_getElem? (i := 69) (by decide +kernel))) rfl
set_option maxRecDepth 20000 in
theorem tw_550 : (Jvm.Cond.code ({ cls := "java/lang/String", name := "coder", desc := "()B" } : Jvm.MethodName) prog_15_method_152_code (1 : Nat) (Option.some Jvm.ClassFile.FieldType.byte)) ∈ ns_TB := ns_tb (mt_3 (List.mem_of_getElem? (i := 70) rfl)) rfl
set_option maxRecDepth 20000 in
theorem tw_551 : (Jvm.Cond.fieldLink "java/lang/String" (38 : Nat) "java/lang/String" "COMPACT_STRINGS" "Z") ∈ ns_TB := ns_tb (mt_3 (List.mem_of_getElem? (i := 71) (by decide +kernel))) rfl
set_option maxRecDepth 20000 in
theorem tw_553 : (Jvm.Cond.methodLink "NinthStep$Tape" (128 : Nat) ({ cls := "java/lang/String", name := "charAt", desc := "(I)C" } : Jvm.MethodName)) ∈ ns_TB := ns_tb (mt_3 (List.mem_of_getElem? (i := 73) (by decide +kernel))) rfl
set_option maxRecDepth 20000 in
theorem tw_554 : (Jvm.Cond.instanceMethod ({ cls := "java/lang/String", name := "charAt", desc := "(I)C" } : Jvm.MethodName)) ∈ ns_TB := ns_tb (mt_3 (List.mem_of_getElem? (i := 74) (by decide +kernel))) rfl
set_option maxRecDepth 20000 in
theorem tw_555 : (Jvm.Cond.selects "java/lang/String" ({ cls := "java/lang/String", name := "charAt", desc := "(I)C" } : Jvm.MethodName) ({ cls := "java/lang/String", name := "charAt", desc := "(I)C" } : Jvm.MethodName)) ∈ ns_TB := ns_tb (mt_3 (List.mem_of_getElem? (i := 75) (by decide +kernel))) rfl
set_option maxRecDepth 20000 in
theorem tw_556 : (Jvm.Cond.code ({ cls := "java/lang/String", name := "charAt", desc := "(I)C" } : Jvm.MethodName) prog_15_method_56_code (2 : Nat) (Option.some Jvm.ClassFile.FieldType.char)) ∈ ns_TB := ns_tb (mt_3 (List.mem_of_getElem? (i := 76) rfl)) rfl
set_option maxRecDepth 20000 in
theorem tw_557 : (Jvm.Cond.methodLink "java/lang/String" (492 : Nat) ({ cls := "java/lang/String", name := "isLatin1", desc := "()Z" } : Jvm.MethodName)) ∈ ns_TB := ns_tb (mt_3 (List.mem_of_getElem? (i := 77) (by decide +kernel))) rfl
set_option maxRecDepth 20000 in
theorem tw_558 : (Jvm.Cond.instanceMethod ({ cls := "java/lang/String", name := "isLatin1", desc := "()Z" } : Jvm.MethodName)) ∈ ns_TB := ns_tb (mt_3 (List.mem_of_getElem? (i := 78) (by decide +kernel))) rfl
set_option maxRecDepth 20000 in
theorem tw_559 : (Jvm.Cond.selects "java/lang/String" ({ cls := "java/lang/String", name := "isLatin1", desc := "()Z" } : Jvm.MethodName) ({ cls := "java/lang/String", name := "isLatin1", desc := "()Z" } : Jvm.MethodName)) ∈ ns_TB := ns_tb (mt_3 (List.mem_of_getElem? (i := 79) (by decide +kernel))) rfl
set_option maxRecDepth 20000 in
theorem tw_560 : (Jvm.Cond.code ({ cls := "java/lang/String", name := "isLatin1", desc := "()Z" } : Jvm.MethodName) prog_15_method_154_code (1 : Nat) (Option.some Jvm.ClassFile.FieldType.boolean)) ∈ ns_TB := ns_tb (mt_3 (List.mem_of_getElem? (i := 80) rfl)) rfl
set_option maxRecDepth 20000 in
theorem tw_561 : (Jvm.Cond.methodLink "java/lang/String" (495 : Nat) ({ cls := "java/lang/StringLatin1", name := "charAt", desc := "([BI)C" } : Jvm.MethodName)) ∈ ns_TB := ns_tb (mt_3 (List.mem_of_getElem? (i := 81) (by decide +kernel))) rfl
set_option maxRecDepth 20000 in
theorem tw_562 : (Jvm.Cond.static ({ cls := "java/lang/StringLatin1", name := "charAt", desc := "([BI)C" } : Jvm.MethodName)) ∈ ns_TB := ns_tb (mt_3 (List.mem_of_getElem? (i := 82) (by decide +kernel))) rfl
set_option maxRecDepth 20000 in
theorem tw_563 : (Jvm.Cond.code ({ cls := "java/lang/StringLatin1", name := "charAt", desc := "([BI)C" } : Jvm.MethodName) prog_16_method_2_code (2 : Nat) (Option.some Jvm.ClassFile.FieldType.char)) ∈ ns_TB := ns_tb (mt_3 (List.mem_of_getElem? (i := 83) rfl)) rfl
set_option maxRecDepth 20000 in
theorem tw_564 : (Jvm.Cond.methodLink "java/lang/StringLatin1" (9 : Nat) ({ cls := "java/lang/String", name := "checkIndex", desc := "(II)V" } : Jvm.MethodName)) ∈ ns_TB := ns_tb (mt_3 (List.mem_of_getElem? (i := 84) (by decide +kernel))) rfl
set_option maxRecDepth 20000 in
theorem tw_565 : (Jvm.Cond.static ({ cls := "java/lang/String", name := "checkIndex", desc := "(II)V" } : Jvm.MethodName)) ∈ ns_TB := ns_tb (mt_3 (List.mem_of_getElem? (i := 85) (by decide +kernel))) rfl
set_option maxRecDepth 20000 in
theorem tw_566 : (Jvm.Cond.code ({ cls := "java/lang/String", name := "checkIndex", desc := "(II)V" } : Jvm.MethodName) prog_15_method_155_code (2 : Nat) (Option.none : Option Jvm.ClassFile.FieldType)) ∈ ns_TB := ns_tb (mt_3 (List.mem_of_getElem? (i := 86) rfl)) rfl
set_option maxRecDepth 20000 in
theorem tw_567 : (Jvm.Cond.fieldLink "java/lang/String" (1053 : Nat) "jdk/internal/util/Preconditions" "SIOOBE_FORMATTER" "Ljava/util/function/BiFunction;") ∈ ns_TB := ns_tb (mt_3 (List.mem_of_getElem? (i := 87) (by decide +kernel))) rfl
set_option maxRecDepth 20000 in
theorem tw_569 : (Jvm.Cond.methodLink "java/lang/String" (1059 : Nat) ({ cls := "jdk/internal/util/Preconditions", name := "checkIndex", desc := "(IILjava/util/function/BiFunction;)I" } : Jvm.MethodName)) ∈ ns_TB := ns_tb (mt_3 (List.mem_of_getElem? (i := 89) (by decide +kernel))) rfl
set_option maxRecDepth 20000 in
theorem tw_570 : (Jvm.Cond.static ({ cls := "jdk/internal/util/Preconditions", name := "checkIndex", desc := "(IILjava/util/function/BiFunction;)I" } : Jvm.MethodName)) ∈ ns_TB := ns_tb (mt_3 (List.mem_of_getElem? (i := 90) (by decide +kernel))) rfl
set_option maxRecDepth 20000 in
theorem tw_571 : (Jvm.Cond.code ({ cls := "jdk/internal/util/Preconditions", name := "checkIndex", desc := "(IILjava/util/function/BiFunction;)I" } : Jvm.MethodName) prog_19_method_11_code (3 : Nat) (Option.some Jvm.ClassFile.FieldType.int)) ∈ ns_TB := ns_tb (mt_3 (List.mem_of_getElem? (i := 91) rfl)) rfl
set_option maxRecDepth 20000 in
theorem tw_591 : (Jvm.Cond.methodLink "NinthStep$Tape" (44 : Nat) ({ cls := "NinthStep$Tape", name := "readLength", desc := "(LNinthStep$World;)V" } : Jvm.MethodName)) ∈ ns_TB := ns_tb (mt_3 (List.mem_of_getElem? (i := 111) (by decide +kernel))) rfl
set_option maxRecDepth 20000 in
theorem tw_593 : (Jvm.Cond.instanceMethod ({ cls := "NinthStep$Tape", name := "readLength", desc := "(LNinthStep$World;)V" } : Jvm.MethodName)) ∈ ns_TB := ns_tb (mt_3 (List.mem_of_getElem? (i := 113) (by decide +kernel))) rfl
set_option maxRecDepth 20000 in
theorem tw_594 : (Jvm.Cond.code ({ cls := "NinthStep$Tape", name := "readLength", desc := "(LNinthStep$World;)V" } : Jvm.MethodName) prog_7_method_5_code (3 : Nat) (Option.none : Option Jvm.ClassFile.FieldType)) ∈ ns_TB := ns_tb (mt_3 (List.mem_of_getElem? (i := 114) rfl)) rfl
set_option maxRecDepth 20000 in
theorem tw_595 : (Jvm.Cond.methodLinkNest "NinthStep$Tape" (73 : Nat) ({ cls := "NinthStep$Ground", name := "highest", desc := "()I" } : Jvm.MethodName) "NinthStep") ∈ ns_NB := ns_nb (mt_3 (List.mem_of_getElem? (i := 115) (by decide +kernel))) rfl
set_option maxRecDepth 20000 in
theorem tw_596 : (Jvm.Cond.methodLink "NinthStep$Tape" (79 : Nat) ({ cls := "java/lang/Math", name := "max", desc := "(II)I" } : Jvm.MethodName)) ∈ ns_TB := ns_tb (mt_3 (List.mem_of_getElem? (i := 116) (by decide +kernel))) rfl
set_option maxRecDepth 20000 in
theorem tw_597 : (Jvm.Cond.static ({ cls := "java/lang/Math", name := "max", desc := "(II)I" } : Jvm.MethodName)) ∈ ns_TB := ns_tb (mt_3 (List.mem_of_getElem? (i := 117) (by decide +kernel))) rfl
set_option maxRecDepth 20000 in
theorem tw_598 : (Jvm.Cond.code ({ cls := "java/lang/Math", name := "max", desc := "(II)I" } : Jvm.MethodName) prog_14_method_65_code (2 : Nat) (Option.some Jvm.ClassFile.FieldType.int)) ∈ ns_TB := ns_tb (mt_3 (List.mem_of_getElem? (i := 118) rfl)) rfl
set_option maxRecDepth 20000 in
theorem tw_599 : (Jvm.Cond.methodLink "NinthStep$Tape" (85 : Nat) ({ cls := "NinthStep$Tape", name := "takeNumber", desc := "(II)I" } : Jvm.MethodName)) ∈ ns_TB := ns_tb (mt_3 (List.mem_of_getElem? (i := 119) (by decide +kernel))) rfl
set_option maxRecDepth 20000 in
theorem tw_601 : (Jvm.Cond.instanceMethod ({ cls := "NinthStep$Tape", name := "takeNumber", desc := "(II)I" } : Jvm.MethodName)) ∈ ns_TB := ns_tb (mt_3 (List.mem_of_getElem? (i := 121) (by decide +kernel))) rfl
set_option maxRecDepth 20000 in
theorem tw_602 : (Jvm.Cond.code ({ cls := "NinthStep$Tape", name := "takeNumber", desc := "(II)I" } : Jvm.MethodName) prog_7_method_8_code (4 : Nat) (Option.some Jvm.ClassFile.FieldType.int)) ∈ ns_TB := ns_tb (mt_3 (List.mem_of_getElem? (i := 122) rfl)) rfl
set_option maxRecDepth 20000 in
theorem tw_603 : (Jvm.Cond.methodLink "NinthStep$Tape" (117 : Nat) ({ cls := "NinthStep$Tape", name := "numberRead", desc := "()I" } : Jvm.MethodName)) ∈ ns_TB := ns_tb (mt_3 (List.mem_of_getElem? (i := 123) (by decide +kernel))) rfl
set_option maxRecDepth 20000 in
theorem tw_605 : (Jvm.Cond.instanceMethod ({ cls := "NinthStep$Tape", name := "numberRead", desc := "()I" } : Jvm.MethodName)) ∈ ns_TB := ns_tb (mt_3 (List.mem_of_getElem? (i := 125) (by decide +kernel))) rfl
set_option maxRecDepth 20000 in
theorem tw_606 : (Jvm.Cond.code ({ cls := "NinthStep$Tape", name := "numberRead", desc := "()I" } : Jvm.MethodName) prog_7_method_9_code (3 : Nat) (Option.some Jvm.ClassFile.FieldType.int)) ∈ ns_TB := ns_tb (mt_3 (List.mem_of_getElem? (i := 126) rfl)) rfl
set_option maxRecDepth 20000 in
theorem tw_607 : (Jvm.Cond.methodLinkNest "NinthStep$Tape" (120 : Nat) ({ cls := "NinthStep", name := "isWithin", desc := "(III)Z" } : Jvm.MethodName) "NinthStep") ∈ ns_NB := ns_nb (mt_3 (List.mem_of_getElem? (i := 127) (by decide +kernel))) rfl
set_option maxRecDepth 20000 in
theorem tw_609 : (Jvm.Cond.methodLink "NinthStep$Tape" (55 : Nat) ({ cls := "NinthStep$Tape", name := "readMark", desc := "(LNinthStep$Ground;I)V" } : Jvm.MethodName)) ∈ ns_TB := ns_tb (mt_3 (List.mem_of_getElem? (i := 129) (by decide +kernel))) rfl
set_option maxRecDepth 20000 in
theorem tw_611 : (Jvm.Cond.instanceMethod ({ cls := "NinthStep$Tape", name := "readMark", desc := "(LNinthStep$Ground;I)V" } : Jvm.MethodName)) ∈ ns_TB := ns_tb (mt_3 (List.mem_of_getElem? (i := 131) (by decide +kernel))) rfl
set_option maxRecDepth 20000 in
theorem tw_612 : (Jvm.Cond.code ({ cls := "NinthStep$Tape", name := "readMark", desc := "(LNinthStep$Ground;I)V" } : Jvm.MethodName) prog_7_method_6_code (5 : Nat) (Option.none : Option Jvm.ClassFile.FieldType)) ∈ ns_TB := ns_tb (mt_3 (List.mem_of_getElem? (i := 132) rfl)) rfl
set_option maxRecDepth 20000 in
theorem tw_613 : (Jvm.Cond.methodLinkNest "NinthStep$Tape" (91 : Nat) ({ cls := "NinthStep$Ground", name := "forbids", desc := "(II)Z" } : Jvm.MethodName) "NinthStep") ∈ ns_NB := ns_nb (mt_3 (List.mem_of_getElem? (i := 133) (by decide +kernel))) rfl
set_option maxRecDepth 20000 in
theorem tw_614 : (Jvm.Cond.methodLinkNest "NinthStep$Tape" (95 : Nat) ({ cls := "NinthStep$Ground", name := "mark", desc := "(IIZ)V" } : Jvm.MethodName) "NinthStep") ∈ ns_NB := ns_nb (mt_3 (List.mem_of_getElem? (i := 134) (by decide +kernel))) rfl
set_option maxRecDepth 20000 in
theorem tw_619 : (Jvm.Cond.methodLink "NinthStep$Tape" (67 : Nat) ({ cls := "NinthStep$Tape", name := "readMule", desc := "(LNinthStep$World;)V" } : Jvm.MethodName)) ∈ ns_TB := ns_tb (mt_3 (List.mem_of_getElem? (i := 139) (by decide +kernel))) rfl
set_option maxRecDepth 20000 in
theorem tw_621 : (Jvm.Cond.instanceMethod ({ cls := "NinthStep$Tape", name := "readMule", desc := "(LNinthStep$World;)V" } : Jvm.MethodName)) ∈ ns_TB := ns_tb (mt_3 (List.mem_of_getElem? (i := 141) (by decide +kernel))) rfl
set_option maxRecDepth 20000 in
theorem tw_622 : (Jvm.Cond.code ({ cls := "NinthStep$Tape", name := "readMule", desc := "(LNinthStep$World;)V" } : Jvm.MethodName) prog_7_method_7_code (6 : Nat) (Option.none : Option Jvm.ClassFile.FieldType)) ∈ ns_TB := ns_tb (mt_3 (List.mem_of_getElem? (i := 142) rfl)) rfl
set_option maxRecDepth 20000 in
theorem tw_623 : (Jvm.Cond.methodLinkNest "NinthStep$Tape" (99 : Nat) ({ cls := "NinthStep$World", name := "newMule", desc := "()LNinthStep$Mule;" } : Jvm.MethodName) "NinthStep") ∈ ns_NB := ns_nb (mt_3 (List.mem_of_getElem? (i := 143) (by decide +kernel))) rfl
set_option maxRecDepth 20000 in
theorem tw_624 : (Jvm.Cond.methodLinkNest "NinthStep$Tape" (103 : Nat) ({ cls := "NinthStep$Mule", name := "become", desc := "(III)V" } : Jvm.MethodName) "NinthStep") ∈ ns_NB := ns_nb (mt_3 (List.mem_of_getElem? (i := 144) (by decide +kernel))) rfl
set_option maxRecDepth 20000 in
theorem tw_640 : (Jvm.Cond.methodLink "NinthStep" (209 : Nat) ({ cls := "NinthStep", name := "stopsOf", desc := "(LNinthStep$Mule;)J" } : Jvm.MethodName)) ∈ ns_TB := ns_tb (mt_3 (List.mem_of_getElem? (i := 160) (by decide +kernel))) rfl
set_option maxRecDepth 20000 in
theorem tw_642 : (Jvm.Cond.instanceMethod ({ cls := "NinthStep", name := "stopsOf", desc := "(LNinthStep$Mule;)J" } : Jvm.MethodName)) ∈ ns_TB := ns_tb (mt_3 (List.mem_of_getElem? (i := 162) (by decide +kernel))) rfl
set_option maxRecDepth 20000 in
theorem tw_643 : (Jvm.Cond.code ({ cls := "NinthStep", name := "stopsOf", desc := "(LNinthStep$Mule;)J" } : Jvm.MethodName) prog_1_method_53_code (2 : Nat) (Option.some Jvm.ClassFile.FieldType.long)) ∈ ns_TB := ns_tb (mt_3 (List.mem_of_getElem? (i := 163) rfl)) rfl
set_option maxRecDepth 20000 in
theorem tw_644 : (Jvm.Cond.methodLink "NinthStep" (258 : Nat) ({ cls := "NinthStep", name := "stopsBy", desc := "(LNinthStep$Mule;III)J" } : Jvm.MethodName)) ∈ ns_TB := ns_tb (mt_3 (List.mem_of_getElem? (i := 164) (by decide +kernel))) rfl
set_option maxRecDepth 20000 in
theorem tw_646 : (Jvm.Cond.instanceMethod ({ cls := "NinthStep", name := "stopsBy", desc := "(LNinthStep$Mule;III)J" } : Jvm.MethodName)) ∈ ns_TB := ns_tb (mt_3 (List.mem_of_getElem? (i := 166) (by decide +kernel))) rfl
set_option maxRecDepth 20000 in
theorem tw_647 : (Jvm.Cond.code ({ cls := "NinthStep", name := "stopsBy", desc := "(LNinthStep$Mule;III)J" } : Jvm.MethodName) prog_1_method_54_code (8 : Nat) (Option.some Jvm.ClassFile.FieldType.long)) ∈ ns_TB := ns_tb (mt_3 (List.mem_of_getElem? (i := 167) rfl)) rfl
set_option maxRecDepth 20000 in
theorem tw_648 : (Jvm.Cond.methodLinkNest "NinthStep" (352 : Nat) ({ cls := "NinthStep$Mule", name := "takeFrom", desc := "(LNinthStep$Mule;)V" } : Jvm.MethodName) "NinthStep") ∈ ns_NB := ns_nb (mt_3 (List.mem_of_getElem? (i := 168) (by decide +kernel))) rfl
set_option maxRecDepth 20000 in
theorem tw_649 : (Jvm.Cond.methodLinkNest "NinthStep" (354 : Nat) ({ cls := "NinthStep$Mule", name := "standAt", desc := "(III)V" } : Jvm.MethodName) "NinthStep") ∈ ns_NB := ns_nb (mt_3 (List.mem_of_getElem? (i := 169) (by decide +kernel))) rfl
set_option maxRecDepth 20000 in
theorem tw_651 : (Jvm.Cond.instanceMethod ({ cls := "NinthStep$Mule", name := "standAt", desc := "(III)V" } : Jvm.MethodName)) ∈ ns_TB := ns_tb (mt_3 (List.mem_of_getElem? (i := 171) (by decide +kernel))) rfl
set_option maxRecDepth 20000 in
theorem tw_652 : (Jvm.Cond.code ({ cls := "NinthStep$Mule", name := "standAt", desc := "(III)V" } : Jvm.MethodName) prog_4_method_5_code (4 : Nat) (Option.none : Option Jvm.ClassFile.FieldType)) ∈ ns_TB := ns_tb (mt_3 (List.mem_of_getElem? (i := 172) rfl)) rfl
set_option maxRecDepth 20000 in
theorem tw_653 : (Jvm.Cond.methodLinkNest "NinthStep" (357 : Nat) ({ cls := "NinthStep$Mule", name := "makeStep", desc := "(LNinthStep$Ground;I)Z" } : Jvm.MethodName) "NinthStep") ∈ ns_NB := ns_nb (mt_3 (List.mem_of_getElem? (i := 173) (by decide +kernel))) rfl
set_option maxRecDepth 20000 in
theorem tw_655 : (Jvm.Cond.instanceMethod ({ cls := "NinthStep$Mule", name := "makeStep", desc := "(LNinthStep$Ground;I)Z" } : Jvm.MethodName)) ∈ ns_TB := ns_tb (mt_3 (List.mem_of_getElem? (i := 175) (by decide +kernel))) rfl
set_option maxRecDepth 20000 in
theorem tw_656 : (Jvm.Cond.code ({ cls := "NinthStep$Mule", name := "makeStep", desc := "(LNinthStep$Ground;I)Z" } : Jvm.MethodName) prog_4_method_6_code (5 : Nat) (Option.some Jvm.ClassFile.FieldType.boolean)) ∈ ns_TB := ns_tb (mt_3 (List.mem_of_getElem? (i := 176) rfl)) rfl
set_option maxRecDepth 20000 in
theorem tw_657 : (Jvm.Cond.methodLink "NinthStep$Mule" (55 : Nat) ({ cls := "NinthStep$Mule", name := "mayStop", desc := "(LNinthStep$Ground;)Z" } : Jvm.MethodName)) ∈ ns_TB := ns_tb (mt_3 (List.mem_of_getElem? (i := 177) (by decide +kernel))) rfl
set_option maxRecDepth 20000 in
theorem tw_659 : (Jvm.Cond.instanceMethod ({ cls := "NinthStep$Mule", name := "mayStop", desc := "(LNinthStep$Ground;)Z" } : Jvm.MethodName)) ∈ ns_TB := ns_tb (mt_3 (List.mem_of_getElem? (i := 179) (by decide +kernel))) rfl
set_option maxRecDepth 20000 in
theorem tw_660 : (Jvm.Cond.code ({ cls := "NinthStep$Mule", name := "mayStop", desc := "(LNinthStep$Ground;)Z" } : Jvm.MethodName) prog_4_method_8_code (2 : Nat) (Option.some Jvm.ClassFile.FieldType.boolean)) ∈ ns_TB := ns_tb (mt_3 (List.mem_of_getElem? (i := 180) rfl)) rfl
set_option maxRecDepth 20000 in
theorem tw_661 : (Jvm.Cond.methodLink "NinthStep$Mule" (40 : Nat) ({ cls := "java/lang/Math", name := "min", desc := "(II)I" } : Jvm.MethodName)) ∈ ns_TB := ns_tb (mt_3 (List.mem_of_getElem? (i := 181) (by decide +kernel))) rfl
set_option maxRecDepth 20000 in
theorem tw_662 : (Jvm.Cond.static ({ cls := "java/lang/Math", name := "min", desc := "(II)I" } : Jvm.MethodName)) ∈ ns_TB := ns_tb (mt_3 (List.mem_of_getElem? (i := 182) (by decide +kernel))) rfl
set_option maxRecDepth 20000 in
theorem tw_663 : (Jvm.Cond.code ({ cls := "java/lang/Math", name := "min", desc := "(II)I" } : Jvm.MethodName) prog_14_method_69_code (2 : Nat) (Option.some Jvm.ClassFile.FieldType.int)) ∈ ns_TB := ns_tb (mt_3 (List.mem_of_getElem? (i := 183) rfl)) rfl
set_option maxRecDepth 20000 in
theorem tw_664 : (Jvm.Cond.methodLink "NinthStep" (361 : Nat) ({ cls := "NinthStep", name := "bit", desc := "(I)J" } : Jvm.MethodName)) ∈ ns_TB := ns_tb (mt_3 (List.mem_of_getElem? (i := 184) (by decide +kernel))) rfl
set_option maxRecDepth 20000 in
theorem tw_669 : (Jvm.Cond.methodLink "NinthStep" (222 : Nat) ({ cls := "NinthStep", name := "minutesOf", desc := "(LNinthStep$Mule;)I" } : Jvm.MethodName)) ∈ ns_TB := ns_tb (mt_3 (List.mem_of_getElem? (i := 189) (by decide +kernel))) rfl
set_option maxRecDepth 20000 in
theorem tw_671 : (Jvm.Cond.instanceMethod ({ cls := "NinthStep", name := "minutesOf", desc := "(LNinthStep$Mule;)I" } : Jvm.MethodName)) ∈ ns_TB := ns_tb (mt_3 (List.mem_of_getElem? (i := 191) (by decide +kernel))) rfl
set_option maxRecDepth 20000 in
theorem tw_672 : (Jvm.Cond.code ({ cls := "NinthStep", name := "minutesOf", desc := "(LNinthStep$Mule;)I" } : Jvm.MethodName) prog_1_method_55_code (2 : Nat) (Option.some Jvm.ClassFile.FieldType.int)) ∈ ns_TB := ns_tb (mt_3 (List.mem_of_getElem? (i := 192) rfl)) rfl
set_option maxRecDepth 20000 in
theorem tw_677 : (Jvm.Cond.methodLinkNest "NinthStep" (226 : Nat) ({ cls := "NinthStep$Mule", name := "arrival", desc := "(IJ)I" } : Jvm.MethodName) "NinthStep") ∈ ns_NB := ns_nb (mt_3 (List.mem_of_getElem? (i := 197) (by decide +kernel))) rfl
set_option maxRecDepth 20000 in
theorem tw_679 : (Jvm.Cond.instanceMethod ({ cls := "NinthStep$Mule", name := "arrival", desc := "(IJ)I" } : Jvm.MethodName)) ∈ ns_TB := ns_tb (mt_3 (List.mem_of_getElem? (i := 199) (by decide +kernel))) rfl
set_option maxRecDepth 20000 in
theorem tw_680 : (Jvm.Cond.code ({ cls := "NinthStep$Mule", name := "arrival", desc := "(IJ)I" } : Jvm.MethodName) prog_4_method_9_code (4 : Nat) (Option.some Jvm.ClassFile.FieldType.int)) ∈ ns_TB := ns_tb (mt_3 (List.mem_of_getElem? (i := 200) rfl)) rfl
set_option maxRecDepth 20000 in
theorem tw_681 : (Jvm.Cond.methodLinkNest "NinthStep$Mule" (62 : Nat) ({ cls := "NinthStep", name := "bit", desc := "(I)J" } : Jvm.MethodName) "NinthStep") ∈ ns_NB := ns_nb (mt_3 (List.mem_of_getElem? (i := 201) (by decide +kernel))) rfl
set_option maxRecDepth 20000 in
theorem tw_682 : (Jvm.Cond.methodLink "NinthStep$Mule" (66 : Nat) ({ cls := "java/lang/Long", name := "bitCount", desc := "(J)I" } : Jvm.MethodName)) ∈ ns_TB := ns_tb (mt_3 (List.mem_of_getElem? (i := 202) (by decide +kernel))) rfl
set_option maxRecDepth 20000 in
theorem tw_687 : (Jvm.Cond.methodLink "NinthStep" (230 : Nat) ({ cls := "NinthStep", name := "isGood", desc := "(IJ)Z" } : Jvm.MethodName)) ∈ ns_TB := ns_tb (mt_3 (List.mem_of_getElem? (i := 207) (by decide +kernel))) rfl
set_option maxRecDepth 20000 in
theorem tw_689 : (Jvm.Cond.instanceMethod ({ cls := "NinthStep", name := "isGood", desc := "(IJ)Z" } : Jvm.MethodName)) ∈ ns_TB := ns_tb (mt_3 (List.mem_of_getElem? (i := 209) (by decide +kernel))) rfl
set_option maxRecDepth 20000 in
theorem tw_690 : (Jvm.Cond.code ({ cls := "NinthStep", name := "isGood", desc := "(IJ)Z" } : Jvm.MethodName) prog_1_method_57_code (4 : Nat) (Option.some Jvm.ClassFile.FieldType.boolean)) ∈ ns_TB := ns_tb (mt_3 (List.mem_of_getElem? (i := 210) rfl)) rfl
set_option maxRecDepth 20000 in
theorem tw_691 : (Jvm.Cond.methodLink "NinthStep" (241 : Nat) ({ cls := "NinthStep", name := "viewsMissed", desc := "(IJ)J" } : Jvm.MethodName)) ∈ ns_TB := ns_tb (mt_3 (List.mem_of_getElem? (i := 211) (by decide +kernel))) rfl
set_option maxRecDepth 20000 in
theorem tw_693 : (Jvm.Cond.instanceMethod ({ cls := "NinthStep", name := "viewsMissed", desc := "(IJ)J" } : Jvm.MethodName)) ∈ ns_TB := ns_tb (mt_3 (List.mem_of_getElem? (i := 213) (by decide +kernel))) rfl
set_option maxRecDepth 20000 in
theorem tw_694 : (Jvm.Cond.code ({ cls := "NinthStep", name := "viewsMissed", desc := "(IJ)J" } : Jvm.MethodName) prog_1_method_56_code (4 : Nat) (Option.some Jvm.ClassFile.FieldType.long)) ∈ ns_TB := ns_tb (mt_3 (List.mem_of_getElem? (i := 214) rfl)) rfl
set_option maxRecDepth 20000 in
theorem tw_695 : (Jvm.Cond.constantLong "NinthStep" (367 : Nat) (-1 : Int64)) ∈ ns_TB := ns_tb (mt_3 (List.mem_of_getElem? (i := 215) (by decide +kernel))) rfl
set_option maxRecDepth 20000 in
theorem tw_708 : (Jvm.Cond.methodLinkNest "NinthStep" (245 : Nat) ({ cls := "NinthStep$TurnPlan", name := "make", desc := "(LNinthStep$Mule;LNinthStep$Ground;)I" } : Jvm.MethodName) "NinthStep") ∈ ns_NB := ns_nb (mt_3 (List.mem_of_getElem? (i := 228) (by decide +kernel))) rfl
set_option maxRecDepth 20000 in
theorem tw_710 : (Jvm.Cond.instanceMethod ({ cls := "NinthStep$TurnPlan", name := "make", desc := "(LNinthStep$Mule;LNinthStep$Ground;)I" } : Jvm.MethodName)) ∈ ns_TB := ns_tb (mt_3 (List.mem_of_getElem? (i := 230) (by decide +kernel))) rfl
set_option maxRecDepth 20000 in
theorem tw_711 : (Jvm.Cond.code ({ cls := "NinthStep$TurnPlan", name := "make", desc := "(LNinthStep$Mule;LNinthStep$Ground;)I" } : Jvm.MethodName) prog_8_method_2_code (4 : Nat) (Option.some Jvm.ClassFile.FieldType.int)) ∈ ns_TB := ns_tb (mt_3 (List.mem_of_getElem? (i := 231) rfl)) rfl
set_option maxRecDepth 20000 in
theorem tw_712 : (Jvm.Cond.methodLinkNest "NinthStep$TurnPlan" (36 : Nat) ({ cls := "NinthStep$Mule", name := "cappedCount", desc := "()I" } : Jvm.MethodName) "NinthStep") ∈ ns_NB := ns_nb (mt_3 (List.mem_of_getElem? (i := 232) (by decide +kernel))) rfl
set_option maxRecDepth 20000 in
theorem tw_714 : (Jvm.Cond.instanceMethod ({ cls := "NinthStep$Mule", name := "cappedCount", desc := "()I" } : Jvm.MethodName)) ∈ ns_TB := ns_tb (mt_3 (List.mem_of_getElem? (i := 234) (by decide +kernel))) rfl
set_option maxRecDepth 20000 in
theorem tw_715 : (Jvm.Cond.code ({ cls := "NinthStep$Mule", name := "cappedCount", desc := "()I" } : Jvm.MethodName) prog_4_method_4_code (1 : Nat) (Option.some Jvm.ClassFile.FieldType.int)) ∈ ns_TB := ns_tb (mt_3 (List.mem_of_getElem? (i := 235) rfl)) rfl
set_option maxRecDepth 20000 in
theorem tw_716 : (Jvm.Cond.methodLinkNest "NinthStep$TurnPlan" (43 : Nat) ({ cls := "NinthStep", name := "tellNumbers", desc := "(LNinthStep$Mule;LNinthStep$Ground;LNinthStep$Mule;[I)V" } : Jvm.MethodName) "NinthStep") ∈ ns_NB := ns_nb (mt_3 (List.mem_of_getElem? (i := 236) (by decide +kernel))) rfl
set_option maxRecDepth 20000 in
theorem tw_717 : (Jvm.Cond.static ({ cls := "NinthStep", name := "tellNumbers", desc := "(LNinthStep$Mule;LNinthStep$Ground;LNinthStep$Mule;[I)V" } : Jvm.MethodName)) ∈ ns_TB := ns_tb (mt_3 (List.mem_of_getElem? (i := 237) (by decide +kernel))) rfl
set_option maxRecDepth 20000 in
theorem tw_718 : (Jvm.Cond.code ({ cls := "NinthStep", name := "tellNumbers", desc := "(LNinthStep$Mule;LNinthStep$Ground;LNinthStep$Mule;[I)V" } : Jvm.MethodName) prog_1_method_69_code (5 : Nat) (Option.none : Option Jvm.ClassFile.FieldType)) ∈ ns_TB := ns_tb (mt_3 (List.mem_of_getElem? (i := 238) rfl)) rfl
set_option maxRecDepth 20000 in
theorem tw_719 : (Jvm.Cond.methodLink "NinthStep$TurnPlan" (52 : Nat) ({ cls := "NinthStep$TurnPlan", name := "cellOf", desc := "(II)I" } : Jvm.MethodName)) ∈ ns_TB := ns_tb (mt_3 (List.mem_of_getElem? (i := 239) (by decide +kernel))) rfl
set_option maxRecDepth 20000 in
theorem tw_720 : (Jvm.Cond.static ({ cls := "NinthStep$TurnPlan", name := "cellOf", desc := "(II)I" } : Jvm.MethodName)) ∈ ns_TB := ns_tb (mt_4 (List.mem_of_getElem? (i := 0) (by decide +kernel))) rfl
set_option maxRecDepth 20000 in
theorem tw_721 : (Jvm.Cond.code ({ cls := "NinthStep$TurnPlan", name := "cellOf", desc := "(II)I" } : Jvm.MethodName) prog_8_method_8_code (4 : Nat) (Option.some Jvm.ClassFile.FieldType.int)) ∈ ns_TB := ns_tb (mt_4 (List.mem_of_getElem? (i := 1) rfl)) rfl
set_option maxRecDepth 20000 in
theorem tw_722 : (Jvm.Cond.methodLink "NinthStep$TurnPlan" (71 : Nat) ({ cls := "java/lang/Math", name := "min", desc := "(II)I" } : Jvm.MethodName)) ∈ ns_TB := ns_tb (mt_4 (List.mem_of_getElem? (i := 2) (by decide +kernel))) rfl
set_option maxRecDepth 20000 in
theorem tw_723 : (Jvm.Cond.methodLink "NinthStep$TurnPlan" (99 : Nat) ({ cls := "java/lang/Math", name := "max", desc := "(II)I" } : Jvm.MethodName)) ∈ ns_TB := ns_tb (mt_4 (List.mem_of_getElem? (i := 3) (by decide +kernel))) rfl
set_option maxRecDepth 20000 in
theorem tw_724 : (Jvm.Cond.methodLink "NinthStep$TurnPlan" (56 : Nat) ({ cls := "NinthStep$TurnPlan", name := "hasSeen", desc := "(II)Z" } : Jvm.MethodName)) ∈ ns_TB := ns_tb (mt_4 (List.mem_of_getElem? (i := 4) (by decide +kernel))) rfl
set_option maxRecDepth 20000 in
theorem tw_726 : (Jvm.Cond.instanceMethod ({ cls := "NinthStep$TurnPlan", name := "hasSeen", desc := "(II)Z" } : Jvm.MethodName)) ∈ ns_TB := ns_tb (mt_4 (List.mem_of_getElem? (i := 6) (by decide +kernel))) rfl
set_option maxRecDepth 20000 in
theorem tw_727 : (Jvm.Cond.code ({ cls := "NinthStep$TurnPlan", name := "hasSeen", desc := "(II)Z" } : Jvm.MethodName) prog_8_method_7_code (3 : Nat) (Option.some Jvm.ClassFile.FieldType.boolean)) ∈ ns_TB := ns_tb (mt_4 (List.mem_of_getElem? (i := 7) rfl)) rfl
set_option maxRecDepth 20000 in
theorem tw_728 : (Jvm.Cond.methodLinkNest "NinthStep$TurnPlan" (88 : Nat) ({ cls := "NinthStep", name := "isIn", desc := "(JI)Z" } : Jvm.MethodName) "NinthStep") ∈ ns_NB := ns_nb (mt_4 (List.mem_of_getElem? (i := 8) (by decide +kernel))) rfl
set_option maxRecDepth 20000 in
theorem tw_729 : (Jvm.Cond.methodLink "NinthStep$TurnPlan" (60 : Nat) ({ cls := "NinthStep$TurnPlan", name := "fillPlace", desc := "(I)V" } : Jvm.MethodName)) ∈ ns_TB := ns_tb (mt_4 (List.mem_of_getElem? (i := 9) (by decide +kernel))) rfl
set_option maxRecDepth 20000 in
theorem tw_731 : (Jvm.Cond.instanceMethod ({ cls := "NinthStep$TurnPlan", name := "fillPlace", desc := "(I)V" } : Jvm.MethodName)) ∈ ns_TB := ns_tb (mt_4 (List.mem_of_getElem? (i := 11) (by decide +kernel))) rfl
set_option maxRecDepth 20000 in
theorem tw_732 : (Jvm.Cond.code ({ cls := "NinthStep$TurnPlan", name := "fillPlace", desc := "(I)V" } : Jvm.MethodName) prog_8_method_4_code (6 : Nat) (Option.none : Option Jvm.ClassFile.FieldType)) ∈ ns_TB := ns_tb (mt_4 (List.mem_of_getElem? (i := 12) rfl)) rfl
set_option maxRecDepth 20000 in
theorem tw_733 : (Jvm.Cond.methodLink "NinthStep$TurnPlan" (67 : Nat) ({ cls := "NinthStep$TurnPlan", name := "needWith", desc := "(III)I" } : Jvm.MethodName)) ∈ ns_TB := ns_tb (mt_4 (List.mem_of_getElem? (i := 13) (by decide +kernel))) rfl
set_option maxRecDepth 20000 in
theorem tw_735 : (Jvm.Cond.instanceMethod ({ cls := "NinthStep$TurnPlan", name := "needWith", desc := "(III)I" } : Jvm.MethodName)) ∈ ns_TB := ns_tb (mt_4 (List.mem_of_getElem? (i := 15) (by decide +kernel))) rfl
set_option maxRecDepth 20000 in
theorem tw_736 : (Jvm.Cond.code ({ cls := "NinthStep$TurnPlan", name := "needWith", desc := "(III)I" } : Jvm.MethodName) prog_8_method_6_code (6 : Nat) (Option.some Jvm.ClassFile.FieldType.int)) ∈ ns_TB := ns_tb (mt_4 (List.mem_of_getElem? (i := 16) rfl)) rfl
set_option maxRecDepth 20000 in
theorem tw_737 : (Jvm.Cond.methodLinkNest "NinthStep$TurnPlan" (76 : Nat) ({ cls := "NinthStep$Mule", name := "standAt", desc := "(III)V" } : Jvm.MethodName) "NinthStep") ∈ ns_NB := ns_nb (mt_4 (List.mem_of_getElem? (i := 17) (by decide +kernel))) rfl
set_option maxRecDepth 20000 in
theorem tw_738 : (Jvm.Cond.methodLinkNest "NinthStep$TurnPlan" (80 : Nat) ({ cls := "NinthStep$Mule", name := "makeTurn", desc := "(LNinthStep$Ground;)Z" } : Jvm.MethodName) "NinthStep") ∈ ns_NB := ns_nb (mt_4 (List.mem_of_getElem? (i := 18) (by decide +kernel))) rfl
set_option maxRecDepth 20000 in
theorem tw_740 : (Jvm.Cond.instanceMethod ({ cls := "NinthStep$Mule", name := "makeTurn", desc := "(LNinthStep$Ground;)Z" } : Jvm.MethodName)) ∈ ns_TB := ns_tb (mt_4 (List.mem_of_getElem? (i := 20) (by decide +kernel))) rfl
set_option maxRecDepth 20000 in
theorem tw_741 : (Jvm.Cond.code ({ cls := "NinthStep$Mule", name := "makeTurn", desc := "(LNinthStep$Ground;)Z" } : Jvm.MethodName) prog_4_method_7_code (3 : Nat) (Option.some Jvm.ClassFile.FieldType.boolean)) ∈ ns_TB := ns_tb (mt_4 (List.mem_of_getElem? (i := 21) rfl)) rfl
set_option maxRecDepth 20000 in
theorem tw_742 : (Jvm.Cond.methodLinkNest "NinthStep$TurnPlan" (92 : Nat) ({ cls := "NinthStep$Mule", name := "makeStep", desc := "(LNinthStep$Ground;I)Z" } : Jvm.MethodName) "NinthStep") ∈ ns_NB := ns_nb (mt_4 (List.mem_of_getElem? (i := 22) (by decide +kernel))) rfl
set_option maxRecDepth 20000 in
theorem tw_743 : (Jvm.Cond.methodLinkNest "NinthStep" (249 : Nat) ({ cls := "NinthStep$TurnPlan", name := "madeAt", desc := "(I)I" } : Jvm.MethodName) "NinthStep") ∈ ns_NB := ns_nb (mt_4 (List.mem_of_getElem? (i := 23) (by decide +kernel))) rfl
set_option maxRecDepth 20000 in
theorem tw_745 : (Jvm.Cond.instanceMethod ({ cls := "NinthStep$TurnPlan", name := "madeAt", desc := "(I)I" } : Jvm.MethodName)) ∈ ns_TB := ns_tb (mt_4 (List.mem_of_getElem? (i := 25) (by decide +kernel))) rfl
set_option maxRecDepth 20000 in
theorem tw_746 : (Jvm.Cond.code ({ cls := "NinthStep$TurnPlan", name := "madeAt", desc := "(I)I" } : Jvm.MethodName) prog_8_method_3_code (5 : Nat) (Option.some Jvm.ClassFile.FieldType.int)) ∈ ns_TB := ns_tb (mt_4 (List.mem_of_getElem? (i := 26) rfl)) rfl
set_option maxRecDepth 20000 in
theorem tw_747 : (Jvm.Cond.methodLink "NinthStep$TurnPlan" (64 : Nat) ({ cls := "NinthStep$TurnPlan", name := "fewestFirst", desc := "(II)I" } : Jvm.MethodName)) ∈ ns_TB := ns_tb (mt_4 (List.mem_of_getElem? (i := 27) (by decide +kernel))) rfl
set_option maxRecDepth 20000 in
theorem tw_749 : (Jvm.Cond.instanceMethod ({ cls := "NinthStep$TurnPlan", name := "fewestFirst", desc := "(II)I" } : Jvm.MethodName)) ∈ ns_TB := ns_tb (mt_4 (List.mem_of_getElem? (i := 29) (by decide +kernel))) rfl
set_option maxRecDepth 20000 in
theorem tw_750 : (Jvm.Cond.code ({ cls := "NinthStep$TurnPlan", name := "fewestFirst", desc := "(II)I" } : Jvm.MethodName) prog_8_method_5_code (5 : Nat) (Option.some Jvm.ClassFile.FieldType.int)) ∈ ns_TB := ns_tb (mt_4 (List.mem_of_getElem? (i := 30) rfl)) rfl
set_option maxRecDepth 20000 in
theorem tw_755 : (Jvm.Cond.methodLink "NinthStep" (252 : Nat) ({ cls := "java/lang/Math", name := "max", desc := "(II)I" } : Jvm.MethodName)) ∈ ns_TB := ns_tb (mt_4 (List.mem_of_getElem? (i := 35) (by decide +kernel))) rfl
set_option maxRecDepth 20000 in
theorem tw_760 : (Jvm.Cond.methodLink "NinthStep" (262 : Nat) ({ cls := "NinthStep", name := "firstTogether", desc := "(LNinthStep$Mule;LNinthStep$Mule;)I" } : Jvm.MethodName)) ∈ ns_TB := ns_tb (mt_4 (List.mem_of_getElem? (i := 40) (by decide +kernel))) rfl
set_option maxRecDepth 20000 in
theorem tw_762 : (Jvm.Cond.instanceMethod ({ cls := "NinthStep", name := "firstTogether", desc := "(LNinthStep$Mule;LNinthStep$Mule;)I" } : Jvm.MethodName)) ∈ ns_TB := ns_tb (mt_4 (List.mem_of_getElem? (i := 42) (by decide +kernel))) rfl
set_option maxRecDepth 20000 in
theorem tw_763 : (Jvm.Cond.code ({ cls := "NinthStep", name := "firstTogether", desc := "(LNinthStep$Mule;LNinthStep$Mule;)I" } : Jvm.MethodName) prog_1_method_58_code (11 : Nat) (Option.some Jvm.ClassFile.FieldType.int)) ∈ ns_TB := ns_tb (mt_4 (List.mem_of_getElem? (i := 43) rfl)) rfl
set_option maxRecDepth 20000 in
theorem tw_764 : (Jvm.Cond.methodLink "NinthStep" (369 : Nat) ({ cls := "java/lang/Math", name := "min", desc := "(II)I" } : Jvm.MethodName)) ∈ ns_TB := ns_tb (mt_4 (List.mem_of_getElem? (i := 44) (by decide +kernel))) rfl
set_option maxRecDepth 20000 in
theorem tw_773 : (Jvm.Cond.methodLink "NinthStep" (270 : Nat) ({ cls := "NinthStep", name := "mulesTold", desc := "(LNinthStep$Shelf;I)I" } : Jvm.MethodName)) ∈ ns_TB := ns_tb (mt_4 (List.mem_of_getElem? (i := 53) (by decide +kernel))) rfl
set_option maxRecDepth 20000 in
theorem tw_775 : (Jvm.Cond.instanceMethod ({ cls := "NinthStep", name := "mulesTold", desc := "(LNinthStep$Shelf;I)I" } : Jvm.MethodName)) ∈ ns_TB := ns_tb (mt_4 (List.mem_of_getElem? (i := 55) (by decide +kernel))) rfl
set_option maxRecDepth 20000 in
theorem tw_776 : (Jvm.Cond.code ({ cls := "NinthStep", name := "mulesTold", desc := "(LNinthStep$Shelf;I)I" } : Jvm.MethodName) prog_1_method_59_code (7 : Nat) (Option.some Jvm.ClassFile.FieldType.int)) ∈ ns_TB := ns_tb (mt_4 (List.mem_of_getElem? (i := 56) rfl)) rfl
set_option maxRecDepth 20000 in
theorem tw_777 : (Jvm.Cond.methodLink "NinthStep" (274 : Nat) ({ cls := "NinthStep", name := "placesOfTrain", desc := "(I)I" } : Jvm.MethodName)) ∈ ns_TB := ns_tb (mt_4 (List.mem_of_getElem? (i := 57) (by decide +kernel))) rfl
set_option maxRecDepth 20000 in
theorem tw_779 : (Jvm.Cond.instanceMethod ({ cls := "NinthStep", name := "placesOfTrain", desc := "(I)I" } : Jvm.MethodName)) ∈ ns_TB := ns_tb (mt_4 (List.mem_of_getElem? (i := 59) (by decide +kernel))) rfl
set_option maxRecDepth 20000 in
theorem tw_780 : (Jvm.Cond.code ({ cls := "NinthStep", name := "placesOfTrain", desc := "(I)I" } : Jvm.MethodName) prog_1_method_60_code (7 : Nat) (Option.some Jvm.ClassFile.FieldType.int)) ∈ ns_TB := ns_tb (mt_4 (List.mem_of_getElem? (i := 60) rfl)) rfl
set_option maxRecDepth 20000 in
theorem tw_785 : (Jvm.Cond.methodLink "NinthStep" (277 : Nat) ({ cls := "NinthStep", name := "countCrowds", desc := "()V" } : Jvm.MethodName)) ∈ ns_TB := ns_tb (mt_4 (List.mem_of_getElem? (i := 65) (by decide +kernel))) rfl
set_option maxRecDepth 20000 in
theorem tw_787 : (Jvm.Cond.instanceMethod ({ cls := "NinthStep", name := "countCrowds", desc := "()V" } : Jvm.MethodName)) ∈ ns_TB := ns_tb (mt_4 (List.mem_of_getElem? (i := 67) (by decide +kernel))) rfl
set_option maxRecDepth 20000 in
theorem tw_788 : (Jvm.Cond.code ({ cls := "NinthStep", name := "countCrowds", desc := "()V" } : Jvm.MethodName) prog_1_method_61_code (5 : Nat) (Option.none : Option Jvm.ClassFile.FieldType)) ∈ ns_TB := ns_tb (mt_4 (List.mem_of_getElem? (i := 68) rfl)) rfl
set_option maxRecDepth 20000 in
theorem tw_793 : (Jvm.Cond.methodLink "NinthStep" (280 : Nat) ({ cls := "NinthStep", name := "fullestPlace", desc := "()I" } : Jvm.MethodName)) ∈ ns_TB := ns_tb (mt_4 (List.mem_of_getElem? (i := 73) (by decide +kernel))) rfl
set_option maxRecDepth 20000 in
theorem tw_795 : (Jvm.Cond.instanceMethod ({ cls := "NinthStep", name := "fullestPlace", desc := "()I" } : Jvm.MethodName)) ∈ ns_TB := ns_tb (mt_4 (List.mem_of_getElem? (i := 75) (by decide +kernel))) rfl
set_option maxRecDepth 20000 in
theorem tw_796 : (Jvm.Cond.code ({ cls := "NinthStep", name := "fullestPlace", desc := "()I" } : Jvm.MethodName) prog_1_method_62_code (4 : Nat) (Option.some Jvm.ClassFile.FieldType.int)) ∈ ns_TB := ns_tb (mt_4 (List.mem_of_getElem? (i := 76) rfl)) rfl
set_option maxRecDepth 20000 in
theorem tw_801 : (Jvm.Cond.methodLinkNest "NinthStep" (283 : Nat) ({ cls := "NinthStep$StonePlan", name := "isAnyNeeded", desc := "(LNinthStep$World;)Z" } : Jvm.MethodName) "NinthStep") ∈ ns_NB := ns_nb (mt_4 (List.mem_of_getElem? (i := 81) (by decide +kernel))) rfl
set_option maxRecDepth 20000 in
theorem tw_803 : (Jvm.Cond.instanceMethod ({ cls := "NinthStep$StonePlan", name := "isAnyNeeded", desc := "(LNinthStep$World;)Z" } : Jvm.MethodName)) ∈ ns_TB := ns_tb (mt_4 (List.mem_of_getElem? (i := 83) (by decide +kernel))) rfl
set_option maxRecDepth 20000 in
theorem tw_804 : (Jvm.Cond.code ({ cls := "NinthStep$StonePlan", name := "isAnyNeeded", desc := "(LNinthStep$World;)Z" } : Jvm.MethodName) prog_6_method_2_code (3 : Nat) (Option.some Jvm.ClassFile.FieldType.boolean)) ∈ ns_TB := ns_tb (mt_4 (List.mem_of_getElem? (i := 84) rfl)) rfl
set_option maxRecDepth 20000 in
theorem tw_805 : (Jvm.Cond.methodLink "NinthStep$StonePlan" (53 : Nat) ({ cls := "NinthStep$StonePlan", name := "fallsAsItIs", desc := "(LNinthStep$Mule;)Z" } : Jvm.MethodName)) ∈ ns_TB := ns_tb (mt_4 (List.mem_of_getElem? (i := 85) (by decide +kernel))) rfl
set_option maxRecDepth 20000 in
theorem tw_807 : (Jvm.Cond.instanceMethod ({ cls := "NinthStep$StonePlan", name := "fallsAsItIs", desc := "(LNinthStep$Mule;)Z" } : Jvm.MethodName)) ∈ ns_TB := ns_tb (mt_4 (List.mem_of_getElem? (i := 87) (by decide +kernel))) rfl
set_option maxRecDepth 20000 in
theorem tw_808 : (Jvm.Cond.code ({ cls := "NinthStep$StonePlan", name := "fallsAsItIs", desc := "(LNinthStep$Mule;)Z" } : Jvm.MethodName) prog_6_method_6_code (3 : Nat) (Option.some Jvm.ClassFile.FieldType.boolean)) ∈ ns_TB := ns_tb (mt_4 (List.mem_of_getElem? (i := 88) rfl)) rfl
set_option maxRecDepth 20000 in
theorem tw_809 : (Jvm.Cond.methodLinkNest "NinthStep$StonePlan" (103 : Nat) ({ cls := "NinthStep$Mule", name := "takeFrom", desc := "(LNinthStep$Mule;)V" } : Jvm.MethodName) "NinthStep") ∈ ns_NB := ns_nb (mt_4 (List.mem_of_getElem? (i := 89) (by decide +kernel))) rfl
set_option maxRecDepth 20000 in
theorem tw_810 : (Jvm.Cond.methodLink "NinthStep$StonePlan" (110 : Nat) ({ cls := "NinthStep$StonePlan", name := "fallsNext", desc := "(LNinthStep$Mule;I)Z" } : Jvm.MethodName)) ∈ ns_TB := ns_tb (mt_4 (List.mem_of_getElem? (i := 90) (by decide +kernel))) rfl
set_option maxRecDepth 20000 in
theorem tw_812 : (Jvm.Cond.instanceMethod ({ cls := "NinthStep$StonePlan", name := "fallsNext", desc := "(LNinthStep$Mule;I)Z" } : Jvm.MethodName)) ∈ ns_TB := ns_tb (mt_4 (List.mem_of_getElem? (i := 92) (by decide +kernel))) rfl
set_option maxRecDepth 20000 in
theorem tw_813 : (Jvm.Cond.code ({ cls := "NinthStep$StonePlan", name := "fallsNext", desc := "(LNinthStep$Mule;I)Z" } : Jvm.MethodName) prog_6_method_12_code (3 : Nat) (Option.some Jvm.ClassFile.FieldType.boolean)) ∈ ns_TB := ns_tb (mt_4 (List.mem_of_getElem? (i := 93) rfl)) rfl
set_option maxRecDepth 20000 in
theorem tw_814 : (Jvm.Cond.methodLinkNest "NinthStep$StonePlan" (144 : Nat) ({ cls := "NinthStep$Mule", name := "makeStep", desc := "(LNinthStep$Ground;I)Z" } : Jvm.MethodName) "NinthStep") ∈ ns_NB := ns_nb (mt_4 (List.mem_of_getElem? (i := 94) (by decide +kernel))) rfl
set_option maxRecDepth 20000 in
theorem tw_815 : (Jvm.Cond.methodLinkNest "NinthStep$StonePlan" (72 : Nat) ({ cls := "NinthStep", name := "isIn", desc := "(JI)Z" } : Jvm.MethodName) "NinthStep") ∈ ns_NB := ns_nb (mt_4 (List.mem_of_getElem? (i := 95) (by decide +kernel))) rfl
set_option maxRecDepth 20000 in
theorem tw_816 : (Jvm.Cond.methodLinkNest "NinthStep" (287 : Nat) ({ cls := "NinthStep$StonePlan", name := "isOneEnough", desc := "(LNinthStep$World;)Z" } : Jvm.MethodName) "NinthStep") ∈ ns_NB := ns_nb (mt_4 (List.mem_of_getElem? (i := 96) (by decide +kernel))) rfl
set_option maxRecDepth 20000 in
theorem tw_818 : (Jvm.Cond.instanceMethod ({ cls := "NinthStep$StonePlan", name := "isOneEnough", desc := "(LNinthStep$World;)Z" } : Jvm.MethodName)) ∈ ns_TB := ns_tb (mt_4 (List.mem_of_getElem? (i := 98) (by decide +kernel))) rfl
set_option maxRecDepth 20000 in
theorem tw_819 : (Jvm.Cond.code ({ cls := "NinthStep$StonePlan", name := "isOneEnough", desc := "(LNinthStep$World;)Z" } : Jvm.MethodName) prog_6_method_3_code (5 : Nat) (Option.some Jvm.ClassFile.FieldType.boolean)) ∈ ns_TB := ns_tb (mt_4 (List.mem_of_getElem? (i := 99) rfl)) rfl
set_option maxRecDepth 20000 in
theorem tw_820 : (Jvm.Cond.methodLink "NinthStep$StonePlan" (57 : Nat) ({ cls := "NinthStep$StonePlan", name := "freePlaces", desc := "()J" } : Jvm.MethodName)) ∈ ns_TB := ns_tb (mt_4 (List.mem_of_getElem? (i := 100) (by decide +kernel))) rfl
set_option maxRecDepth 20000 in
theorem tw_822 : (Jvm.Cond.instanceMethod ({ cls := "NinthStep$StonePlan", name := "freePlaces", desc := "()J" } : Jvm.MethodName)) ∈ ns_TB := ns_tb (mt_4 (List.mem_of_getElem? (i := 102) (by decide +kernel))) rfl
set_option maxRecDepth 20000 in
theorem tw_823 : (Jvm.Cond.code ({ cls := "NinthStep$StonePlan", name := "freePlaces", desc := "()J" } : Jvm.MethodName) prog_6_method_5_code (1 : Nat) (Option.some Jvm.ClassFile.FieldType.long)) ∈ ns_TB := ns_tb (mt_4 (List.mem_of_getElem? (i := 103) rfl)) rfl
set_option maxRecDepth 20000 in
theorem tw_824 : (Jvm.Cond.methodLinkNest "NinthStep$StonePlan" (92 : Nat) ({ cls := "NinthStep", name := "bit", desc := "(I)J" } : Jvm.MethodName) "NinthStep") ∈ ns_NB := ns_nb (mt_4 (List.mem_of_getElem? (i := 104) (by decide +kernel))) rfl
set_option maxRecDepth 20000 in
theorem tw_825 : (Jvm.Cond.constantLong "NinthStep$StonePlan" (95 : Nat) (2 : Int64)) ∈ ns_TB := ns_tb (mt_4 (List.mem_of_getElem? (i := 105) (by decide +kernel))) rfl
set_option maxRecDepth 20000 in
theorem tw_826 : (Jvm.Cond.constantLong "NinthStep$StonePlan" (101 : Nat) (-1 : Int64)) ∈ ns_TB := ns_tb (mt_4 (List.mem_of_getElem? (i := 106) (by decide +kernel))) rfl
set_option maxRecDepth 20000 in
theorem tw_827 : (Jvm.Cond.methodLink "NinthStep$StonePlan" (61 : Nat) ({ cls := "NinthStep$StonePlan", name := "helpersFor", desc := "(LNinthStep$Mule;)J" } : Jvm.MethodName)) ∈ ns_TB := ns_tb (mt_4 (List.mem_of_getElem? (i := 107) (by decide +kernel))) rfl
set_option maxRecDepth 20000 in
theorem tw_829 : (Jvm.Cond.instanceMethod ({ cls := "NinthStep$StonePlan", name := "helpersFor", desc := "(LNinthStep$Mule;)J" } : Jvm.MethodName)) ∈ ns_TB := ns_tb (mt_4 (List.mem_of_getElem? (i := 109) (by decide +kernel))) rfl
set_option maxRecDepth 20000 in
theorem tw_830 : (Jvm.Cond.code ({ cls := "NinthStep$StonePlan", name := "helpersFor", desc := "(LNinthStep$Mule;)J" } : Jvm.MethodName) prog_6_method_7_code (2 : Nat) (Option.some Jvm.ClassFile.FieldType.long)) ∈ ns_TB := ns_tb (mt_4 (List.mem_of_getElem? (i := 110) rfl)) rfl
set_option maxRecDepth 20000 in
theorem tw_831 : (Jvm.Cond.methodLink "NinthStep$StonePlan" (114 : Nat) ({ cls := "NinthStep$StonePlan", name := "fillSafe", desc := "(LNinthStep$Mule;)V" } : Jvm.MethodName)) ∈ ns_TB := ns_tb (mt_4 (List.mem_of_getElem? (i := 111) (by decide +kernel))) rfl
set_option maxRecDepth 20000 in
theorem tw_833 : (Jvm.Cond.instanceMethod ({ cls := "NinthStep$StonePlan", name := "fillSafe", desc := "(LNinthStep$Mule;)V" } : Jvm.MethodName)) ∈ ns_TB := ns_tb (mt_4 (List.mem_of_getElem? (i := 113) (by decide +kernel))) rfl
set_option maxRecDepth 20000 in
theorem tw_834 : (Jvm.Cond.code ({ cls := "NinthStep$StonePlan", name := "fillSafe", desc := "(LNinthStep$Mule;)V" } : Jvm.MethodName) prog_6_method_9_code (5 : Nat) (Option.none : Option Jvm.ClassFile.FieldType)) ∈ ns_TB := ns_tb (mt_4 (List.mem_of_getElem? (i := 114) rfl)) rfl
set_option maxRecDepth 20000 in
theorem tw_835 : (Jvm.Cond.methodLinkNest "NinthStep$StonePlan" (126 : Nat) ({ cls := "NinthStep", name := "tellNumbers", desc := "(LNinthStep$Mule;LNinthStep$Ground;LNinthStep$Mule;[I)V" } : Jvm.MethodName) "NinthStep") ∈ ns_NB := ns_nb (mt_4 (List.mem_of_getElem? (i := 115) (by decide +kernel))) rfl
set_option maxRecDepth 20000 in
theorem tw_836 : (Jvm.Cond.methodLink "NinthStep$StonePlan" (130 : Nat) ({ cls := "java/lang/Math", name := "min", desc := "(II)I" } : Jvm.MethodName)) ∈ ns_TB := ns_tb (mt_4 (List.mem_of_getElem? (i := 116) (by decide +kernel))) rfl
set_option maxRecDepth 20000 in
theorem tw_837 : (Jvm.Cond.methodLinkNest "NinthStep$StonePlan" (136 : Nat) ({ cls := "NinthStep$Mule", name := "standAt", desc := "(III)V" } : Jvm.MethodName) "NinthStep") ∈ ns_NB := ns_nb (mt_4 (List.mem_of_getElem? (i := 117) (by decide +kernel))) rfl
set_option maxRecDepth 20000 in
theorem tw_838 : (Jvm.Cond.methodLink "NinthStep$StonePlan" (120 : Nat) ({ cls := "NinthStep$StonePlan", name := "isSafe", desc := "(LNinthStep$Mule;)Z" } : Jvm.MethodName)) ∈ ns_TB := ns_tb (mt_4 (List.mem_of_getElem? (i := 118) (by decide +kernel))) rfl
set_option maxRecDepth 20000 in
theorem tw_840 : (Jvm.Cond.instanceMethod ({ cls := "NinthStep$StonePlan", name := "isSafe", desc := "(LNinthStep$Mule;)Z" } : Jvm.MethodName)) ∈ ns_TB := ns_tb (mt_4 (List.mem_of_getElem? (i := 120) (by decide +kernel))) rfl
set_option maxRecDepth 20000 in
theorem tw_841 : (Jvm.Cond.code ({ cls := "NinthStep$StonePlan", name := "isSafe", desc := "(LNinthStep$Mule;)Z" } : Jvm.MethodName) prog_6_method_10_code (2 : Nat) (Option.some Jvm.ClassFile.FieldType.boolean)) ∈ ns_TB := ns_tb (mt_4 (List.mem_of_getElem? (i := 121) rfl)) rfl
set_option maxRecDepth 20000 in
theorem tw_842 : (Jvm.Cond.methodLinkNest "NinthStep$StonePlan" (140 : Nat) ({ cls := "NinthStep$Mule", name := "cappedCount", desc := "()I" } : Jvm.MethodName) "NinthStep") ∈ ns_NB := ns_nb (mt_4 (List.mem_of_getElem? (i := 122) (by decide +kernel))) rfl
set_option maxRecDepth 20000 in
theorem tw_843 : (Jvm.Cond.methodLink "NinthStep$StonePlan" (117 : Nat) ({ cls := "NinthStep$StonePlan", name := "helpersAhead", desc := "(LNinthStep$Mule;)J" } : Jvm.MethodName)) ∈ ns_TB := ns_tb (mt_4 (List.mem_of_getElem? (i := 123) (by decide +kernel))) rfl
set_option maxRecDepth 20000 in
theorem tw_845 : (Jvm.Cond.instanceMethod ({ cls := "NinthStep$StonePlan", name := "helpersAhead", desc := "(LNinthStep$Mule;)J" } : Jvm.MethodName)) ∈ ns_TB := ns_tb (mt_4 (List.mem_of_getElem? (i := 125) (by decide +kernel))) rfl
set_option maxRecDepth 20000 in
theorem tw_846 : (Jvm.Cond.code ({ cls := "NinthStep$StonePlan", name := "helpersAhead", desc := "(LNinthStep$Mule;)J" } : Jvm.MethodName) prog_6_method_11_code (5 : Nat) (Option.some Jvm.ClassFile.FieldType.long)) ∈ ns_TB := ns_tb (mt_4 (List.mem_of_getElem? (i := 126) rfl)) rfl
set_option maxRecDepth 20000 in
theorem tw_847 : (Jvm.Cond.methodLinkNest "NinthStep$StonePlan" (76 : Nat) ({ cls := "NinthStep", name := "above", desc := "(I)J" } : Jvm.MethodName) "NinthStep") ∈ ns_NB := ns_nb (mt_4 (List.mem_of_getElem? (i := 127) (by decide +kernel))) rfl
set_option maxRecDepth 20000 in
theorem tw_848 : (Jvm.Cond.methodLinkNest "NinthStep$StonePlan" (65 : Nat) ({ cls := "NinthStep", name := "firstOf", desc := "(J)I" } : Jvm.MethodName) "NinthStep") ∈ ns_NB := ns_nb (mt_4 (List.mem_of_getElem? (i := 128) (by decide +kernel))) rfl
set_option maxRecDepth 20000 in
theorem tw_849 : (Jvm.Cond.methodLinkNest "NinthStep" (290 : Nat) ({ cls := "NinthStep$StonePlan", name := "isPairEnough", desc := "(LNinthStep$World;)Z" } : Jvm.MethodName) "NinthStep") ∈ ns_NB := ns_nb (mt_4 (List.mem_of_getElem? (i := 129) (by decide +kernel))) rfl
set_option maxRecDepth 20000 in
theorem tw_851 : (Jvm.Cond.instanceMethod ({ cls := "NinthStep$StonePlan", name := "isPairEnough", desc := "(LNinthStep$World;)Z" } : Jvm.MethodName)) ∈ ns_TB := ns_tb (mt_4 (List.mem_of_getElem? (i := 131) (by decide +kernel))) rfl
set_option maxRecDepth 20000 in
theorem tw_852 : (Jvm.Cond.code ({ cls := "NinthStep$StonePlan", name := "isPairEnough", desc := "(LNinthStep$World;)Z" } : Jvm.MethodName) prog_6_method_4_code (5 : Nat) (Option.some Jvm.ClassFile.FieldType.boolean)) ∈ ns_TB := ns_tb (mt_4 (List.mem_of_getElem? (i := 132) rfl)) rfl
set_option maxRecDepth 20000 in
theorem tw_853 : (Jvm.Cond.methodLink "NinthStep$StonePlan" (80 : Nat) ({ cls := "NinthStep$StonePlan", name := "heedSeconds", desc := "(LNinthStep$Mule;J)V" } : Jvm.MethodName)) ∈ ns_TB := ns_tb (mt_4 (List.mem_of_getElem? (i := 133) (by decide +kernel))) rfl
set_option maxRecDepth 20000 in
theorem tw_855 : (Jvm.Cond.instanceMethod ({ cls := "NinthStep$StonePlan", name := "heedSeconds", desc := "(LNinthStep$Mule;J)V" } : Jvm.MethodName)) ∈ ns_TB := ns_tb (mt_4 (List.mem_of_getElem? (i := 135) (by decide +kernel))) rfl
set_option maxRecDepth 20000 in
theorem tw_856 : (Jvm.Cond.code ({ cls := "NinthStep$StonePlan", name := "heedSeconds", desc := "(LNinthStep$Mule;J)V" } : Jvm.MethodName) prog_6_method_8_code (7 : Nat) (Option.none : Option Jvm.ClassFile.FieldType)) ∈ ns_TB := ns_tb (mt_4 (List.mem_of_getElem? (i := 136) rfl)) rfl
set_option maxRecDepth 20000 in
theorem tw_861 : (Jvm.Cond.methodLink "NinthStep" (299 : Nat) ({ cls := "NinthStep", name := "placesTold", desc := "(LNinthStep$Shelf;I)J" } : Jvm.MethodName)) ∈ ns_TB := ns_tb (mt_4 (List.mem_of_getElem? (i := 141) (by decide +kernel))) rfl
set_option maxRecDepth 20000 in
theorem tw_863 : (Jvm.Cond.instanceMethod ({ cls := "NinthStep", name := "placesTold", desc := "(LNinthStep$Shelf;I)J" } : Jvm.MethodName)) ∈ ns_TB := ns_tb (mt_4 (List.mem_of_getElem? (i := 143) (by decide +kernel))) rfl
set_option maxRecDepth 20000 in
theorem tw_864 : (Jvm.Cond.code ({ cls := "NinthStep", name := "placesTold", desc := "(LNinthStep$Shelf;I)J" } : Jvm.MethodName) prog_1_method_63_code (10 : Nat) (Option.some Jvm.ClassFile.FieldType.long)) ∈ ns_TB := ns_tb (mt_4 (List.mem_of_getElem? (i := 144) rfl)) rfl
set_option maxRecDepth 20000 in
theorem tw_865 : (Jvm.Cond.methodLink "NinthStep" (303 : Nat) ({ cls := "NinthStep", name := "pairsBy", desc := "(JZ)I" } : Jvm.MethodName)) ∈ ns_TB := ns_tb (mt_4 (List.mem_of_getElem? (i := 145) (by decide +kernel))) rfl
set_option maxRecDepth 20000 in
theorem tw_867 : (Jvm.Cond.instanceMethod ({ cls := "NinthStep", name := "pairsBy", desc := "(JZ)I" } : Jvm.MethodName)) ∈ ns_TB := ns_tb (mt_4 (List.mem_of_getElem? (i := 147) (by decide +kernel))) rfl
set_option maxRecDepth 20000 in
theorem tw_868 : (Jvm.Cond.code ({ cls := "NinthStep", name := "pairsBy", desc := "(JZ)I" } : Jvm.MethodName) prog_1_method_64_code (8 : Nat) (Option.some Jvm.ClassFile.FieldType.int)) ∈ ns_TB := ns_tb (mt_4 (List.mem_of_getElem? (i := 148) rfl)) rfl
set_option maxRecDepth 20000 in
theorem tw_869 : (Jvm.Cond.methodLink "NinthStep" (372 : Nat) ({ cls := "NinthStep", name := "wouldBeSeen", desc := "(IIJ)Z" } : Jvm.MethodName)) ∈ ns_TB := ns_tb (mt_4 (List.mem_of_getElem? (i := 149) (by decide +kernel))) rfl
set_option maxRecDepth 20000 in
theorem tw_871 : (Jvm.Cond.instanceMethod ({ cls := "NinthStep", name := "wouldBeSeen", desc := "(IIJ)Z" } : Jvm.MethodName)) ∈ ns_TB := ns_tb (mt_4 (List.mem_of_getElem? (i := 151) (by decide +kernel))) rfl
set_option maxRecDepth 20000 in
theorem tw_872 : (Jvm.Cond.code ({ cls := "NinthStep", name := "wouldBeSeen", desc := "(IIJ)Z" } : Jvm.MethodName) prog_1_method_65_code (7 : Nat) (Option.some Jvm.ClassFile.FieldType.boolean)) ∈ ns_TB := ns_tb (mt_4 (List.mem_of_getElem? (i := 152) rfl)) rfl
set_option maxRecDepth 20000 in
theorem tw_873 : (Jvm.Cond.methodLink "NinthStep" (376 : Nat) ({ cls := "NinthStep", name := "lastOf", desc := "(J)I" } : Jvm.MethodName)) ∈ ns_TB := ns_tb (mt_4 (List.mem_of_getElem? (i := 153) (by decide +kernel))) rfl
set_option maxRecDepth 20000 in
theorem tw_878 : (Jvm.Cond.methodLinkNest "NinthStep" (307 : Nat) ({ cls := "NinthStep$Chance", name := "unfallen", desc := "(LNinthStep$Mule;LNinthStep$Ground;I)I" } : Jvm.MethodName) "NinthStep") ∈ ns_NB := ns_nb (mt_4 (List.mem_of_getElem? (i := 158) (by decide +kernel))) rfl
set_option maxRecDepth 20000 in
theorem tw_880 : (Jvm.Cond.instanceMethod ({ cls := "NinthStep$Chance", name := "unfallen", desc := "(LNinthStep$Mule;LNinthStep$Ground;I)I" } : Jvm.MethodName)) ∈ ns_TB := ns_tb (mt_4 (List.mem_of_getElem? (i := 160) (by decide +kernel))) rfl
set_option maxRecDepth 20000 in
theorem tw_881 : (Jvm.Cond.code ({ cls := "NinthStep$Chance", name := "unfallen", desc := "(LNinthStep$Mule;LNinthStep$Ground;I)I" } : Jvm.MethodName) prog_2_method_2_code (6 : Nat) (Option.some Jvm.ClassFile.FieldType.int)) ∈ ns_TB := ns_tb (mt_4 (List.mem_of_getElem? (i := 161) rfl)) rfl
set_option maxRecDepth 20000 in
theorem tw_882 : (Jvm.Cond.methodLink "NinthStep$Chance" (24 : Nat) ({ cls := "java/lang/Math", name := "min", desc := "(II)I" } : Jvm.MethodName)) ∈ ns_TB := ns_tb (mt_4 (List.mem_of_getElem? (i := 162) (by decide +kernel))) rfl
set_option maxRecDepth 20000 in
theorem tw_883 : (Jvm.Cond.methodLink "NinthStep$Chance" (30 : Nat) ({ cls := "java/lang/Math", name := "max", desc := "(II)I" } : Jvm.MethodName)) ∈ ns_TB := ns_tb (mt_4 (List.mem_of_getElem? (i := 163) (by decide +kernel))) rfl
set_option maxRecDepth 20000 in
theorem tw_884 : (Jvm.Cond.constant "NinthStep$Chance" (33 : Nat) (1000000 : Int32)) ∈ ns_TB := ns_tb (mt_4 (List.mem_of_getElem? (i := 164) (by decide +kernel))) rfl
set_option maxRecDepth 20000 in
theorem tw_885 : (Jvm.Cond.methodLinkNest "NinthStep$Chance" (46 : Nat) ({ cls := "NinthStep", name := "isIn", desc := "(JI)Z" } : Jvm.MethodName) "NinthStep") ∈ ns_NB := ns_nb (mt_4 (List.mem_of_getElem? (i := 165) (by decide +kernel))) rfl
set_option maxRecDepth 20000 in
theorem tw_886 : (Jvm.Cond.methodLink "NinthStep$Chance" (53 : Nat) ({ cls := "NinthStep$Chance", name := "spread", desc := "(III)V" } : Jvm.MethodName)) ∈ ns_TB := ns_tb (mt_4 (List.mem_of_getElem? (i := 166) (by decide +kernel))) rfl
set_option maxRecDepth 20000 in
theorem tw_888 : (Jvm.Cond.instanceMethod ({ cls := "NinthStep$Chance", name := "spread", desc := "(III)V" } : Jvm.MethodName)) ∈ ns_TB := ns_tb (mt_4 (List.mem_of_getElem? (i := 168) (by decide +kernel))) rfl
set_option maxRecDepth 20000 in
theorem tw_889 : (Jvm.Cond.code ({ cls := "NinthStep$Chance", name := "spread", desc := "(III)V" } : Jvm.MethodName) prog_2_method_3_code (6 : Nat) (Option.none : Option Jvm.ClassFile.FieldType)) ∈ ns_TB := ns_tb (mt_4 (List.mem_of_getElem? (i := 169) rfl)) rfl
set_option maxRecDepth 20000 in
theorem tw_890 : (Jvm.Cond.methodLink "NinthStep$Chance" (60 : Nat) ({ cls := "NinthStep$Chance", name := "landing", desc := "(II)I" } : Jvm.MethodName)) ∈ ns_TB := ns_tb (mt_4 (List.mem_of_getElem? (i := 170) (by decide +kernel))) rfl
set_option maxRecDepth 20000 in
theorem tw_891 : (Jvm.Cond.static ({ cls := "NinthStep$Chance", name := "landing", desc := "(II)I" } : Jvm.MethodName)) ∈ ns_TB := ns_tb (mt_4 (List.mem_of_getElem? (i := 171) (by decide +kernel))) rfl
set_option maxRecDepth 20000 in
theorem tw_892 : (Jvm.Cond.code ({ cls := "NinthStep$Chance", name := "landing", desc := "(II)I" } : Jvm.MethodName) prog_2_method_4_code (2 : Nat) (Option.some Jvm.ClassFile.FieldType.int)) ∈ ns_TB := ns_tb (mt_4 (List.mem_of_getElem? (i := 172) rfl)) rfl
set_option maxRecDepth 20000 in
theorem tw_897 : (Jvm.Cond.methodLink "NinthStep" (311 : Nat) ({ cls := "NinthStep", name := "firstWrong", desc := "(LNinthStep$Shelf;IJ)I" } : Jvm.MethodName)) ∈ ns_TB := ns_tb (mt_4 (List.mem_of_getElem? (i := 177) (by decide +kernel))) rfl
set_option maxRecDepth 20000 in
theorem tw_898 : (Jvm.Cond.static ({ cls := "NinthStep", name := "firstWrong", desc := "(LNinthStep$Shelf;IJ)I" } : Jvm.MethodName)) ∈ ns_TB := ns_tb (mt_4 (List.mem_of_getElem? (i := 178) (by decide +kernel))) rfl
set_option maxRecDepth 20000 in
theorem tw_899 : (Jvm.Cond.code ({ cls := "NinthStep", name := "firstWrong", desc := "(LNinthStep$Shelf;IJ)I" } : Jvm.MethodName) prog_1_method_66_code (7 : Nat) (Option.some Jvm.ClassFile.FieldType.int)) ∈ ns_TB := ns_tb (mt_4 (List.mem_of_getElem? (i := 179) rfl)) rfl
set_option maxRecDepth 20000 in
theorem tw_912 : (Jvm.Cond.methodLinkNest "NinthStep" (315 : Nat) ({ cls := "NinthStep$World", name := "stepInTruth", desc := "(LNinthStep$Mule;I)V" } : Jvm.MethodName) "NinthStep") ∈ ns_NB := ns_nb (mt_4 (List.mem_of_getElem? (i := 192) (by decide +kernel))) rfl
set_option maxRecDepth 20000 in
theorem tw_914 : (Jvm.Cond.instanceMethod ({ cls := "NinthStep$World", name := "stepInTruth", desc := "(LNinthStep$Mule;I)V" } : Jvm.MethodName)) ∈ ns_TB := ns_tb (mt_4 (List.mem_of_getElem? (i := 194) (by decide +kernel))) rfl
set_option maxRecDepth 20000 in
theorem tw_915 : (Jvm.Cond.code ({ cls := "NinthStep$World", name := "stepInTruth", desc := "(LNinthStep$Mule;I)V" } : Jvm.MethodName) prog_9_method_5_code (3 : Nat) (Option.none : Option Jvm.ClassFile.FieldType)) ∈ ns_TB := ns_tb (mt_4 (List.mem_of_getElem? (i := 195) rfl)) rfl
set_option maxRecDepth 20000 in
theorem tw_916 : (Jvm.Cond.methodLinkNest "NinthStep$World" (45 : Nat) ({ cls := "NinthStep$Mule", name := "makeStep", desc := "(LNinthStep$Ground;I)Z" } : Jvm.MethodName) "NinthStep") ∈ ns_NB := ns_nb (mt_4 (List.mem_of_getElem? (i := 196) (by decide +kernel))) rfl
set_option maxRecDepth 20000 in
theorem tw_917 : (Jvm.Cond.methodLink "NinthStep$World" (49 : Nat) ({ cls := "NinthStep$World", name := "restInTruth", desc := "(LNinthStep$Mule;)V" } : Jvm.MethodName)) ∈ ns_TB := ns_tb (mt_4 (List.mem_of_getElem? (i := 197) (by decide +kernel))) rfl
set_option maxRecDepth 20000 in
theorem tw_919 : (Jvm.Cond.instanceMethod ({ cls := "NinthStep$World", name := "restInTruth", desc := "(LNinthStep$Mule;)V" } : Jvm.MethodName)) ∈ ns_TB := ns_tb (mt_4 (List.mem_of_getElem? (i := 199) (by decide +kernel))) rfl
set_option maxRecDepth 20000 in
theorem tw_920 : (Jvm.Cond.code ({ cls := "NinthStep$World", name := "restInTruth", desc := "(LNinthStep$Mule;)V" } : Jvm.MethodName) prog_9_method_7_code (2 : Nat) (Option.none : Option Jvm.ClassFile.FieldType)) ∈ ns_TB := ns_tb (mt_4 (List.mem_of_getElem? (i := 200) rfl)) rfl
set_option maxRecDepth 20000 in
theorem tw_921 : (Jvm.Cond.methodLinkNest "NinthStep$World" (69 : Nat) ({ cls := "NinthStep", name := "isIn", desc := "(JI)Z" } : Jvm.MethodName) "NinthStep") ∈ ns_NB := ns_nb (mt_4 (List.mem_of_getElem? (i := 201) (by decide +kernel))) rfl
set_option maxRecDepth 20000 in
theorem tw_926 : (Jvm.Cond.methodLinkNest "NinthStep" (319 : Nat) ({ cls := "NinthStep$World", name := "turnInTruth", desc := "(LNinthStep$Mule;)Z" } : Jvm.MethodName) "NinthStep") ∈ ns_NB := ns_nb (mt_4 (List.mem_of_getElem? (i := 206) (by decide +kernel))) rfl
set_option maxRecDepth 20000 in
theorem tw_928 : (Jvm.Cond.instanceMethod ({ cls := "NinthStep$World", name := "turnInTruth", desc := "(LNinthStep$Mule;)Z" } : Jvm.MethodName)) ∈ ns_TB := ns_tb (mt_4 (List.mem_of_getElem? (i := 208) (by decide +kernel))) rfl
set_option maxRecDepth 20000 in
theorem tw_929 : (Jvm.Cond.code ({ cls := "NinthStep$World", name := "turnInTruth", desc := "(LNinthStep$Mule;)Z" } : Jvm.MethodName) prog_9_method_6_code (3 : Nat) (Option.some Jvm.ClassFile.FieldType.boolean)) ∈ ns_TB := ns_tb (mt_4 (List.mem_of_getElem? (i := 209) rfl)) rfl
set_option maxRecDepth 20000 in
theorem tw_930 : (Jvm.Cond.methodLinkNest "NinthStep$World" (52 : Nat) ({ cls := "NinthStep$Mule", name := "makeTurn", desc := "(LNinthStep$Ground;)Z" } : Jvm.MethodName) "NinthStep") ∈ ns_NB := ns_nb (mt_4 (List.mem_of_getElem? (i := 210) (by decide +kernel))) rfl
set_option maxRecDepth 20000 in
theorem tw_935 : (Jvm.Cond.methodLinkNest "NinthStep" (326 : Nat) ({ cls := "NinthStep$World", name := "slipToEnd", desc := "(LNinthStep$Mule;)V" } : Jvm.MethodName) "NinthStep") ∈ ns_NB := ns_nb (mt_4 (List.mem_of_getElem? (i := 215) (by decide +kernel))) rfl
set_option maxRecDepth 20000 in
theorem tw_937 : (Jvm.Cond.instanceMethod ({ cls := "NinthStep$World", name := "slipToEnd", desc := "(LNinthStep$Mule;)V" } : Jvm.MethodName)) ∈ ns_TB := ns_tb (mt_4 (List.mem_of_getElem? (i := 217) (by decide +kernel))) rfl
set_option maxRecDepth 20000 in
theorem tw_938 : (Jvm.Cond.code ({ cls := "NinthStep$World", name := "slipToEnd", desc := "(LNinthStep$Mule;)V" } : Jvm.MethodName) prog_9_method_8_code (3 : Nat) (Option.none : Option Jvm.ClassFile.FieldType)) ∈ ns_TB := ns_tb (mt_4 (List.mem_of_getElem? (i := 218) rfl)) rfl
set_option maxRecDepth 20000 in
theorem tw_939 : (Jvm.Cond.methodLink "NinthStep$World" (76 : Nat) ({ cls := "NinthStep$World", name := "draw", desc := "(I)I" } : Jvm.MethodName)) ∈ ns_TB := ns_tb (mt_4 (List.mem_of_getElem? (i := 219) (by decide +kernel))) rfl
set_option maxRecDepth 20000 in
theorem tw_941 : (Jvm.Cond.instanceMethod ({ cls := "NinthStep$World", name := "draw", desc := "(I)I" } : Jvm.MethodName)) ∈ ns_TB := ns_tb (mt_4 (List.mem_of_getElem? (i := 221) (by decide +kernel))) rfl
set_option maxRecDepth 20000 in
theorem tw_942 : (Jvm.Cond.code ({ cls := "NinthStep$World", name := "draw", desc := "(I)I" } : Jvm.MethodName) prog_9_method_9_code (2 : Nat) (Option.some Jvm.ClassFile.FieldType.int)) ∈ ns_TB := ns_tb (mt_4 (List.mem_of_getElem? (i := 222) rfl)) rfl
set_option maxRecDepth 20000 in
theorem tw_943 : (Jvm.Cond.constant "NinthStep$World" (84 : Nat) (1103515245 : Int32)) ∈ ns_TB := ns_tb (mt_4 (List.mem_of_getElem? (i := 223) (by decide +kernel))) rfl
set_option maxRecDepth 20000 in
theorem tw_944 : (Jvm.Cond.methodLink "NinthStep$World" (80 : Nat) ({ cls := "NinthStep$World", name := "stepInTruth", desc := "(LNinthStep$Mule;I)V" } : Jvm.MethodName)) ∈ ns_TB := ns_tb (mt_4 (List.mem_of_getElem? (i := 224) (by decide +kernel))) rfl
set_option maxRecDepth 20000 in
theorem tw_965 : (Jvm.Cond.methodLink "NinthStep" (337 : Nat) ({ cls := "NinthStep", name := "shelvesInUse", desc := "()I" } : Jvm.MethodName)) ∈ ns_TB := ns_tb (mt_5 (List.mem_of_getElem? (i := 5) (by decide +kernel))) rfl
set_option maxRecDepth 20000 in
theorem tw_967 : (Jvm.Cond.instanceMethod ({ cls := "NinthStep", name := "shelvesInUse", desc := "()I" } : Jvm.MethodName)) ∈ ns_TB := ns_tb (mt_5 (List.mem_of_getElem? (i := 7) (by decide +kernel))) rfl
set_option maxRecDepth 20000 in
theorem tw_968 : (Jvm.Cond.code ({ cls := "NinthStep", name := "shelvesInUse", desc := "()I" } : Jvm.MethodName) prog_1_method_49_code (3 : Nat) (Option.some Jvm.ClassFile.FieldType.int)) ∈ ns_TB := ns_tb (mt_5 (List.mem_of_getElem? (i := 8) rfl)) rfl
set_option maxRecDepth 20000 in
theorem tw_975 : (Jvm.Cond.fieldLink "NinthStepModel" (7 : Nat) "NinthStepModel" "holding" "[I") ∈ ns_TB := ns_tb (mt_5 (List.mem_of_getElem? (i := 15) (by decide +kernel))) rfl
set_option maxRecDepth 20000 in
theorem tw_976 : (Jvm.Cond.fieldLink "NinthStepModel" (13 : Nat) "NinthStepModel" "rowLength" "[I") ∈ ns_TB := ns_tb (mt_5 (List.mem_of_getElem? (i := 16) (by decide +kernel))) rfl
set_option maxRecDepth 20000 in
theorem tw_977 : (Jvm.Cond.fieldLink "NinthStepModel" (16 : Nat) "NinthStepModel" "rowOf" "[J") ∈ ns_TB := ns_tb (mt_5 (List.mem_of_getElem? (i := 17) (by decide +kernel))) rfl
set_option maxRecDepth 20000 in
theorem tw_978 : (Jvm.Cond.fieldLink "NinthStepModel" (59 : Nat) "NinthStepModel" "end" "I") ∈ ns_TB := ns_tb (mt_5 (List.mem_of_getElem? (i := 18) (by decide +kernel))) rfl
set_option maxRecDepth 20000 in
theorem tw_979 : (Jvm.Cond.fieldLink "NinthStepModel" (20 : Nat) "NinthStepModel" "there" "[I") ∈ ns_TB := ns_tb (mt_5 (List.mem_of_getElem? (i := 19) (by decide +kernel))) rfl
set_option maxRecDepth 20000 in
theorem tw_980 : (Jvm.Cond.fieldLink "NinthStepModel" (66 : Nat) "NinthStepModel" "mules" "I") ∈ ns_TB := ns_tb (mt_5 (List.mem_of_getElem? (i := 20) (by decide +kernel))) rfl
set_option maxRecDepth 20000 in
theorem tw_981 : (Jvm.Cond.fieldLink "NinthStepModel" (23 : Nat) "NinthStepModel" "kind" "[I") ∈ ns_TB := ns_tb (mt_5 (List.mem_of_getElem? (i := 21) (by decide +kernel))) rfl
set_option maxRecDepth 20000 in
theorem tw_982 : (Jvm.Cond.fieldLink "NinthStepModel" (26 : Nat) "NinthStepModel" "number" "[I") ∈ ns_TB := ns_tb (mt_5 (List.mem_of_getElem? (i := 22) (by decide +kernel))) rfl
set_option maxRecDepth 20000 in
theorem tw_983 : (Jvm.Cond.fieldLink "NinthStepModel" (29 : Nat) "NinthStepModel" "place" "[I") ∈ ns_TB := ns_tb (mt_5 (List.mem_of_getElem? (i := 23) (by decide +kernel))) rfl
set_option maxRecDepth 20000 in
theorem tw_984 : (Jvm.Cond.fieldLink "NinthStepModel" (32 : Nat) "NinthStepModel" "count" "[I") ∈ ns_TB := ns_tb (mt_5 (List.mem_of_getElem? (i := 24) (by decide +kernel))) rfl
set_option maxRecDepth 20000 in
theorem tw_985 : (Jvm.Cond.fieldLink "NinthStepModel" (35 : Nat) "NinthStepModel" "rested" "[I") ∈ ns_TB := ns_tb (mt_5 (List.mem_of_getElem? (i := 25) (by decide +kernel))) rfl
set_option maxRecDepth 20000 in
theorem tw_986 : (Jvm.Cond.fieldLink "NinthStepModel" (38 : Nat) "NinthStepModel" "own" "[I") ∈ ns_TB := ns_tb (mt_5 (List.mem_of_getElem? (i := 26) (by decide +kernel))) rfl
set_option maxRecDepth 20000 in
theorem tw_987 : (Jvm.Cond.fieldLink "NinthStepModel" (119 : Nat) "NinthStepModel" "slip" "I") ∈ ns_TB := ns_tb (mt_5 (List.mem_of_getElem? (i := 27) (by decide +kernel))) rfl
set_option maxRecDepth 20000 in
theorem tw_988 : (Jvm.Cond.fieldLink "NinthStepModel" (249 : Nat) "NinthStepModel" "fell" "I") ∈ ns_TB := ns_tb (mt_5 (List.mem_of_getElem? (i := 28) (by decide +kernel))) rfl
set_option maxRecDepth 20000 in
theorem tw_989 : (Jvm.Cond.fieldLink "NinthStepModel" (63 : Nat) "NinthStepModel" "seed" "I") ∈ ns_TB := ns_tb (mt_5 (List.mem_of_getElem? (i := 29) (by decide +kernel))) rfl
set_option maxRecDepth 20000 in
theorem tw_990 : (Jvm.Cond.fieldLink "NinthStepModel" (122 : Nat) "NinthStepModel" "taped" "I") ∈ ns_TB := ns_tb (mt_5 (List.mem_of_getElem? (i := 30) (by decide +kernel))) rfl
set_option maxRecDepth 20000 in
theorem tw_991 : (Jvm.Cond.fieldLink "NinthStepModel" (41 : Nat) "NinthStepModel" "tape" "[I") ∈ ns_TB := ns_tb (mt_5 (List.mem_of_getElem? (i := 31) (by decide +kernel))) rfl
set_option maxRecDepth 20000 in
theorem tw_992 : (Jvm.Cond.fieldLink "NinthStepModel" (125 : Nat) "NinthStepModel" "at" "I") ∈ ns_TB := ns_tb (mt_5 (List.mem_of_getElem? (i := 32) (by decide +kernel))) rfl
set_option maxRecDepth 20000 in
theorem tw_993 : (Jvm.Cond.fieldLink "NinthStepModel" (128 : Nat) "NinthStepModel" "token" "I") ∈ ns_TB := ns_tb (mt_5 (List.mem_of_getElem? (i := 33) (by decide +kernel))) rfl
set_option maxRecDepth 20000 in
theorem tw_994 : (Jvm.Cond.fieldLink "NinthStepModel" (131 : Nat) "NinthStepModel" "sort" "I") ∈ ns_TB := ns_tb (mt_5 (List.mem_of_getElem? (i := 34) (by decide +kernel))) rfl
set_option maxRecDepth 20000 in
theorem tw_995 : (Jvm.Cond.fieldLink "NinthStepModel" (140 : Nat) "NinthStepModel" "value" "I") ∈ ns_TB := ns_tb (mt_5 (List.mem_of_getElem? (i := 35) (by decide +kernel))) rfl
set_option maxRecDepth 20000 in
theorem tw_996 : (Jvm.Cond.fieldLink "NinthStepModel" (44 : Nat) "NinthStepModel" "refusals" "[I") ∈ ns_TB := ns_tb (mt_5 (List.mem_of_getElem? (i := 36) (by decide +kernel))) rfl
set_option maxRecDepth 20000 in
theorem tw_997 : (Jvm.Cond.fieldLink "NinthStepModel" (262 : Nat) "NinthStepModel" "imaged" "Z") ∈ ns_TB := ns_tb (mt_5 (List.mem_of_getElem? (i := 37) (by decide +kernel))) rfl
set_option maxRecDepth 20000 in
theorem tw_998 : (Jvm.Cond.fieldLink "NinthStepModel" (47 : Nat) "NinthStepModel" "old" "[I") ∈ ns_TB := ns_tb (mt_5 (List.mem_of_getElem? (i := 38) (by decide +kernel))) rfl
set_option maxRecDepth 20000 in
theorem tw_999 : (Jvm.Cond.fieldLink "NinthStepModel" (50 : Nat) "NinthStepModel" "ahead" "[I") ∈ ns_TB := ns_tb (mt_5 (List.mem_of_getElem? (i := 39) (by decide +kernel))) rfl
set_option maxRecDepth 20000 in
theorem tw_1000 : (Jvm.Cond.fieldLink "NinthStepModel" (185 : Nat) "NinthStepModel" "goer" "I") ∈ ns_TB := ns_tb (mt_5 (List.mem_of_getElem? (i := 40) (by decide +kernel))) rfl
set_option maxRecDepth 20000 in
theorem tw_1001 : (Jvm.Cond.fieldLink "NinthStepModel" (188 : Nat) "NinthStepModel" "every" "I") ∈ ns_TB := ns_tb (mt_5 (List.mem_of_getElem? (i := 41) (by decide +kernel))) rfl
set_option maxRecDepth 20000 in
theorem tw_1002 : (Jvm.Cond.fieldLink "NinthStepModel" (191 : Nat) "NinthStepModel" "here" "I") ∈ ns_TB := ns_tb (mt_5 (List.mem_of_getElem? (i := 42) (by decide +kernel))) rfl
set_option maxRecDepth 20000 in
theorem tw_1003 : (Jvm.Cond.fieldLink "NinthStepModel" (194 : Nat) "NinthStepModel" "steps" "I") ∈ ns_TB := ns_tb (mt_5 (List.mem_of_getElem? (i := 43) (by decide +kernel))) rfl
set_option maxRecDepth 20000 in
theorem tw_1004 : (Jvm.Cond.fieldLink "NinthStepModel" (53 : Nat) "NinthStepModel" "fewest" "[I") ∈ ns_TB := ns_tb (mt_5 (List.mem_of_getElem? (i := 44) (by decide +kernel))) rfl
set_option maxRecDepth 20000 in
theorem tw_1005 : (Jvm.Cond.fieldLink "NinthStepModel" (56 : Nat) "NinthStepModel" "turned" "[I") ∈ ns_TB := ns_tb (mt_5 (List.mem_of_getElem? (i := 45) (by decide +kernel))) rfl
set_option maxRecDepth 20000 in
theorem tw_1073 : (Jvm.Cond.methodLink "NinthStepModel" (69 : Nat) ({ cls := "NinthStepModel", name := "within", desc := "(III)Z" } : Jvm.MethodName)) ∈ ns_TB := ns_tb (mt_5 (List.mem_of_getElem? (i := 113) (by decide +kernel))) rfl
set_option maxRecDepth 20000 in
theorem tw_1074 : (Jvm.Cond.static ({ cls := "NinthStepModel", name := "within", desc := "(III)Z" } : Jvm.MethodName)) ∈ ns_TB := ns_tb (mt_5 (List.mem_of_getElem? (i := 114) (by decide +kernel))) rfl
set_option maxRecDepth 20000 in
theorem tw_1075 : (Jvm.Cond.code ({ cls := "NinthStepModel", name := "within", desc := "(III)Z" } : Jvm.MethodName) prog_11_method_3_code (3 : Nat) (Option.some Jvm.ClassFile.FieldType.boolean)) ∈ ns_TB := ns_tb (mt_5 (List.mem_of_getElem? (i := 115) rfl)) rfl
set_option maxRecDepth 20000 in
theorem tw_1076 : (Jvm.Cond.methodLink "NinthStepModel" (73 : Nat) ({ cls := "NinthStepModel", name := "no", desc := "(I)I" } : Jvm.MethodName)) ∈ ns_TB := ns_tb (mt_5 (List.mem_of_getElem? (i := 116) (by decide +kernel))) rfl
set_option maxRecDepth 20000 in
theorem tw_1078 : (Jvm.Cond.instanceMethod ({ cls := "NinthStepModel", name := "no", desc := "(I)I" } : Jvm.MethodName)) ∈ ns_TB := ns_tb (mt_5 (List.mem_of_getElem? (i := 118) (by decide +kernel))) rfl
set_option maxRecDepth 20000 in
theorem tw_1079 : (Jvm.Cond.code ({ cls := "NinthStepModel", name := "no", desc := "(I)I" } : Jvm.MethodName) prog_11_method_2_code (2 : Nat) (Option.some Jvm.ClassFile.FieldType.int)) ∈ ns_TB := ns_tb (mt_5 (List.mem_of_getElem? (i := 119) rfl)) rfl
set_option maxRecDepth 20000 in
theorem tw_1084 : (Jvm.Cond.methodLink "NinthStepModel" (77 : Nat) ({ cls := "NinthStepModel", name := "noRow", desc := "(I)I" } : Jvm.MethodName)) ∈ ns_TB := ns_tb (mt_5 (List.mem_of_getElem? (i := 124) (by decide +kernel))) rfl
set_option maxRecDepth 20000 in
theorem tw_1086 : (Jvm.Cond.instanceMethod ({ cls := "NinthStepModel", name := "noRow", desc := "(I)I" } : Jvm.MethodName)) ∈ ns_TB := ns_tb (mt_5 (List.mem_of_getElem? (i := 126) (by decide +kernel))) rfl
set_option maxRecDepth 20000 in
theorem tw_1087 : (Jvm.Cond.code ({ cls := "NinthStepModel", name := "noRow", desc := "(I)I" } : Jvm.MethodName) prog_11_method_9_code (2 : Nat) (Option.some Jvm.ClassFile.FieldType.int)) ∈ ns_TB := ns_tb (mt_5 (List.mem_of_getElem? (i := 127) rfl)) rfl
set_option maxRecDepth 20000 in
theorem tw_1092 : (Jvm.Cond.methodLink "NinthStepModel" (80 : Nat) ({ cls := "NinthStepModel", name := "isRow", desc := "(I)Z" } : Jvm.MethodName)) ∈ ns_TB := ns_tb (mt_5 (List.mem_of_getElem? (i := 132) (by decide +kernel))) rfl
set_option maxRecDepth 20000 in
theorem tw_1094 : (Jvm.Cond.instanceMethod ({ cls := "NinthStepModel", name := "isRow", desc := "(I)Z" } : Jvm.MethodName)) ∈ ns_TB := ns_tb (mt_5 (List.mem_of_getElem? (i := 134) (by decide +kernel))) rfl
set_option maxRecDepth 20000 in
theorem tw_1095 : (Jvm.Cond.code ({ cls := "NinthStepModel", name := "isRow", desc := "(I)Z" } : Jvm.MethodName) prog_11_method_7_code (2 : Nat) (Option.some Jvm.ClassFile.FieldType.boolean)) ∈ ns_TB := ns_tb (mt_5 (List.mem_of_getElem? (i := 135) rfl)) rfl
set_option maxRecDepth 20000 in
theorem tw_1108 : (Jvm.Cond.methodLink "NinthStepModel" (84 : Nat) ({ cls := "NinthStepModel", name := "isMule", desc := "(I)Z" } : Jvm.MethodName)) ∈ ns_TB := ns_tb (mt_5 (List.mem_of_getElem? (i := 148) (by decide +kernel))) rfl
set_option maxRecDepth 20000 in
theorem tw_1110 : (Jvm.Cond.instanceMethod ({ cls := "NinthStepModel", name := "isMule", desc := "(I)Z" } : Jvm.MethodName)) ∈ ns_TB := ns_tb (mt_5 (List.mem_of_getElem? (i := 150) (by decide +kernel))) rfl
set_option maxRecDepth 20000 in
theorem tw_1111 : (Jvm.Cond.code ({ cls := "NinthStepModel", name := "isMule", desc := "(I)Z" } : Jvm.MethodName) prog_11_method_4_code (2 : Nat) (Option.some Jvm.ClassFile.FieldType.boolean)) ∈ ns_TB := ns_tb (mt_5 (List.mem_of_getElem? (i := 151) rfl)) rfl
set_option maxRecDepth 20000 in
theorem tw_1116 : (Jvm.Cond.methodLink "NinthStepModel" (91 : Nat) ({ cls := "NinthStepModel", name := "isUnder", desc := "(II)Z" } : Jvm.MethodName)) ∈ ns_TB := ns_tb (mt_5 (List.mem_of_getElem? (i := 156) (by decide +kernel))) rfl
set_option maxRecDepth 20000 in
theorem tw_1117 : (Jvm.Cond.static ({ cls := "NinthStepModel", name := "isUnder", desc := "(II)Z" } : Jvm.MethodName)) ∈ ns_TB := ns_tb (mt_5 (List.mem_of_getElem? (i := 157) (by decide +kernel))) rfl
set_option maxRecDepth 20000 in
theorem tw_1118 : (Jvm.Cond.code ({ cls := "NinthStepModel", name := "isUnder", desc := "(II)Z" } : Jvm.MethodName) prog_11_method_15_code (2 : Nat) (Option.some Jvm.ClassFile.FieldType.boolean)) ∈ ns_TB := ns_tb (mt_5 (List.mem_of_getElem? (i := 158) rfl)) rfl
set_option maxRecDepth 20000 in
theorem tw_1119 : (Jvm.Cond.methodLink "NinthStepModel" (94 : Nat) ({ cls := "NinthStepModel", name := "rest", desc := "(I)I" } : Jvm.MethodName)) ∈ ns_TB := ns_tb (mt_5 (List.mem_of_getElem? (i := 159) (by decide +kernel))) rfl
set_option maxRecDepth 20000 in
theorem tw_1121 : (Jvm.Cond.instanceMethod ({ cls := "NinthStepModel", name := "rest", desc := "(I)I" } : Jvm.MethodName)) ∈ ns_TB := ns_tb (mt_5 (List.mem_of_getElem? (i := 161) (by decide +kernel))) rfl
set_option maxRecDepth 20000 in
theorem tw_1122 : (Jvm.Cond.code ({ cls := "NinthStepModel", name := "rest", desc := "(I)I" } : Jvm.MethodName) prog_11_method_39_code (2 : Nat) (Option.some Jvm.ClassFile.FieldType.int)) ∈ ns_TB := ns_tb (mt_5 (List.mem_of_getElem? (i := 162) rfl)) rfl
set_option maxRecDepth 20000 in
theorem tw_1123 : (Jvm.Cond.methodLink "NinthStepModel" (97 : Nat) ({ cls := "NinthStepModel", name := "aheadOf", desc := "(II)I" } : Jvm.MethodName)) ∈ ns_TB := ns_tb (mt_5 (List.mem_of_getElem? (i := 163) (by decide +kernel))) rfl
set_option maxRecDepth 20000 in
theorem tw_1125 : (Jvm.Cond.instanceMethod ({ cls := "NinthStepModel", name := "aheadOf", desc := "(II)I" } : Jvm.MethodName)) ∈ ns_TB := ns_tb (mt_5 (List.mem_of_getElem? (i := 165) (by decide +kernel))) rfl
set_option maxRecDepth 20000 in
theorem tw_1126 : (Jvm.Cond.code ({ cls := "NinthStepModel", name := "aheadOf", desc := "(II)I" } : Jvm.MethodName) prog_11_method_16_code (5 : Nat) (Option.some Jvm.ClassFile.FieldType.int)) ∈ ns_TB := ns_tb (mt_5 (List.mem_of_getElem? (i := 166) rfl)) rfl
set_option maxRecDepth 20000 in
theorem tw_1127 : (Jvm.Cond.methodLink "NinthStepModel" (87 : Nat) ({ cls := "NinthStepModel", name := "isThere", desc := "(II)Z" } : Jvm.MethodName)) ∈ ns_TB := ns_tb (mt_5 (List.mem_of_getElem? (i := 167) (by decide +kernel))) rfl
set_option maxRecDepth 20000 in
theorem tw_1129 : (Jvm.Cond.instanceMethod ({ cls := "NinthStepModel", name := "isThere", desc := "(II)Z" } : Jvm.MethodName)) ∈ ns_TB := ns_tb (mt_5 (List.mem_of_getElem? (i := 169) (by decide +kernel))) rfl
set_option maxRecDepth 20000 in
theorem tw_1130 : (Jvm.Cond.code ({ cls := "NinthStepModel", name := "isThere", desc := "(II)Z" } : Jvm.MethodName) prog_11_method_6_code (3 : Nat) (Option.some Jvm.ClassFile.FieldType.boolean)) ∈ ns_TB := ns_tb (mt_5 (List.mem_of_getElem? (i := 170) rfl)) rfl
set_option maxRecDepth 20000 in
theorem tw_1135 : (Jvm.Cond.methodLink "NinthStepModel" (101 : Nat) ({ cls := "NinthStepModel", name := "highest", desc := "()I" } : Jvm.MethodName)) ∈ ns_TB := ns_tb (mt_5 (List.mem_of_getElem? (i := 175) (by decide +kernel))) rfl
set_option maxRecDepth 20000 in
theorem tw_1137 : (Jvm.Cond.instanceMethod ({ cls := "NinthStepModel", name := "highest", desc := "()I" } : Jvm.MethodName)) ∈ ns_TB := ns_tb (mt_5 (List.mem_of_getElem? (i := 177) (by decide +kernel))) rfl
set_option maxRecDepth 20000 in
theorem tw_1138 : (Jvm.Cond.code ({ cls := "NinthStepModel", name := "highest", desc := "()I" } : Jvm.MethodName) prog_11_method_18_code (3 : Nat) (Option.some Jvm.ClassFile.FieldType.int)) ∈ ns_TB := ns_tb (mt_5 (List.mem_of_getElem? (i := 178) rfl)) rfl
set_option maxRecDepth 20000 in
theorem tw_1139 : (Jvm.Cond.methodLink "NinthStepModel" (105 : Nat) ({ cls := "NinthStepModel", name := "longer", desc := "(I)V" } : Jvm.MethodName)) ∈ ns_TB := ns_tb (mt_5 (List.mem_of_getElem? (i := 179) (by decide +kernel))) rfl
set_option maxRecDepth 20000 in
theorem tw_1141 : (Jvm.Cond.instanceMethod ({ cls := "NinthStepModel", name := "longer", desc := "(I)V" } : Jvm.MethodName)) ∈ ns_TB := ns_tb (mt_5 (List.mem_of_getElem? (i := 181) (by decide +kernel))) rfl
set_option maxRecDepth 20000 in
theorem tw_1142 : (Jvm.Cond.code ({ cls := "NinthStepModel", name := "longer", desc := "(I)V" } : Jvm.MethodName) prog_11_method_19_code (3 : Nat) (Option.none : Option Jvm.ClassFile.FieldType)) ∈ ns_TB := ns_tb (mt_5 (List.mem_of_getElem? (i := 182) rfl)) rfl
set_option maxRecDepth 20000 in
theorem tw_1147 : (Jvm.Cond.methodLink "NinthStepModel" (109 : Nat) ({ cls := "NinthStepModel", name := "isPlace", desc := "(I)Z" } : Jvm.MethodName)) ∈ ns_TB := ns_tb (mt_5 (List.mem_of_getElem? (i := 187) (by decide +kernel))) rfl
set_option maxRecDepth 20000 in
theorem tw_1149 : (Jvm.Cond.instanceMethod ({ cls := "NinthStepModel", name := "isPlace", desc := "(I)Z" } : Jvm.MethodName)) ∈ ns_TB := ns_tb (mt_5 (List.mem_of_getElem? (i := 189) (by decide +kernel))) rfl
set_option maxRecDepth 20000 in
theorem tw_1150 : (Jvm.Cond.code ({ cls := "NinthStepModel", name := "isPlace", desc := "(I)Z" } : Jvm.MethodName) prog_11_method_5_code (2 : Nat) (Option.some Jvm.ClassFile.FieldType.boolean)) ∈ ns_TB := ns_tb (mt_5 (List.mem_of_getElem? (i := 190) rfl)) rfl
set_option maxRecDepth 20000 in
theorem tw_1151 : (Jvm.Cond.methodLink "NinthStepModel" (112 : Nat) ({ cls := "NinthStepModel", name := "canBe", desc := "(II)Z" } : Jvm.MethodName)) ∈ ns_TB := ns_tb (mt_5 (List.mem_of_getElem? (i := 191) (by decide +kernel))) rfl
set_option maxRecDepth 20000 in
theorem tw_1153 : (Jvm.Cond.instanceMethod ({ cls := "NinthStepModel", name := "canBe", desc := "(II)Z" } : Jvm.MethodName)) ∈ ns_TB := ns_tb (mt_5 (List.mem_of_getElem? (i := 193) (by decide +kernel))) rfl
set_option maxRecDepth 20000 in
theorem tw_1154 : (Jvm.Cond.code ({ cls := "NinthStepModel", name := "canBe", desc := "(II)Z" } : Jvm.MethodName) prog_11_method_21_code (3 : Nat) (Option.some Jvm.ClassFile.FieldType.boolean)) ∈ ns_TB := ns_tb (mt_5 (List.mem_of_getElem? (i := 194) rfl)) rfl
set_option maxRecDepth 20000 in
theorem tw_1159 : (Jvm.Cond.methodLink "NinthStepModel" (115 : Nat) ({ cls := "NinthStepModel", name := "newMule", desc := "(III)I" } : Jvm.MethodName)) ∈ ns_TB := ns_tb (mt_5 (List.mem_of_getElem? (i := 199) (by decide +kernel))) rfl
set_option maxRecDepth 20000 in
theorem tw_1161 : (Jvm.Cond.instanceMethod ({ cls := "NinthStepModel", name := "newMule", desc := "(III)I" } : Jvm.MethodName)) ∈ ns_TB := ns_tb (mt_5 (List.mem_of_getElem? (i := 201) (by decide +kernel))) rfl
set_option maxRecDepth 20000 in
theorem tw_1162 : (Jvm.Cond.code ({ cls := "NinthStepModel", name := "newMule", desc := "(III)I" } : Jvm.MethodName) prog_11_method_23_code (4 : Nat) (Option.some Jvm.ClassFile.FieldType.int)) ∈ ns_TB := ns_tb (mt_5 (List.mem_of_getElem? (i := 202) rfl)) rfl
set_option maxRecDepth 20000 in
theorem tw_1187 : (Jvm.Cond.methodLink "NinthStepModel" (174 : Nat) ({ cls := "NinthStepModel", name := "keep", desc := "([I)V" } : Jvm.MethodName)) ∈ ns_TB := ns_tb (mt_5 (List.mem_of_getElem? (i := 227) (by decide +kernel))) rfl
set_option maxRecDepth 20000 in
theorem tw_1189 : (Jvm.Cond.instanceMethod ({ cls := "NinthStepModel", name := "keep", desc := "([I)V" } : Jvm.MethodName)) ∈ ns_TB := ns_tb (mt_5 (List.mem_of_getElem? (i := 229) (by decide +kernel))) rfl
set_option maxRecDepth 20000 in
theorem tw_1190 : (Jvm.Cond.code ({ cls := "NinthStepModel", name := "keep", desc := "([I)V" } : Jvm.MethodName) prog_11_method_80_code (3 : Nat) (Option.none : Option Jvm.ClassFile.FieldType)) ∈ ns_TB := ns_tb (mt_5 (List.mem_of_getElem? (i := 230) rfl)) rfl
set_option maxRecDepth 20000 in
theorem tw_1191 : (Jvm.Cond.methodLink "NinthStepModel" (152 : Nat) ({ cls := "NinthStepModel", name := "next", desc := "()V" } : Jvm.MethodName)) ∈ ns_TB := ns_tb (mt_5 (List.mem_of_getElem? (i := 231) (by decide +kernel))) rfl
set_option maxRecDepth 20000 in
theorem tw_1193 : (Jvm.Cond.instanceMethod ({ cls := "NinthStepModel", name := "next", desc := "()V" } : Jvm.MethodName)) ∈ ns_TB := ns_tb (mt_5 (List.mem_of_getElem? (i := 233) (by decide +kernel))) rfl
set_option maxRecDepth 20000 in
theorem tw_1194 : (Jvm.Cond.code ({ cls := "NinthStepModel", name := "next", desc := "()V" } : Jvm.MethodName) prog_11_method_32_code (2 : Nat) (Option.none : Option Jvm.ClassFile.FieldType)) ∈ ns_TB := ns_tb (mt_5 (List.mem_of_getElem? (i := 234) rfl)) rfl
set_option maxRecDepth 20000 in
theorem tw_1195 : (Jvm.Cond.methodLink "NinthStepModel" (134 : Nat) ({ cls := "NinthStepModel", name := "isLetter", desc := "(I)Z" } : Jvm.MethodName)) ∈ ns_TB := ns_tb (mt_5 (List.mem_of_getElem? (i := 235) (by decide +kernel))) rfl
set_option maxRecDepth 20000 in
theorem tw_1196 : (Jvm.Cond.static ({ cls := "NinthStepModel", name := "isLetter", desc := "(I)Z" } : Jvm.MethodName)) ∈ ns_TB := ns_tb (mt_5 (List.mem_of_getElem? (i := 236) (by decide +kernel))) rfl
set_option maxRecDepth 20000 in
theorem tw_1197 : (Jvm.Cond.code ({ cls := "NinthStepModel", name := "isLetter", desc := "(I)Z" } : Jvm.MethodName) prog_11_method_30_code (1 : Nat) (Option.some Jvm.ClassFile.FieldType.boolean)) ∈ ns_TB := ns_tb (mt_5 (List.mem_of_getElem? (i := 237) rfl)) rfl
set_option maxRecDepth 20000 in
theorem tw_1198 : (Jvm.Cond.methodLink "NinthStepModel" (137 : Nat) ({ cls := "NinthStepModel", name := "isDigit", desc := "(I)Z" } : Jvm.MethodName)) ∈ ns_TB := ns_tb (mt_5 (List.mem_of_getElem? (i := 238) (by decide +kernel))) rfl
set_option maxRecDepth 20000 in
theorem tw_1199 : (Jvm.Cond.static ({ cls := "NinthStepModel", name := "isDigit", desc := "(I)Z" } : Jvm.MethodName)) ∈ ns_TB := ns_tb (mt_5 (List.mem_of_getElem? (i := 239) (by decide +kernel))) rfl
set_option maxRecDepth 20000 in
theorem tw_1200 : (Jvm.Cond.code ({ cls := "NinthStepModel", name := "isDigit", desc := "(I)Z" } : Jvm.MethodName) prog_11_method_31_code (1 : Nat) (Option.some Jvm.ClassFile.FieldType.boolean)) ∈ ns_TB := ns_tb (mt_6 (List.mem_of_getElem? (i := 0) rfl)) rfl
set_option maxRecDepth 20000 in
theorem tw_1201 : (Jvm.Cond.methodLink "NinthStepModel" (178 : Nat) ({ cls := "NinthStepModel", name := "statement", desc := "()Z" } : Jvm.MethodName)) ∈ ns_TB := ns_tb (mt_6 (List.mem_of_getElem? (i := 1) (by decide +kernel))) rfl
set_option maxRecDepth 20000 in
theorem tw_1203 : (Jvm.Cond.instanceMethod ({ cls := "NinthStepModel", name := "statement", desc := "()Z" } : Jvm.MethodName)) ∈ ns_TB := ns_tb (mt_6 (List.mem_of_getElem? (i := 3) (by decide +kernel))) rfl
set_option maxRecDepth 20000 in
theorem tw_1204 : (Jvm.Cond.code ({ cls := "NinthStepModel", name := "statement", desc := "()Z" } : Jvm.MethodName) prog_11_method_35_code (5 : Nat) (Option.some Jvm.ClassFile.FieldType.boolean)) ∈ ns_TB := ns_tb (mt_6 (List.mem_of_getElem? (i := 4) rfl)) rfl
set_option maxRecDepth 20000 in
theorem tw_1206 : (Jvm.Cond.methodLink "NinthStepModel" (156 : Nat) ({ cls := "NinthStepModel", name := "isWord", desc := "(Ljava/lang/String;)Z" } : Jvm.MethodName)) ∈ ns_TB := ns_tb (mt_6 (List.mem_of_getElem? (i := 6) (by decide +kernel))) rfl
set_option maxRecDepth 20000 in
theorem tw_1208 : (Jvm.Cond.instanceMethod ({ cls := "NinthStepModel", name := "isWord", desc := "(Ljava/lang/String;)Z" } : Jvm.MethodName)) ∈ ns_TB := ns_tb (mt_6 (List.mem_of_getElem? (i := 8) (by decide +kernel))) rfl
set_option maxRecDepth 20000 in
theorem tw_1209 : (Jvm.Cond.code ({ cls := "NinthStepModel", name := "isWord", desc := "(Ljava/lang/String;)Z" } : Jvm.MethodName) prog_11_method_33_code (3 : Nat) (Option.some Jvm.ClassFile.FieldType.boolean)) ∈ ns_TB := ns_tb (mt_6 (List.mem_of_getElem? (i := 9) rfl)) rfl
set_option maxRecDepth 20000 in
theorem tw_1210 : (Jvm.Cond.methodLink "NinthStepModel" (143 : Nat) ({ cls := "java/lang/String", name := "length", desc := "()I" } : Jvm.MethodName)) ∈ ns_TB := ns_tb (mt_6 (List.mem_of_getElem? (i := 10) (by decide +kernel))) rfl
set_option maxRecDepth 20000 in
theorem tw_1211 : (Jvm.Cond.methodLink "NinthStepModel" (148 : Nat) ({ cls := "java/lang/String", name := "charAt", desc := "(I)C" } : Jvm.MethodName)) ∈ ns_TB := ns_tb (mt_6 (List.mem_of_getElem? (i := 11) (by decide +kernel))) rfl
set_option maxRecDepth 20000 in
theorem tw_1212 : (Jvm.Cond.methodLink "NinthStepModel" (160 : Nat) ({ cls := "NinthStepModel", name := "number", desc := "(II)Z" } : Jvm.MethodName)) ∈ ns_TB := ns_tb (mt_6 (List.mem_of_getElem? (i := 12) (by decide +kernel))) rfl
set_option maxRecDepth 20000 in
theorem tw_1214 : (Jvm.Cond.instanceMethod ({ cls := "NinthStepModel", name := "number", desc := "(II)Z" } : Jvm.MethodName)) ∈ ns_TB := ns_tb (mt_6 (List.mem_of_getElem? (i := 14) (by decide +kernel))) rfl
set_option maxRecDepth 20000 in
theorem tw_1215 : (Jvm.Cond.code ({ cls := "NinthStepModel", name := "number", desc := "(II)Z" } : Jvm.MethodName) prog_11_method_34_code (3 : Nat) (Option.some Jvm.ClassFile.FieldType.boolean)) ∈ ns_TB := ns_tb (mt_6 (List.mem_of_getElem? (i := 15) rfl)) rfl
set_option maxRecDepth 20000 in
theorem tw_1223 : (Jvm.Cond.methodLink "NinthStepModel" (182 : Nat) ({ cls := "NinthStepModel", name := "again", desc := "([I)V" } : Jvm.MethodName)) ∈ ns_TB := ns_tb (mt_6 (List.mem_of_getElem? (i := 23) (by decide +kernel))) rfl
set_option maxRecDepth 20000 in
theorem tw_1225 : (Jvm.Cond.instanceMethod ({ cls := "NinthStepModel", name := "again", desc := "([I)V" } : Jvm.MethodName)) ∈ ns_TB := ns_tb (mt_6 (List.mem_of_getElem? (i := 25) (by decide +kernel))) rfl
set_option maxRecDepth 20000 in
theorem tw_1226 : (Jvm.Cond.code ({ cls := "NinthStepModel", name := "again", desc := "([I)V" } : Jvm.MethodName) prog_11_method_81_code (3 : Nat) (Option.none : Option Jvm.ClassFile.FieldType)) ∈ ns_TB := ns_tb (mt_6 (List.mem_of_getElem? (i := 26) rfl)) rfl
set_option maxRecDepth 20000 in
theorem tw_1239 : (Jvm.Cond.methodLink "NinthStepModel" (205 : Nat) ({ cls := "NinthStepModel", name := "begins", desc := "(I)V" } : Jvm.MethodName)) ∈ ns_TB := ns_tb (mt_6 (List.mem_of_getElem? (i := 39) (by decide +kernel))) rfl
set_option maxRecDepth 20000 in
theorem tw_1241 : (Jvm.Cond.instanceMethod ({ cls := "NinthStepModel", name := "begins", desc := "(I)V" } : Jvm.MethodName)) ∈ ns_TB := ns_tb (mt_6 (List.mem_of_getElem? (i := 41) (by decide +kernel))) rfl
set_option maxRecDepth 20000 in
theorem tw_1242 : (Jvm.Cond.code ({ cls := "NinthStepModel", name := "begins", desc := "(I)V" } : Jvm.MethodName) prog_11_method_40_code (2 : Nat) (Option.none : Option Jvm.ClassFile.FieldType)) ∈ ns_TB := ns_tb (mt_6 (List.mem_of_getElem? (i := 42) rfl)) rfl
set_option maxRecDepth 20000 in
theorem tw_1243 : (Jvm.Cond.methodLink "NinthStepModel" (208 : Nat) ({ cls := "NinthStepModel", name := "stepped", desc := "(Z)Z" } : Jvm.MethodName)) ∈ ns_TB := ns_tb (mt_6 (List.mem_of_getElem? (i := 43) (by decide +kernel))) rfl
set_option maxRecDepth 20000 in
theorem tw_1245 : (Jvm.Cond.instanceMethod ({ cls := "NinthStepModel", name := "stepped", desc := "(Z)Z" } : Jvm.MethodName)) ∈ ns_TB := ns_tb (mt_6 (List.mem_of_getElem? (i := 45) (by decide +kernel))) rfl
set_option maxRecDepth 20000 in
theorem tw_1246 : (Jvm.Cond.code ({ cls := "NinthStepModel", name := "stepped", desc := "(Z)Z" } : Jvm.MethodName) prog_11_method_42_code (3 : Nat) (Option.some Jvm.ClassFile.FieldType.boolean)) ∈ ns_TB := ns_tb (mt_6 (List.mem_of_getElem? (i := 46) rfl)) rfl
set_option maxRecDepth 20000 in
theorem tw_1247 : (Jvm.Cond.methodLink "NinthStepModel" (197 : Nat) ({ cls := "NinthStepModel", name := "stopsHere", desc := "()Z" } : Jvm.MethodName)) ∈ ns_TB := ns_tb (mt_6 (List.mem_of_getElem? (i := 47) (by decide +kernel))) rfl
set_option maxRecDepth 20000 in
theorem tw_1249 : (Jvm.Cond.instanceMethod ({ cls := "NinthStepModel", name := "stopsHere", desc := "()Z" } : Jvm.MethodName)) ∈ ns_TB := ns_tb (mt_6 (List.mem_of_getElem? (i := 49) (by decide +kernel))) rfl
set_option maxRecDepth 20000 in
theorem tw_1250 : (Jvm.Cond.code ({ cls := "NinthStepModel", name := "stopsHere", desc := "()Z" } : Jvm.MethodName) prog_11_method_41_code (1 : Nat) (Option.some Jvm.ClassFile.FieldType.boolean)) ∈ ns_TB := ns_tb (mt_6 (List.mem_of_getElem? (i := 50) rfl)) rfl
set_option maxRecDepth 20000 in
theorem tw_1251 : (Jvm.Cond.methodLink "NinthStepModel" (200 : Nat) ({ cls := "java/lang/Math", name := "min", desc := "(II)I" } : Jvm.MethodName)) ∈ ns_TB := ns_tb (mt_6 (List.mem_of_getElem? (i := 51) (by decide +kernel))) rfl
set_option maxRecDepth 20000 in
theorem tw_1256 : (Jvm.Cond.methodLink "NinthStepModel" (212 : Nat) ({ cls := "NinthStepModel", name := "minutesOf", desc := "(I)I" } : Jvm.MethodName)) ∈ ns_TB := ns_tb (mt_6 (List.mem_of_getElem? (i := 56) (by decide +kernel))) rfl
set_option maxRecDepth 20000 in
theorem tw_1258 : (Jvm.Cond.instanceMethod ({ cls := "NinthStepModel", name := "minutesOf", desc := "(I)I" } : Jvm.MethodName)) ∈ ns_TB := ns_tb (mt_6 (List.mem_of_getElem? (i := 58) (by decide +kernel))) rfl
set_option maxRecDepth 20000 in
theorem tw_1259 : (Jvm.Cond.code ({ cls := "NinthStepModel", name := "minutesOf", desc := "(I)I" } : Jvm.MethodName) prog_11_method_44_code (3 : Nat) (Option.some Jvm.ClassFile.FieldType.int)) ∈ ns_TB := ns_tb (mt_6 (List.mem_of_getElem? (i := 59) rfl)) rfl
set_option maxRecDepth 20000 in
theorem tw_1264 : (Jvm.Cond.methodLink "NinthStepModel" (215 : Nat) ({ cls := "NinthStepModel", name := "afterAll", desc := "(II)I" } : Jvm.MethodName)) ∈ ns_TB := ns_tb (mt_6 (List.mem_of_getElem? (i := 64) (by decide +kernel))) rfl
set_option maxRecDepth 20000 in
theorem tw_1266 : (Jvm.Cond.instanceMethod ({ cls := "NinthStepModel", name := "afterAll", desc := "(II)I" } : Jvm.MethodName)) ∈ ns_TB := ns_tb (mt_6 (List.mem_of_getElem? (i := 66) (by decide +kernel))) rfl
set_option maxRecDepth 20000 in
theorem tw_1267 : (Jvm.Cond.code ({ cls := "NinthStepModel", name := "afterAll", desc := "(II)I" } : Jvm.MethodName) prog_11_method_46_code (4 : Nat) (Option.some Jvm.ClassFile.FieldType.int)) ∈ ns_TB := ns_tb (mt_6 (List.mem_of_getElem? (i := 67) rfl)) rfl
set_option maxRecDepth 20000 in
theorem tw_1272 : (Jvm.Cond.methodLink "NinthStepModel" (221 : Nat) ({ cls := "NinthStepModel", name := "isGood", desc := "(I)Z" } : Jvm.MethodName)) ∈ ns_TB := ns_tb (mt_6 (List.mem_of_getElem? (i := 72) (by decide +kernel))) rfl
set_option maxRecDepth 20000 in
theorem tw_1274 : (Jvm.Cond.instanceMethod ({ cls := "NinthStepModel", name := "isGood", desc := "(I)Z" } : Jvm.MethodName)) ∈ ns_TB := ns_tb (mt_6 (List.mem_of_getElem? (i := 74) (by decide +kernel))) rfl
set_option maxRecDepth 20000 in
theorem tw_1275 : (Jvm.Cond.code ({ cls := "NinthStepModel", name := "isGood", desc := "(I)Z" } : Jvm.MethodName) prog_11_method_49_code (2 : Nat) (Option.some Jvm.ClassFile.FieldType.boolean)) ∈ ns_TB := ns_tb (mt_6 (List.mem_of_getElem? (i := 75) rfl)) rfl
set_option maxRecDepth 20000 in
theorem tw_1276 : (Jvm.Cond.methodLink "NinthStepModel" (218 : Nat) ({ cls := "NinthStepModel", name := "journey", desc := "(II)I" } : Jvm.MethodName)) ∈ ns_TB := ns_tb (mt_6 (List.mem_of_getElem? (i := 76) (by decide +kernel))) rfl
set_option maxRecDepth 20000 in
theorem tw_1278 : (Jvm.Cond.instanceMethod ({ cls := "NinthStepModel", name := "journey", desc := "(II)I" } : Jvm.MethodName)) ∈ ns_TB := ns_tb (mt_6 (List.mem_of_getElem? (i := 78) (by decide +kernel))) rfl
set_option maxRecDepth 20000 in
theorem tw_1279 : (Jvm.Cond.code ({ cls := "NinthStepModel", name := "journey", desc := "(II)I" } : Jvm.MethodName) prog_11_method_48_code (7 : Nat) (Option.some Jvm.ClassFile.FieldType.int)) ∈ ns_TB := ns_tb (mt_6 (List.mem_of_getElem? (i := 79) rfl)) rfl
set_option maxRecDepth 20000 in
theorem tw_1292 : (Jvm.Cond.methodLink "NinthStepModel" (228 : Nat) ({ cls := "NinthStepModel", name := "turnsOf", desc := "(I)I" } : Jvm.MethodName)) ∈ ns_TB := ns_tb (mt_6 (List.mem_of_getElem? (i := 92) (by decide +kernel))) rfl
set_option maxRecDepth 20000 in
theorem tw_1294 : (Jvm.Cond.instanceMethod ({ cls := "NinthStepModel", name := "turnsOf", desc := "(I)I" } : Jvm.MethodName)) ∈ ns_TB := ns_tb (mt_6 (List.mem_of_getElem? (i := 94) (by decide +kernel))) rfl
set_option maxRecDepth 20000 in
theorem tw_1295 : (Jvm.Cond.code ({ cls := "NinthStepModel", name := "turnsOf", desc := "(I)I" } : Jvm.MethodName) prog_11_method_54_code (11 : Nat) (Option.some Jvm.ClassFile.FieldType.int)) ∈ ns_TB := ns_tb (mt_6 (List.mem_of_getElem? (i := 95) rfl)) rfl
set_option maxRecDepth 20000 in
theorem tw_1296 : (Jvm.Cond.methodLink "NinthStepModel" (224 : Nat) ({ cls := "NinthStepModel", name := "turning", desc := "(IZ)I" } : Jvm.MethodName)) ∈ ns_TB := ns_tb (mt_6 (List.mem_of_getElem? (i := 96) (by decide +kernel))) rfl
set_option maxRecDepth 20000 in
theorem tw_1298 : (Jvm.Cond.instanceMethod ({ cls := "NinthStepModel", name := "turning", desc := "(IZ)I" } : Jvm.MethodName)) ∈ ns_TB := ns_tb (mt_6 (List.mem_of_getElem? (i := 98) (by decide +kernel))) rfl
set_option maxRecDepth 20000 in
theorem tw_1299 : (Jvm.Cond.code ({ cls := "NinthStepModel", name := "turning", desc := "(IZ)I" } : Jvm.MethodName) prog_11_method_53_code (12 : Nat) (Option.some Jvm.ClassFile.FieldType.int)) ∈ ns_TB := ns_tb (mt_6 (List.mem_of_getElem? (i := 99) rfl)) rfl
set_option maxRecDepth 20000 in
theorem tw_1304 : (Jvm.Cond.methodLink "NinthStepModel" (231 : Nat) ({ cls := "java/lang/Math", name := "max", desc := "(II)I" } : Jvm.MethodName)) ∈ ns_TB := ns_tb (mt_6 (List.mem_of_getElem? (i := 104) (by decide +kernel))) rfl
set_option maxRecDepth 20000 in
theorem tw_1305 : (Jvm.Cond.methodLink "NinthStepModel" (234 : Nat) ({ cls := "NinthStepModel", name := "stopsAt", desc := "(III)Z" } : Jvm.MethodName)) ∈ ns_TB := ns_tb (mt_6 (List.mem_of_getElem? (i := 105) (by decide +kernel))) rfl
set_option maxRecDepth 20000 in
theorem tw_1307 : (Jvm.Cond.instanceMethod ({ cls := "NinthStepModel", name := "stopsAt", desc := "(III)Z" } : Jvm.MethodName)) ∈ ns_TB := ns_tb (mt_6 (List.mem_of_getElem? (i := 107) (by decide +kernel))) rfl
set_option maxRecDepth 20000 in
theorem tw_1308 : (Jvm.Cond.code ({ cls := "NinthStepModel", name := "stopsAt", desc := "(III)Z" } : Jvm.MethodName) prog_11_method_56_code (5 : Nat) (Option.some Jvm.ClassFile.FieldType.boolean)) ∈ ns_TB := ns_tb (mt_6 (List.mem_of_getElem? (i := 108) rfl)) rfl
set_option maxRecDepth 20000 in
theorem tw_1325 : (Jvm.Cond.methodLink "NinthStepModel" (237 : Nat) ({ cls := "NinthStepModel", name := "crowdAt", desc := "(I)I" } : Jvm.MethodName)) ∈ ns_TB := ns_tb (mt_6 (List.mem_of_getElem? (i := 125) (by decide +kernel))) rfl
set_option maxRecDepth 20000 in
theorem tw_1327 : (Jvm.Cond.instanceMethod ({ cls := "NinthStepModel", name := "crowdAt", desc := "(I)I" } : Jvm.MethodName)) ∈ ns_TB := ns_tb (mt_6 (List.mem_of_getElem? (i := 127) (by decide +kernel))) rfl
set_option maxRecDepth 20000 in
theorem tw_1328 : (Jvm.Cond.code ({ cls := "NinthStepModel", name := "crowdAt", desc := "(I)I" } : Jvm.MethodName) prog_11_method_61_code (4 : Nat) (Option.some Jvm.ClassFile.FieldType.int)) ∈ ns_TB := ns_tb (mt_6 (List.mem_of_getElem? (i := 128) rfl)) rfl
set_option maxRecDepth 20000 in
theorem tw_1337 : (Jvm.Cond.methodLink "NinthStepModel" (243 : Nat) ({ cls := "NinthStepModel", name := "newStones", desc := "()I" } : Jvm.MethodName)) ∈ ns_TB := ns_tb (mt_6 (List.mem_of_getElem? (i := 137) (by decide +kernel))) rfl
set_option maxRecDepth 20000 in
theorem tw_1339 : (Jvm.Cond.instanceMethod ({ cls := "NinthStepModel", name := "newStones", desc := "()I" } : Jvm.MethodName)) ∈ ns_TB := ns_tb (mt_6 (List.mem_of_getElem? (i := 139) (by decide +kernel))) rfl
set_option maxRecDepth 20000 in
theorem tw_1340 : (Jvm.Cond.code ({ cls := "NinthStepModel", name := "newStones", desc := "()I" } : Jvm.MethodName) prog_11_method_65_code (4 : Nat) (Option.some Jvm.ClassFile.FieldType.int)) ∈ ns_TB := ns_tb (mt_6 (List.mem_of_getElem? (i := 140) rfl)) rfl
set_option maxRecDepth 20000 in
theorem tw_1341 : (Jvm.Cond.methodLink "NinthStepModel" (240 : Nat) ({ cls := "NinthStepModel", name := "noneFalls", desc := "()Z" } : Jvm.MethodName)) ∈ ns_TB := ns_tb (mt_6 (List.mem_of_getElem? (i := 141) (by decide +kernel))) rfl
set_option maxRecDepth 20000 in
theorem tw_1343 : (Jvm.Cond.instanceMethod ({ cls := "NinthStepModel", name := "noneFalls", desc := "()Z" } : Jvm.MethodName)) ∈ ns_TB := ns_tb (mt_6 (List.mem_of_getElem? (i := 143) (by decide +kernel))) rfl
set_option maxRecDepth 20000 in
theorem tw_1344 : (Jvm.Cond.code ({ cls := "NinthStepModel", name := "noneFalls", desc := "()Z" } : Jvm.MethodName) prog_11_method_64_code (2 : Nat) (Option.some Jvm.ClassFile.FieldType.boolean)) ∈ ns_TB := ns_tb (mt_6 (List.mem_of_getElem? (i := 144) rfl)) rfl
set_option maxRecDepth 20000 in
theorem tw_1353 : (Jvm.Cond.constant "NinthStepModel" (246 : Nat) (1000000 : Int32)) ∈ ns_TB := ns_tb (mt_6 (List.mem_of_getElem? (i := 153) (by decide +kernel))) rfl
set_option maxRecDepth 20000 in
theorem tw_1354 : (Jvm.Cond.constantLong "NinthStepModel" (247 : Nat) (1000 : Int64)) ∈ ns_TB := ns_tb (mt_6 (List.mem_of_getElem? (i := 154) (by decide +kernel))) rfl
set_option maxRecDepth 20000 in
theorem tw_1371 : (Jvm.Cond.methodLink "NinthStepModel" (252 : Nat) ({ cls := "NinthStepModel", name := "rests", desc := "(I)V" } : Jvm.MethodName)) ∈ ns_TB := ns_tb (mt_6 (List.mem_of_getElem? (i := 171) (by decide +kernel))) rfl
set_option maxRecDepth 20000 in
theorem tw_1373 : (Jvm.Cond.instanceMethod ({ cls := "NinthStepModel", name := "rests", desc := "(I)V" } : Jvm.MethodName)) ∈ ns_TB := ns_tb (mt_6 (List.mem_of_getElem? (i := 173) (by decide +kernel))) rfl
set_option maxRecDepth 20000 in
theorem tw_1374 : (Jvm.Cond.code ({ cls := "NinthStepModel", name := "rests", desc := "(I)V" } : Jvm.MethodName) prog_11_method_73_code (2 : Nat) (Option.none : Option Jvm.ClassFile.FieldType)) ∈ ns_TB := ns_tb (mt_6 (List.mem_of_getElem? (i := 174) rfl)) rfl
set_option maxRecDepth 20000 in
theorem tw_1375 : (Jvm.Cond.methodLink "NinthStepModel" (255 : Nat) ({ cls := "NinthStepModel", name := "stays", desc := "(I)V" } : Jvm.MethodName)) ∈ ns_TB := ns_tb (mt_6 (List.mem_of_getElem? (i := 175) (by decide +kernel))) rfl
set_option maxRecDepth 20000 in
theorem tw_1377 : (Jvm.Cond.instanceMethod ({ cls := "NinthStepModel", name := "stays", desc := "(I)V" } : Jvm.MethodName)) ∈ ns_TB := ns_tb (mt_6 (List.mem_of_getElem? (i := 177) (by decide +kernel))) rfl
set_option maxRecDepth 20000 in
theorem tw_1378 : (Jvm.Cond.code ({ cls := "NinthStepModel", name := "stays", desc := "(I)V" } : Jvm.MethodName) prog_11_method_72_code (2 : Nat) (Option.none : Option Jvm.ClassFile.FieldType)) ∈ ns_TB := ns_tb (mt_6 (List.mem_of_getElem? (i := 178) rfl)) rfl
set_option maxRecDepth 20000 in
theorem tw_1387 : (Jvm.Cond.methodLink "NinthStepModel" (259 : Nat) ({ cls := "NinthStepModel", name := "draw", desc := "(I)I" } : Jvm.MethodName)) ∈ ns_TB := ns_tb (mt_6 (List.mem_of_getElem? (i := 187) (by decide +kernel))) rfl
set_option maxRecDepth 20000 in
theorem tw_1389 : (Jvm.Cond.instanceMethod ({ cls := "NinthStepModel", name := "draw", desc := "(I)I" } : Jvm.MethodName)) ∈ ns_TB := ns_tb (mt_6 (List.mem_of_getElem? (i := 189) (by decide +kernel))) rfl
set_option maxRecDepth 20000 in
theorem tw_1390 : (Jvm.Cond.code ({ cls := "NinthStepModel", name := "draw", desc := "(I)I" } : Jvm.MethodName) prog_11_method_76_code (2 : Nat) (Option.some Jvm.ClassFile.FieldType.int)) ∈ ns_TB := ns_tb (mt_6 (List.mem_of_getElem? (i := 190) rfl)) rfl
set_option maxRecDepth 20000 in
theorem tw_1391 : (Jvm.Cond.constant "NinthStepModel" (258 : Nat) (1103515245 : Int32)) ∈ ns_TB := ns_tb (mt_6 (List.mem_of_getElem? (i := 191) (by decide +kernel))) rfl
set_option maxRecDepth 20000 in
theorem tw_1412 : (Jvm.Cond.methodLink "NinthStepModel" (266 : Nat) ({ cls := "NinthStepModel", name := "those", desc := "(I)I" } : Jvm.MethodName)) ∈ ns_TB := ns_tb (mt_6 (List.mem_of_getElem? (i := 212) (by decide +kernel))) rfl
set_option maxRecDepth 20000 in
theorem tw_1414 : (Jvm.Cond.instanceMethod ({ cls := "NinthStepModel", name := "those", desc := "(I)I" } : Jvm.MethodName)) ∈ ns_TB := ns_tb (mt_6 (List.mem_of_getElem? (i := 214) (by decide +kernel))) rfl
set_option maxRecDepth 20000 in
theorem tw_1415 : (Jvm.Cond.code ({ cls := "NinthStepModel", name := "those", desc := "(I)I" } : Jvm.MethodName) prog_11_method_84_code (4 : Nat) (Option.some Jvm.ClassFile.FieldType.int)) ∈ ns_TB := ns_tb (mt_6 (List.mem_of_getElem? (i := 215) rfl)) rfl
set_option maxRecDepth 20000 in
theorem tw_1417 : (Jvm.Cond.fieldLink "java/lang/String" (9 : Nat) "java/lang/String" "value" "[B") ∈ ns_TB := ns_tb (mt_6 (List.mem_of_getElem? (i := 217) (by decide +kernel))) rfl
set_option maxRecDepth 20000 in
theorem tw_1418 : (Jvm.Cond.fieldLink "java/lang/String" (15 : Nat) "java/lang/String" "coder" "B") ∈ ns_TB := ns_tb (mt_6 (List.mem_of_getElem? (i := 218) (by decide +kernel))) rfl
theorem ts_0 : Jvm.Cond.selects "NinthStep" (⟨"NinthStep", "shelfAt", "(I)LNinthStep$Shelf;"⟩ : MethodName) (⟨"NinthStep", "shelfAt", "(I)LNinthStep$Shelf;"⟩ : MethodName) ∈ ns_TB := ns_tbS (List.mem_of_getElem? (i := 0) (by decide +kernel)) rfl
theorem ts_1 : Jvm.Cond.selects "NinthStep" (⟨"NinthStep", "refuse", "(I)I"⟩ : MethodName) (⟨"NinthStep", "refuse", "(I)I"⟩ : MethodName) ∈ ns_TB := ns_tbS (List.mem_of_getElem? (i := 1) (by decide +kernel)) rfl
theorem ts_2 : Jvm.Cond.selects "NinthStep$Shelf" (⟨"NinthStep$Shelf", "holdRow", "(II)V"⟩ : MethodName) (⟨"NinthStep$Shelf", "holdRow", "(II)V"⟩ : MethodName) ∈ ns_TB := ns_tbS (List.mem_of_getElem? (i := 2) (by decide +kernel)) rfl
theorem ts_3 : Jvm.Cond.selects "NinthStep$Shelf" (⟨"NinthStep$Shelf", "troubleAsRow", "()I"⟩ : MethodName) (⟨"NinthStep$Shelf", "troubleAsRow", "()I"⟩ : MethodName) ∈ ns_TB := ns_tbS (List.mem_of_getElem? (i := 3) (by decide +kernel)) rfl
theorem ts_4 : Jvm.Cond.selects "NinthStep$Shelf" (⟨"NinthStep$Shelf", "putCell", "(IJ)V"⟩ : MethodName) (⟨"NinthStep$Shelf", "putCell", "(IJ)V"⟩ : MethodName) ∈ ns_TB := ns_tbS (List.mem_of_getElem? (i := 4) (by decide +kernel)) rfl
theorem ts_5 : Jvm.Cond.selects "NinthStep$Shelf" (⟨"NinthStep$Shelf", "lowestBits", "(J)J"⟩ : MethodName) (⟨"NinthStep$Shelf", "lowestBits", "(J)J"⟩ : MethodName) ∈ ns_TB := ns_tbS (List.mem_of_getElem? (i := 5) (by decide +kernel)) rfl
theorem ts_6 : Jvm.Cond.selects "NinthStep$Shelf" (⟨"NinthStep$Shelf", "cellAt", "(I)J"⟩ : MethodName) (⟨"NinthStep$Shelf", "cellAt", "(I)J"⟩ : MethodName) ∈ ns_TB := ns_tbS (List.mem_of_getElem? (i := 6) (by decide +kernel)) rfl
theorem ts_7 : Jvm.Cond.selects "NinthStep$World" (⟨"NinthStep$World", "muleAt", "(I)LNinthStep$Mule;"⟩ : MethodName) (⟨"NinthStep$World", "muleAt", "(I)LNinthStep$Mule;"⟩ : MethodName) ∈ ns_TB := ns_tbS (List.mem_of_getElem? (i := 7) (by decide +kernel)) rfl
theorem ts_8 : Jvm.Cond.selects "NinthStep" (⟨"NinthStep", "saidAs", "(LNinthStep$Mule;I)I"⟩ : MethodName) (⟨"NinthStep", "saidAs", "(LNinthStep$Mule;I)I"⟩ : MethodName) ∈ ns_TB := ns_tbS (List.mem_of_getElem? (i := 8) (by decide +kernel)) rfl
theorem ts_9 : Jvm.Cond.selects "NinthStep$Ground" (⟨"NinthStep$Ground", "highest", "()I"⟩ : MethodName) (⟨"NinthStep$Ground", "highest", "()I"⟩ : MethodName) ∈ ns_TB := ns_tbS (List.mem_of_getElem? (i := 9) (by decide +kernel)) rfl
theorem ts_10 : Jvm.Cond.selects "NinthStep" (⟨"NinthStep", "isPlace", "(I)Z"⟩ : MethodName) (⟨"NinthStep", "isPlace", "(I)Z"⟩ : MethodName) ∈ ns_TB := ns_tbS (List.mem_of_getElem? (i := 10) (by decide +kernel)) rfl
theorem ts_11 : Jvm.Cond.selects "NinthStep$Ground" (⟨"NinthStep$Ground", "forbids", "(II)Z"⟩ : MethodName) (⟨"NinthStep$Ground", "forbids", "(II)Z"⟩ : MethodName) ∈ ns_TB := ns_tbS (List.mem_of_getElem? (i := 11) (by decide +kernel)) rfl
theorem ts_12 : Jvm.Cond.selects "NinthStep$Ground" (⟨"NinthStep$Ground", "allOf", "(I)J"⟩ : MethodName) (⟨"NinthStep$Ground", "allOf", "(I)J"⟩ : MethodName) ∈ ns_TB := ns_tbS (List.mem_of_getElem? (i := 12) (by decide +kernel)) rfl
theorem ts_13 : Jvm.Cond.selects "NinthStep$Ground" (⟨"NinthStep$Ground", "mark", "(IIZ)V"⟩ : MethodName) (⟨"NinthStep$Ground", "mark", "(IIZ)V"⟩ : MethodName) ∈ ns_TB := ns_tbS (List.mem_of_getElem? (i := 13) (by decide +kernel)) rfl
theorem ts_14 : Jvm.Cond.selects "NinthStep$World" (⟨"NinthStep$World", "newMule", "()LNinthStep$Mule;"⟩ : MethodName) (⟨"NinthStep$World", "newMule", "()LNinthStep$Mule;"⟩ : MethodName) ∈ ns_TB := ns_tbS (List.mem_of_getElem? (i := 14) (by decide +kernel)) rfl
theorem ts_15 : Jvm.Cond.selects "NinthStep$Mule" (⟨"NinthStep$Mule", "become", "(III)V"⟩ : MethodName) (⟨"NinthStep$Mule", "become", "(III)V"⟩ : MethodName) ∈ ns_TB := ns_tbS (List.mem_of_getElem? (i := 15) (by decide +kernel)) rfl
theorem ts_16 : Jvm.Cond.selects "NinthStep$Tape" (⟨"NinthStep$Tape", "append", "(I)Z"⟩ : MethodName) (⟨"NinthStep$Tape", "append", "(I)Z"⟩ : MethodName) ∈ ns_TB := ns_tbS (List.mem_of_getElem? (i := 16) (by decide +kernel)) rfl
theorem ts_17 : Jvm.Cond.selects "NinthStep$World" (⟨"NinthStep$World", "takeFrom", "(LNinthStep$World;)V"⟩ : MethodName) (⟨"NinthStep$World", "takeFrom", "(LNinthStep$World;)V"⟩ : MethodName) ∈ ns_TB := ns_tbS (List.mem_of_getElem? (i := 17) (by decide +kernel)) rfl
theorem ts_18 : Jvm.Cond.selects "NinthStep$Ground" (⟨"NinthStep$Ground", "takeFrom", "(LNinthStep$Ground;)V"⟩ : MethodName) (⟨"NinthStep$Ground", "takeFrom", "(LNinthStep$Ground;)V"⟩ : MethodName) ∈ ns_TB := ns_tbS (List.mem_of_getElem? (i := 18) (by decide +kernel)) rfl
theorem ts_19 : Jvm.Cond.selects "NinthStep$Mule" (⟨"NinthStep$Mule", "takeFrom", "(LNinthStep$Mule;)V"⟩ : MethodName) (⟨"NinthStep$Mule", "takeFrom", "(LNinthStep$Mule;)V"⟩ : MethodName) ∈ ns_TB := ns_tbS (List.mem_of_getElem? (i := 19) (by decide +kernel)) rfl
theorem ts_20 : Jvm.Cond.selects "NinthStep$Tape" (⟨"NinthStep$Tape", "readInto", "(LNinthStep$World;)I"⟩ : MethodName) (⟨"NinthStep$Tape", "readInto", "(LNinthStep$World;)I"⟩ : MethodName) ∈ ns_TB := ns_tbS (List.mem_of_getElem? (i := 20) (by decide +kernel)) rfl
theorem ts_21 : Jvm.Cond.selects "NinthStep$Tape" (⟨"NinthStep$Tape", "nextToken", "()V"⟩ : MethodName) (⟨"NinthStep$Tape", "nextToken", "()V"⟩ : MethodName) ∈ ns_TB := ns_tbS (List.mem_of_getElem? (i := 21) (by decide +kernel)) rfl
theorem ts_22 : Jvm.Cond.selects "NinthStep$Tape" (⟨"NinthStep$Tape", "readStatement", "(LNinthStep$World;)V"⟩ : MethodName) (⟨"NinthStep$Tape", "readStatement", "(LNinthStep$World;)V"⟩ : MethodName) ∈ ns_TB := ns_tbS (List.mem_of_getElem? (i := 22) (by decide +kernel)) rfl
theorem ts_23 : Jvm.Cond.selects "NinthStep$Tape" (⟨"NinthStep$Tape", "isWord", "(Ljava/lang/String;)Z"⟩ : MethodName) (⟨"NinthStep$Tape", "isWord", "(Ljava/lang/String;)Z"⟩ : MethodName) ∈ ns_TB := ns_tbS (List.mem_of_getElem? (i := 23) (by decide +kernel)) rfl
theorem ts_24 : Jvm.Cond.selects "NinthStep$Tape" (⟨"NinthStep$Tape", "readLength", "(LNinthStep$World;)V"⟩ : MethodName) (⟨"NinthStep$Tape", "readLength", "(LNinthStep$World;)V"⟩ : MethodName) ∈ ns_TB := ns_tbS (List.mem_of_getElem? (i := 24) (by decide +kernel)) rfl
theorem ts_25 : Jvm.Cond.selects "NinthStep$Tape" (⟨"NinthStep$Tape", "takeNumber", "(II)I"⟩ : MethodName) (⟨"NinthStep$Tape", "takeNumber", "(II)I"⟩ : MethodName) ∈ ns_TB := ns_tbS (List.mem_of_getElem? (i := 25) (by decide +kernel)) rfl
theorem ts_26 : Jvm.Cond.selects "NinthStep$Tape" (⟨"NinthStep$Tape", "numberRead", "()I"⟩ : MethodName) (⟨"NinthStep$Tape", "numberRead", "()I"⟩ : MethodName) ∈ ns_TB := ns_tbS (List.mem_of_getElem? (i := 26) (by decide +kernel)) rfl
theorem ts_27 : Jvm.Cond.selects "NinthStep$Tape" (⟨"NinthStep$Tape", "readMark", "(LNinthStep$Ground;I)V"⟩ : MethodName) (⟨"NinthStep$Tape", "readMark", "(LNinthStep$Ground;I)V"⟩ : MethodName) ∈ ns_TB := ns_tbS (List.mem_of_getElem? (i := 27) (by decide +kernel)) rfl
theorem ts_28 : Jvm.Cond.selects "NinthStep$Tape" (⟨"NinthStep$Tape", "readMule", "(LNinthStep$World;)V"⟩ : MethodName) (⟨"NinthStep$Tape", "readMule", "(LNinthStep$World;)V"⟩ : MethodName) ∈ ns_TB := ns_tbS (List.mem_of_getElem? (i := 28) (by decide +kernel)) rfl
theorem ts_29 : Jvm.Cond.selects "NinthStep" (⟨"NinthStep", "stopsOf", "(LNinthStep$Mule;)J"⟩ : MethodName) (⟨"NinthStep", "stopsOf", "(LNinthStep$Mule;)J"⟩ : MethodName) ∈ ns_TB := ns_tbS (List.mem_of_getElem? (i := 29) (by decide +kernel)) rfl
theorem ts_30 : Jvm.Cond.selects "NinthStep" (⟨"NinthStep", "stopsBy", "(LNinthStep$Mule;III)J"⟩ : MethodName) (⟨"NinthStep", "stopsBy", "(LNinthStep$Mule;III)J"⟩ : MethodName) ∈ ns_TB := ns_tbS (List.mem_of_getElem? (i := 30) (by decide +kernel)) rfl
theorem ts_31 : Jvm.Cond.selects "NinthStep$Mule" (⟨"NinthStep$Mule", "standAt", "(III)V"⟩ : MethodName) (⟨"NinthStep$Mule", "standAt", "(III)V"⟩ : MethodName) ∈ ns_TB := ns_tbS (List.mem_of_getElem? (i := 31) (by decide +kernel)) rfl
theorem ts_32 : Jvm.Cond.selects "NinthStep$Mule" (⟨"NinthStep$Mule", "makeStep", "(LNinthStep$Ground;I)Z"⟩ : MethodName) (⟨"NinthStep$Mule", "makeStep", "(LNinthStep$Ground;I)Z"⟩ : MethodName) ∈ ns_TB := ns_tbS (List.mem_of_getElem? (i := 32) (by decide +kernel)) rfl
theorem ts_33 : Jvm.Cond.selects "NinthStep$Mule" (⟨"NinthStep$Mule", "mayStop", "(LNinthStep$Ground;)Z"⟩ : MethodName) (⟨"NinthStep$Mule", "mayStop", "(LNinthStep$Ground;)Z"⟩ : MethodName) ∈ ns_TB := ns_tbS (List.mem_of_getElem? (i := 33) (by decide +kernel)) rfl
theorem ts_34 : Jvm.Cond.selects "NinthStep" (⟨"NinthStep", "minutesOf", "(LNinthStep$Mule;)I"⟩ : MethodName) (⟨"NinthStep", "minutesOf", "(LNinthStep$Mule;)I"⟩ : MethodName) ∈ ns_TB := ns_tbS (List.mem_of_getElem? (i := 34) (by decide +kernel)) rfl
theorem ts_35 : Jvm.Cond.selects "NinthStep$Mule" (⟨"NinthStep$Mule", "arrival", "(IJ)I"⟩ : MethodName) (⟨"NinthStep$Mule", "arrival", "(IJ)I"⟩ : MethodName) ∈ ns_TB := ns_tbS (List.mem_of_getElem? (i := 35) (by decide +kernel)) rfl
theorem ts_36 : Jvm.Cond.selects "NinthStep" (⟨"NinthStep", "isGood", "(IJ)Z"⟩ : MethodName) (⟨"NinthStep", "isGood", "(IJ)Z"⟩ : MethodName) ∈ ns_TB := ns_tbS (List.mem_of_getElem? (i := 36) (by decide +kernel)) rfl
theorem ts_37 : Jvm.Cond.selects "NinthStep" (⟨"NinthStep", "viewsMissed", "(IJ)J"⟩ : MethodName) (⟨"NinthStep", "viewsMissed", "(IJ)J"⟩ : MethodName) ∈ ns_TB := ns_tbS (List.mem_of_getElem? (i := 37) (by decide +kernel)) rfl
theorem ts_38 : Jvm.Cond.selects "NinthStep$TurnPlan" (⟨"NinthStep$TurnPlan", "make", "(LNinthStep$Mule;LNinthStep$Ground;)I"⟩ : MethodName) (⟨"NinthStep$TurnPlan", "make", "(LNinthStep$Mule;LNinthStep$Ground;)I"⟩ : MethodName) ∈ ns_TB := ns_tbS (List.mem_of_getElem? (i := 38) (by decide +kernel)) rfl
theorem ts_39 : Jvm.Cond.selects "NinthStep$Mule" (⟨"NinthStep$Mule", "cappedCount", "()I"⟩ : MethodName) (⟨"NinthStep$Mule", "cappedCount", "()I"⟩ : MethodName) ∈ ns_TB := ns_tbS (List.mem_of_getElem? (i := 39) (by decide +kernel)) rfl
theorem ts_40 : Jvm.Cond.selects "NinthStep$TurnPlan" (⟨"NinthStep$TurnPlan", "hasSeen", "(II)Z"⟩ : MethodName) (⟨"NinthStep$TurnPlan", "hasSeen", "(II)Z"⟩ : MethodName) ∈ ns_TB := ns_tbS (List.mem_of_getElem? (i := 40) (by decide +kernel)) rfl
theorem ts_41 : Jvm.Cond.selects "NinthStep$TurnPlan" (⟨"NinthStep$TurnPlan", "fillPlace", "(I)V"⟩ : MethodName) (⟨"NinthStep$TurnPlan", "fillPlace", "(I)V"⟩ : MethodName) ∈ ns_TB := ns_tbS (List.mem_of_getElem? (i := 41) (by decide +kernel)) rfl
theorem ts_42 : Jvm.Cond.selects "NinthStep$TurnPlan" (⟨"NinthStep$TurnPlan", "needWith", "(III)I"⟩ : MethodName) (⟨"NinthStep$TurnPlan", "needWith", "(III)I"⟩ : MethodName) ∈ ns_TB := ns_tbS (List.mem_of_getElem? (i := 42) (by decide +kernel)) rfl
theorem ts_43 : Jvm.Cond.selects "NinthStep$Mule" (⟨"NinthStep$Mule", "makeTurn", "(LNinthStep$Ground;)Z"⟩ : MethodName) (⟨"NinthStep$Mule", "makeTurn", "(LNinthStep$Ground;)Z"⟩ : MethodName) ∈ ns_TB := ns_tbS (List.mem_of_getElem? (i := 43) (by decide +kernel)) rfl
theorem ts_44 : Jvm.Cond.selects "NinthStep$TurnPlan" (⟨"NinthStep$TurnPlan", "madeAt", "(I)I"⟩ : MethodName) (⟨"NinthStep$TurnPlan", "madeAt", "(I)I"⟩ : MethodName) ∈ ns_TB := ns_tbS (List.mem_of_getElem? (i := 44) (by decide +kernel)) rfl
theorem ts_45 : Jvm.Cond.selects "NinthStep$TurnPlan" (⟨"NinthStep$TurnPlan", "fewestFirst", "(II)I"⟩ : MethodName) (⟨"NinthStep$TurnPlan", "fewestFirst", "(II)I"⟩ : MethodName) ∈ ns_TB := ns_tbS (List.mem_of_getElem? (i := 45) (by decide +kernel)) rfl
theorem ts_46 : Jvm.Cond.selects "NinthStep" (⟨"NinthStep", "firstTogether", "(LNinthStep$Mule;LNinthStep$Mule;)I"⟩ : MethodName) (⟨"NinthStep", "firstTogether", "(LNinthStep$Mule;LNinthStep$Mule;)I"⟩ : MethodName) ∈ ns_TB := ns_tbS (List.mem_of_getElem? (i := 46) (by decide +kernel)) rfl
theorem ts_47 : Jvm.Cond.selects "NinthStep" (⟨"NinthStep", "mulesTold", "(LNinthStep$Shelf;I)I"⟩ : MethodName) (⟨"NinthStep", "mulesTold", "(LNinthStep$Shelf;I)I"⟩ : MethodName) ∈ ns_TB := ns_tbS (List.mem_of_getElem? (i := 47) (by decide +kernel)) rfl
theorem ts_48 : Jvm.Cond.selects "NinthStep" (⟨"NinthStep", "placesOfTrain", "(I)I"⟩ : MethodName) (⟨"NinthStep", "placesOfTrain", "(I)I"⟩ : MethodName) ∈ ns_TB := ns_tbS (List.mem_of_getElem? (i := 48) (by decide +kernel)) rfl
theorem ts_49 : Jvm.Cond.selects "NinthStep" (⟨"NinthStep", "countCrowds", "()V"⟩ : MethodName) (⟨"NinthStep", "countCrowds", "()V"⟩ : MethodName) ∈ ns_TB := ns_tbS (List.mem_of_getElem? (i := 49) (by decide +kernel)) rfl
theorem ts_50 : Jvm.Cond.selects "NinthStep" (⟨"NinthStep", "fullestPlace", "()I"⟩ : MethodName) (⟨"NinthStep", "fullestPlace", "()I"⟩ : MethodName) ∈ ns_TB := ns_tbS (List.mem_of_getElem? (i := 50) (by decide +kernel)) rfl
theorem ts_51 : Jvm.Cond.selects "NinthStep$StonePlan" (⟨"NinthStep$StonePlan", "isAnyNeeded", "(LNinthStep$World;)Z"⟩ : MethodName) (⟨"NinthStep$StonePlan", "isAnyNeeded", "(LNinthStep$World;)Z"⟩ : MethodName) ∈ ns_TB := ns_tbS (List.mem_of_getElem? (i := 51) (by decide +kernel)) rfl
theorem ts_52 : Jvm.Cond.selects "NinthStep$StonePlan" (⟨"NinthStep$StonePlan", "fallsAsItIs", "(LNinthStep$Mule;)Z"⟩ : MethodName) (⟨"NinthStep$StonePlan", "fallsAsItIs", "(LNinthStep$Mule;)Z"⟩ : MethodName) ∈ ns_TB := ns_tbS (List.mem_of_getElem? (i := 52) (by decide +kernel)) rfl
theorem ts_53 : Jvm.Cond.selects "NinthStep$StonePlan" (⟨"NinthStep$StonePlan", "fallsNext", "(LNinthStep$Mule;I)Z"⟩ : MethodName) (⟨"NinthStep$StonePlan", "fallsNext", "(LNinthStep$Mule;I)Z"⟩ : MethodName) ∈ ns_TB := ns_tbS (List.mem_of_getElem? (i := 53) (by decide +kernel)) rfl
theorem ts_54 : Jvm.Cond.selects "NinthStep$StonePlan" (⟨"NinthStep$StonePlan", "isOneEnough", "(LNinthStep$World;)Z"⟩ : MethodName) (⟨"NinthStep$StonePlan", "isOneEnough", "(LNinthStep$World;)Z"⟩ : MethodName) ∈ ns_TB := ns_tbS (List.mem_of_getElem? (i := 54) (by decide +kernel)) rfl
theorem ts_55 : Jvm.Cond.selects "NinthStep$StonePlan" (⟨"NinthStep$StonePlan", "freePlaces", "()J"⟩ : MethodName) (⟨"NinthStep$StonePlan", "freePlaces", "()J"⟩ : MethodName) ∈ ns_TB := ns_tbS (List.mem_of_getElem? (i := 55) (by decide +kernel)) rfl
theorem ts_56 : Jvm.Cond.selects "NinthStep$StonePlan" (⟨"NinthStep$StonePlan", "helpersFor", "(LNinthStep$Mule;)J"⟩ : MethodName) (⟨"NinthStep$StonePlan", "helpersFor", "(LNinthStep$Mule;)J"⟩ : MethodName) ∈ ns_TB := ns_tbS (List.mem_of_getElem? (i := 56) (by decide +kernel)) rfl
theorem ts_57 : Jvm.Cond.selects "NinthStep$StonePlan" (⟨"NinthStep$StonePlan", "fillSafe", "(LNinthStep$Mule;)V"⟩ : MethodName) (⟨"NinthStep$StonePlan", "fillSafe", "(LNinthStep$Mule;)V"⟩ : MethodName) ∈ ns_TB := ns_tbS (List.mem_of_getElem? (i := 57) (by decide +kernel)) rfl
theorem ts_58 : Jvm.Cond.selects "NinthStep$StonePlan" (⟨"NinthStep$StonePlan", "isSafe", "(LNinthStep$Mule;)Z"⟩ : MethodName) (⟨"NinthStep$StonePlan", "isSafe", "(LNinthStep$Mule;)Z"⟩ : MethodName) ∈ ns_TB := ns_tbS (List.mem_of_getElem? (i := 58) (by decide +kernel)) rfl
theorem ts_59 : Jvm.Cond.selects "NinthStep$StonePlan" (⟨"NinthStep$StonePlan", "helpersAhead", "(LNinthStep$Mule;)J"⟩ : MethodName) (⟨"NinthStep$StonePlan", "helpersAhead", "(LNinthStep$Mule;)J"⟩ : MethodName) ∈ ns_TB := ns_tbS (List.mem_of_getElem? (i := 59) (by decide +kernel)) rfl
theorem ts_60 : Jvm.Cond.selects "NinthStep$StonePlan" (⟨"NinthStep$StonePlan", "isPairEnough", "(LNinthStep$World;)Z"⟩ : MethodName) (⟨"NinthStep$StonePlan", "isPairEnough", "(LNinthStep$World;)Z"⟩ : MethodName) ∈ ns_TB := ns_tbS (List.mem_of_getElem? (i := 60) (by decide +kernel)) rfl
theorem ts_61 : Jvm.Cond.selects "NinthStep$StonePlan" (⟨"NinthStep$StonePlan", "heedSeconds", "(LNinthStep$Mule;J)V"⟩ : MethodName) (⟨"NinthStep$StonePlan", "heedSeconds", "(LNinthStep$Mule;J)V"⟩ : MethodName) ∈ ns_TB := ns_tbS (List.mem_of_getElem? (i := 61) (by decide +kernel)) rfl
theorem ts_62 : Jvm.Cond.selects "NinthStep" (⟨"NinthStep", "placesTold", "(LNinthStep$Shelf;I)J"⟩ : MethodName) (⟨"NinthStep", "placesTold", "(LNinthStep$Shelf;I)J"⟩ : MethodName) ∈ ns_TB := ns_tbS (List.mem_of_getElem? (i := 62) (by decide +kernel)) rfl
theorem ts_63 : Jvm.Cond.selects "NinthStep" (⟨"NinthStep", "pairsBy", "(JZ)I"⟩ : MethodName) (⟨"NinthStep", "pairsBy", "(JZ)I"⟩ : MethodName) ∈ ns_TB := ns_tbS (List.mem_of_getElem? (i := 63) (by decide +kernel)) rfl
theorem ts_64 : Jvm.Cond.selects "NinthStep" (⟨"NinthStep", "wouldBeSeen", "(IIJ)Z"⟩ : MethodName) (⟨"NinthStep", "wouldBeSeen", "(IIJ)Z"⟩ : MethodName) ∈ ns_TB := ns_tbS (List.mem_of_getElem? (i := 64) (by decide +kernel)) rfl
theorem ts_65 : Jvm.Cond.selects "NinthStep$Chance" (⟨"NinthStep$Chance", "unfallen", "(LNinthStep$Mule;LNinthStep$Ground;I)I"⟩ : MethodName) (⟨"NinthStep$Chance", "unfallen", "(LNinthStep$Mule;LNinthStep$Ground;I)I"⟩ : MethodName) ∈ ns_TB := ns_tbS (List.mem_of_getElem? (i := 65) (by decide +kernel)) rfl
theorem ts_66 : Jvm.Cond.selects "NinthStep$Chance" (⟨"NinthStep$Chance", "spread", "(III)V"⟩ : MethodName) (⟨"NinthStep$Chance", "spread", "(III)V"⟩ : MethodName) ∈ ns_TB := ns_tbS (List.mem_of_getElem? (i := 66) (by decide +kernel)) rfl
theorem ts_67 : Jvm.Cond.selects "NinthStep$World" (⟨"NinthStep$World", "stepInTruth", "(LNinthStep$Mule;I)V"⟩ : MethodName) (⟨"NinthStep$World", "stepInTruth", "(LNinthStep$Mule;I)V"⟩ : MethodName) ∈ ns_TB := ns_tbS (List.mem_of_getElem? (i := 67) (by decide +kernel)) rfl
theorem ts_68 : Jvm.Cond.selects "NinthStep$World" (⟨"NinthStep$World", "restInTruth", "(LNinthStep$Mule;)V"⟩ : MethodName) (⟨"NinthStep$World", "restInTruth", "(LNinthStep$Mule;)V"⟩ : MethodName) ∈ ns_TB := ns_tbS (List.mem_of_getElem? (i := 68) (by decide +kernel)) rfl
theorem ts_69 : Jvm.Cond.selects "NinthStep$World" (⟨"NinthStep$World", "turnInTruth", "(LNinthStep$Mule;)Z"⟩ : MethodName) (⟨"NinthStep$World", "turnInTruth", "(LNinthStep$Mule;)Z"⟩ : MethodName) ∈ ns_TB := ns_tbS (List.mem_of_getElem? (i := 69) (by decide +kernel)) rfl
theorem ts_70 : Jvm.Cond.selects "NinthStep$World" (⟨"NinthStep$World", "slipToEnd", "(LNinthStep$Mule;)V"⟩ : MethodName) (⟨"NinthStep$World", "slipToEnd", "(LNinthStep$Mule;)V"⟩ : MethodName) ∈ ns_TB := ns_tbS (List.mem_of_getElem? (i := 70) (by decide +kernel)) rfl
theorem ts_71 : Jvm.Cond.selects "NinthStep$World" (⟨"NinthStep$World", "draw", "(I)I"⟩ : MethodName) (⟨"NinthStep$World", "draw", "(I)I"⟩ : MethodName) ∈ ns_TB := ns_tbS (List.mem_of_getElem? (i := 71) (by decide +kernel)) rfl
theorem ts_72 : Jvm.Cond.selects "NinthStep" (⟨"NinthStep", "shelvesInUse", "()I"⟩ : MethodName) (⟨"NinthStep", "shelvesInUse", "()I"⟩ : MethodName) ∈ ns_TB := ns_tbS (List.mem_of_getElem? (i := 72) (by decide +kernel)) rfl
theorem ts_73 : Jvm.Cond.selects "NinthStepModel" (⟨"NinthStepModel", "no", "(I)I"⟩ : MethodName) (⟨"NinthStepModel", "no", "(I)I"⟩ : MethodName) ∈ ns_TB := ns_tbS (List.mem_of_getElem? (i := 73) (by decide +kernel)) rfl
theorem ts_74 : Jvm.Cond.selects "NinthStepModel" (⟨"NinthStepModel", "noRow", "(I)I"⟩ : MethodName) (⟨"NinthStepModel", "noRow", "(I)I"⟩ : MethodName) ∈ ns_TB := ns_tbS (List.mem_of_getElem? (i := 74) (by decide +kernel)) rfl
theorem ts_75 : Jvm.Cond.selects "NinthStepModel" (⟨"NinthStepModel", "isRow", "(I)Z"⟩ : MethodName) (⟨"NinthStepModel", "isRow", "(I)Z"⟩ : MethodName) ∈ ns_TB := ns_tbS (List.mem_of_getElem? (i := 75) (by decide +kernel)) rfl
theorem ts_76 : Jvm.Cond.selects "NinthStepModel" (⟨"NinthStepModel", "isMule", "(I)Z"⟩ : MethodName) (⟨"NinthStepModel", "isMule", "(I)Z"⟩ : MethodName) ∈ ns_TB := ns_tbS (List.mem_of_getElem? (i := 76) (by decide +kernel)) rfl
theorem ts_77 : Jvm.Cond.selects "NinthStepModel" (⟨"NinthStepModel", "rest", "(I)I"⟩ : MethodName) (⟨"NinthStepModel", "rest", "(I)I"⟩ : MethodName) ∈ ns_TB := ns_tbS (List.mem_of_getElem? (i := 77) (by decide +kernel)) rfl
theorem ts_78 : Jvm.Cond.selects "NinthStepModel" (⟨"NinthStepModel", "aheadOf", "(II)I"⟩ : MethodName) (⟨"NinthStepModel", "aheadOf", "(II)I"⟩ : MethodName) ∈ ns_TB := ns_tbS (List.mem_of_getElem? (i := 78) (by decide +kernel)) rfl
theorem ts_79 : Jvm.Cond.selects "NinthStepModel" (⟨"NinthStepModel", "isThere", "(II)Z"⟩ : MethodName) (⟨"NinthStepModel", "isThere", "(II)Z"⟩ : MethodName) ∈ ns_TB := ns_tbS (List.mem_of_getElem? (i := 79) (by decide +kernel)) rfl
theorem ts_80 : Jvm.Cond.selects "NinthStepModel" (⟨"NinthStepModel", "highest", "()I"⟩ : MethodName) (⟨"NinthStepModel", "highest", "()I"⟩ : MethodName) ∈ ns_TB := ns_tbS (List.mem_of_getElem? (i := 80) (by decide +kernel)) rfl
theorem ts_81 : Jvm.Cond.selects "NinthStepModel" (⟨"NinthStepModel", "longer", "(I)V"⟩ : MethodName) (⟨"NinthStepModel", "longer", "(I)V"⟩ : MethodName) ∈ ns_TB := ns_tbS (List.mem_of_getElem? (i := 81) (by decide +kernel)) rfl
theorem ts_82 : Jvm.Cond.selects "NinthStepModel" (⟨"NinthStepModel", "isPlace", "(I)Z"⟩ : MethodName) (⟨"NinthStepModel", "isPlace", "(I)Z"⟩ : MethodName) ∈ ns_TB := ns_tbS (List.mem_of_getElem? (i := 82) (by decide +kernel)) rfl
theorem ts_83 : Jvm.Cond.selects "NinthStepModel" (⟨"NinthStepModel", "canBe", "(II)Z"⟩ : MethodName) (⟨"NinthStepModel", "canBe", "(II)Z"⟩ : MethodName) ∈ ns_TB := ns_tbS (List.mem_of_getElem? (i := 83) (by decide +kernel)) rfl
theorem ts_84 : Jvm.Cond.selects "NinthStepModel" (⟨"NinthStepModel", "newMule", "(III)I"⟩ : MethodName) (⟨"NinthStepModel", "newMule", "(III)I"⟩ : MethodName) ∈ ns_TB := ns_tbS (List.mem_of_getElem? (i := 84) (by decide +kernel)) rfl
theorem ts_85 : Jvm.Cond.selects "NinthStepModel" (⟨"NinthStepModel", "keep", "([I)V"⟩ : MethodName) (⟨"NinthStepModel", "keep", "([I)V"⟩ : MethodName) ∈ ns_TB := ns_tbS (List.mem_of_getElem? (i := 85) (by decide +kernel)) rfl
theorem ts_86 : Jvm.Cond.selects "NinthStepModel" (⟨"NinthStepModel", "next", "()V"⟩ : MethodName) (⟨"NinthStepModel", "next", "()V"⟩ : MethodName) ∈ ns_TB := ns_tbS (List.mem_of_getElem? (i := 86) (by decide +kernel)) rfl
theorem ts_87 : Jvm.Cond.selects "NinthStepModel" (⟨"NinthStepModel", "statement", "()Z"⟩ : MethodName) (⟨"NinthStepModel", "statement", "()Z"⟩ : MethodName) ∈ ns_TB := ns_tbS (List.mem_of_getElem? (i := 87) (by decide +kernel)) rfl
theorem ts_88 : Jvm.Cond.selects "NinthStepModel" (⟨"NinthStepModel", "isWord", "(Ljava/lang/String;)Z"⟩ : MethodName) (⟨"NinthStepModel", "isWord", "(Ljava/lang/String;)Z"⟩ : MethodName) ∈ ns_TB := ns_tbS (List.mem_of_getElem? (i := 88) (by decide +kernel)) rfl
theorem ts_89 : Jvm.Cond.selects "NinthStepModel" (⟨"NinthStepModel", "number", "(II)Z"⟩ : MethodName) (⟨"NinthStepModel", "number", "(II)Z"⟩ : MethodName) ∈ ns_TB := ns_tbS (List.mem_of_getElem? (i := 89) (by decide +kernel)) rfl
theorem ts_90 : Jvm.Cond.selects "NinthStepModel" (⟨"NinthStepModel", "again", "([I)V"⟩ : MethodName) (⟨"NinthStepModel", "again", "([I)V"⟩ : MethodName) ∈ ns_TB := ns_tbS (List.mem_of_getElem? (i := 90) (by decide +kernel)) rfl
theorem ts_91 : Jvm.Cond.selects "NinthStepModel" (⟨"NinthStepModel", "begins", "(I)V"⟩ : MethodName) (⟨"NinthStepModel", "begins", "(I)V"⟩ : MethodName) ∈ ns_TB := ns_tbS (List.mem_of_getElem? (i := 91) (by decide +kernel)) rfl
theorem ts_92 : Jvm.Cond.selects "NinthStepModel" (⟨"NinthStepModel", "stepped", "(Z)Z"⟩ : MethodName) (⟨"NinthStepModel", "stepped", "(Z)Z"⟩ : MethodName) ∈ ns_TB := ns_tbS (List.mem_of_getElem? (i := 92) (by decide +kernel)) rfl
theorem ts_93 : Jvm.Cond.selects "NinthStepModel" (⟨"NinthStepModel", "stopsHere", "()Z"⟩ : MethodName) (⟨"NinthStepModel", "stopsHere", "()Z"⟩ : MethodName) ∈ ns_TB := ns_tbS (List.mem_of_getElem? (i := 93) (by decide +kernel)) rfl
theorem ts_94 : Jvm.Cond.selects "NinthStepModel" (⟨"NinthStepModel", "minutesOf", "(I)I"⟩ : MethodName) (⟨"NinthStepModel", "minutesOf", "(I)I"⟩ : MethodName) ∈ ns_TB := ns_tbS (List.mem_of_getElem? (i := 94) (by decide +kernel)) rfl
theorem ts_95 : Jvm.Cond.selects "NinthStepModel" (⟨"NinthStepModel", "afterAll", "(II)I"⟩ : MethodName) (⟨"NinthStepModel", "afterAll", "(II)I"⟩ : MethodName) ∈ ns_TB := ns_tbS (List.mem_of_getElem? (i := 95) (by decide +kernel)) rfl
theorem ts_96 : Jvm.Cond.selects "NinthStepModel" (⟨"NinthStepModel", "isGood", "(I)Z"⟩ : MethodName) (⟨"NinthStepModel", "isGood", "(I)Z"⟩ : MethodName) ∈ ns_TB := ns_tbS (List.mem_of_getElem? (i := 96) (by decide +kernel)) rfl
theorem ts_97 : Jvm.Cond.selects "NinthStepModel" (⟨"NinthStepModel", "journey", "(II)I"⟩ : MethodName) (⟨"NinthStepModel", "journey", "(II)I"⟩ : MethodName) ∈ ns_TB := ns_tbS (List.mem_of_getElem? (i := 97) (by decide +kernel)) rfl
theorem ts_98 : Jvm.Cond.selects "NinthStepModel" (⟨"NinthStepModel", "turnsOf", "(I)I"⟩ : MethodName) (⟨"NinthStepModel", "turnsOf", "(I)I"⟩ : MethodName) ∈ ns_TB := ns_tbS (List.mem_of_getElem? (i := 98) (by decide +kernel)) rfl
theorem ts_99 : Jvm.Cond.selects "NinthStepModel" (⟨"NinthStepModel", "turning", "(IZ)I"⟩ : MethodName) (⟨"NinthStepModel", "turning", "(IZ)I"⟩ : MethodName) ∈ ns_TB := ns_tbS (List.mem_of_getElem? (i := 99) (by decide +kernel)) rfl
theorem ts_100 : Jvm.Cond.selects "NinthStepModel" (⟨"NinthStepModel", "stopsAt", "(III)Z"⟩ : MethodName) (⟨"NinthStepModel", "stopsAt", "(III)Z"⟩ : MethodName) ∈ ns_TB := ns_tbS (List.mem_of_getElem? (i := 100) (by decide +kernel)) rfl
theorem ts_101 : Jvm.Cond.selects "NinthStepModel" (⟨"NinthStepModel", "crowdAt", "(I)I"⟩ : MethodName) (⟨"NinthStepModel", "crowdAt", "(I)I"⟩ : MethodName) ∈ ns_TB := ns_tbS (List.mem_of_getElem? (i := 101) (by decide +kernel)) rfl
theorem ts_102 : Jvm.Cond.selects "NinthStepModel" (⟨"NinthStepModel", "newStones", "()I"⟩ : MethodName) (⟨"NinthStepModel", "newStones", "()I"⟩ : MethodName) ∈ ns_TB := ns_tbS (List.mem_of_getElem? (i := 102) (by decide +kernel)) rfl
theorem ts_103 : Jvm.Cond.selects "NinthStepModel" (⟨"NinthStepModel", "noneFalls", "()Z"⟩ : MethodName) (⟨"NinthStepModel", "noneFalls", "()Z"⟩ : MethodName) ∈ ns_TB := ns_tbS (List.mem_of_getElem? (i := 103) (by decide +kernel)) rfl
theorem ts_104 : Jvm.Cond.selects "NinthStepModel" (⟨"NinthStepModel", "rests", "(I)V"⟩ : MethodName) (⟨"NinthStepModel", "rests", "(I)V"⟩ : MethodName) ∈ ns_TB := ns_tbS (List.mem_of_getElem? (i := 104) (by decide +kernel)) rfl
theorem ts_105 : Jvm.Cond.selects "NinthStepModel" (⟨"NinthStepModel", "stays", "(I)V"⟩ : MethodName) (⟨"NinthStepModel", "stays", "(I)V"⟩ : MethodName) ∈ ns_TB := ns_tbS (List.mem_of_getElem? (i := 105) (by decide +kernel)) rfl
theorem ts_106 : Jvm.Cond.selects "NinthStepModel" (⟨"NinthStepModel", "draw", "(I)I"⟩ : MethodName) (⟨"NinthStepModel", "draw", "(I)I"⟩ : MethodName) ∈ ns_TB := ns_tbS (List.mem_of_getElem? (i := 106) (by decide +kernel)) rfl
theorem ts_107 : Jvm.Cond.selects "NinthStepModel" (⟨"NinthStepModel", "those", "(I)I"⟩ : MethodName) (⟨"NinthStepModel", "those", "(I)I"⟩ : MethodName) ∈ ns_TB := ns_tbS (List.mem_of_getElem? (i := 107) (by decide +kernel)) rfl
