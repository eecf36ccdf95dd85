set_option maxRecDepth 20000 in
theorem tw_4 : (Jvm.Cond.initialized "NinthStep$Mule") ∈ ns_TB := ns_tb (mt_1 (List.mem_of_getElem? (i := 4) (by decide +kernel))) rfl
set_option maxRecDepth 20000 in
theorem tw_13 : (Jvm.Cond.initialized "java/lang/Integer") ∈ ns_TB := ns_tb (mt_1 (List.mem_of_getElem? (i := 13) (by decide +kernel))) rfl
set_option maxRecDepth 20000 in
theorem tw_18 : (Jvm.Cond.initialized "java/lang/Math") ∈ ns_TB := ns_tb (mt_1 (List.mem_of_getElem? (i := 18) (by decide +kernel))) rfl
set_option maxRecDepth 20000 in
theorem tw_46 : (Jvm.Cond.fieldLink "NinthStep$Ground" (15 : Nat) "NinthStep$Ground" "stones" "J") ∈ ns_TB := ns_tb (mt_1 (List.mem_of_getElem? (i := 46) (by decide +kernel))) rfl
set_option maxRecDepth 20000 in
theorem tw_49 : (Jvm.Cond.fieldLinkNest "NinthStep$Mule" (46 : Nat) "NinthStep$Ground" "stones" "J" "NinthStep") ∈ ns_NB := ns_nb (mt_1 (List.mem_of_getElem? (i := 49) (by decide +kernel))) rfl
set_option maxRecDepth 20000 in
theorem tw_51 : (Jvm.Cond.fieldLink "NinthStep$Ground" (19 : Nat) "NinthStep$Ground" "inns" "J") ∈ ns_TB := ns_tb (mt_1 (List.mem_of_getElem? (i := 51) (by decide +kernel))) rfl
set_option maxRecDepth 20000 in
theorem tw_52 : (Jvm.Cond.fieldLinkNest "NinthStep$Mule" (52 : Nat) "NinthStep$Ground" "inns" "J" "NinthStep") ∈ ns_NB := ns_nb (mt_1 (List.mem_of_getElem? (i := 52) (by decide +kernel))) rfl
set_option maxRecDepth 20000 in
theorem tw_54 : (Jvm.Cond.fieldLink "NinthStep$Ground" (22 : Nat) "NinthStep$Ground" "cliffs" "J") ∈ ns_TB := ns_tb (mt_1 (List.mem_of_getElem? (i := 54) (by decide +kernel))) rfl
set_option maxRecDepth 20000 in
theorem tw_58 : (Jvm.Cond.fieldLinkNest "NinthStep$Mule" (59 : Nat) "NinthStep$Ground" "cliffs" "J" "NinthStep") ∈ ns_NB := ns_nb (mt_1 (List.mem_of_getElem? (i := 58) (by decide +kernel))) rfl
set_option maxRecDepth 20000 in
theorem tw_61 : (Jvm.Cond.fieldLink "NinthStep$Ground" (25 : Nat) "NinthStep$Ground" "views" "J") ∈ ns_TB := ns_tb (mt_1 (List.mem_of_getElem? (i := 61) (by decide +kernel))) rfl
set_option maxRecDepth 20000 in
theorem tw_82 : (Jvm.Cond.fieldLink "NinthStep$Mule" (9 : Nat) "NinthStep$Mule" "kind" "I") ∈ ns_TB := ns_tb (mt_1 (List.mem_of_getElem? (i := 82) (by decide +kernel))) rfl
set_option maxRecDepth 20000 in
theorem tw_84 : (Jvm.Cond.fieldLink "NinthStep$Mule" (15 : Nat) "NinthStep$Mule" "number" "I") ∈ ns_TB := ns_tb (mt_1 (List.mem_of_getElem? (i := 84) (by decide +kernel))) rfl
set_option maxRecDepth 20000 in
theorem tw_88 : (Jvm.Cond.fieldLink "NinthStep$Mule" (21 : Nat) "NinthStep$Mule" "at" "I") ∈ ns_TB := ns_tb (mt_1 (List.mem_of_getElem? (i := 88) (by decide +kernel))) rfl
set_option maxRecDepth 20000 in
theorem tw_94 : (Jvm.Cond.fieldLink "NinthStep$Mule" (24 : Nat) "NinthStep$Mule" "count" "I") ∈ ns_TB := ns_tb (mt_1 (List.mem_of_getElem? (i := 94) (by decide +kernel))) rfl
set_option maxRecDepth 20000 in
theorem tw_106 : (Jvm.Cond.fieldLink "NinthStep$Mule" (37 : Nat) "NinthStep$Mule" "stoneWeight" "I") ∈ ns_TB := ns_tb (mt_1 (List.mem_of_getElem? (i := 106) (by decide +kernel))) rfl
set_option maxRecDepth 20000 in
theorem tw_411 : (Jvm.Cond.constantLong "java/lang/Long" (314 : Nat) (6148914691236517205 : Int64)) ∈ ns_TB := ns_tb (mt_2 (List.mem_of_getElem? (i := 171) (by decide +kernel))) rfl
set_option maxRecDepth 20000 in
theorem tw_412 : (Jvm.Cond.constantLong "java/lang/Long" (316 : Nat) (3689348814741910323 : Int64)) ∈ ns_TB := ns_tb (mt_2 (List.mem_of_getElem? (i := 172) (by decide +kernel))) rfl
set_option maxRecDepth 20000 in
theorem tw_413 : (Jvm.Cond.constantLong "java/lang/Long" (318 : Nat) (1085102592571150095 : Int64)) ∈ ns_TB := ns_tb (mt_2 (List.mem_of_getElem? (i := 173) (by decide +kernel))) rfl
set_option maxRecDepth 20000 in
theorem tw_420 : (Jvm.Cond.methodLink "java/lang/Long" (311 : Nat) ({ cls := "java/lang/Integer", name := "numberOfTrailingZeros", desc := "(I)I" } : Jvm.MethodName)) ∈ ns_TB := ns_tb (mt_2 (List.mem_of_getElem? (i := 180) (by decide +kernel))) rfl
set_option maxRecDepth 20000 in
theorem tw_421 : (Jvm.Cond.static ({ cls := "java/lang/Integer", name := "numberOfTrailingZeros", desc := "(I)I" } : Jvm.MethodName)) ∈ ns_TB := ns_tb (mt_2 (List.mem_of_getElem? (i := 181) (by decide +kernel))) rfl
set_option maxRecDepth 20000 in
theorem tw_422 : (Jvm.Cond.code ({ cls := "java/lang/Integer", name := "numberOfTrailingZeros", desc := "(I)I" } : Jvm.MethodName) prog_12_method_48_code (2 : Nat) (Option.some Jvm.ClassFile.FieldType.int)) ∈ ns_TB := ns_tb (mt_2 (List.mem_of_getElem? (i := 182) rfl)) rfl
set_option maxRecDepth 20000 in
theorem tw_423 : (Jvm.Cond.constant "java/lang/Integer" (264 : Nat) (65536 : Int32)) ∈ ns_TB := ns_tb (mt_2 (List.mem_of_getElem? (i := 183) (by decide +kernel))) rfl
set_option maxRecDepth 20000 in
theorem tw_438 : (Jvm.Cond.methodLink "java/lang/Long" (308 : Nat) ({ cls := "java/lang/Integer", name := "numberOfLeadingZeros", desc := "(I)I" } : Jvm.MethodName)) ∈ ns_TB := ns_tb (mt_2 (List.mem_of_getElem? (i := 198) (by decide +kernel))) rfl
set_option maxRecDepth 20000 in
theorem tw_439 : (Jvm.Cond.static ({ cls := "java/lang/Integer", name := "numberOfLeadingZeros", desc := "(I)I" } : Jvm.MethodName)) ∈ ns_TB := ns_tb (mt_2 (List.mem_of_getElem? (i := 199) (by decide +kernel))) rfl
set_option maxRecDepth 20000 in
theorem tw_440 : (Jvm.Cond.code ({ cls := "java/lang/Integer", name := "numberOfLeadingZeros", desc := "(I)I" } : Jvm.MethodName) prog_12_method_47_code (2 : Nat) (Option.some Jvm.ClassFile.FieldType.int)) ∈ ns_TB := ns_tb (mt_2 (List.mem_of_getElem? (i := 200) rfl)) rfl
set_option maxRecDepth 20000 in
theorem tw_657 : (Jvm.Cond.methodLink "NinthStep$Mule" (55 : Nat) ({ cls := "NinthStep$Mule", name := "mayStop", desc := "(LNinthStep$Ground;)Z" } : Jvm.MethodName)) ∈ ns_TB := ns_tb (mt_3 (List.mem_of_getElem? (i := 177) (by decide +kernel))) rfl
set_option maxRecDepth 20000 in
theorem tw_659 : (Jvm.Cond.instanceMethod ({ cls := "NinthStep$Mule", name := "mayStop", desc := "(LNinthStep$Ground;)Z" } : Jvm.MethodName)) ∈ ns_TB := ns_tb (mt_3 (List.mem_of_getElem? (i := 179) (by decide +kernel))) rfl
set_option maxRecDepth 20000 in
theorem tw_660 : (Jvm.Cond.code ({ cls := "NinthStep$Mule", name := "mayStop", desc := "(LNinthStep$Ground;)Z" } : Jvm.MethodName) prog_4_method_8_code (2 : Nat) (Option.some Jvm.ClassFile.FieldType.boolean)) ∈ ns_TB := ns_tb (mt_3 (List.mem_of_getElem? (i := 180) rfl)) rfl
set_option maxRecDepth 20000 in
theorem tw_661 : (Jvm.Cond.methodLink "NinthStep$Mule" (40 : Nat) ({ cls := "java/lang/Math", name := "min", desc := "(II)I" } : Jvm.MethodName)) ∈ ns_TB := ns_tb (mt_3 (List.mem_of_getElem? (i := 181) (by decide +kernel))) rfl
set_option maxRecDepth 20000 in
theorem tw_662 : (Jvm.Cond.static ({ cls := "java/lang/Math", name := "min", desc := "(II)I" } : Jvm.MethodName)) ∈ ns_TB := ns_tb (mt_3 (List.mem_of_getElem? (i := 182) (by decide +kernel))) rfl
set_option maxRecDepth 20000 in
theorem tw_663 : (Jvm.Cond.code ({ cls := "java/lang/Math", name := "min", desc := "(II)I" } : Jvm.MethodName) prog_14_method_69_code (2 : Nat) (Option.some Jvm.ClassFile.FieldType.int)) ∈ ns_TB := ns_tb (mt_3 (List.mem_of_getElem? (i := 183) rfl)) rfl
theorem ts_33 : Jvm.Cond.selects "NinthStep$Mule" (⟨"NinthStep$Mule", "mayStop", "(LNinthStep$Ground;)Z"⟩ : MethodName) (⟨"NinthStep$Mule", "mayStop", "(LNinthStep$Ground;)Z"⟩ : MethodName) ∈ ns_TB := ns_tbS (List.mem_of_getElem? (i := 33) (by decide +kernel)) rfl
