/-! Words of the tables that KindRounds needs. Written by program (wip/gen). -/
set_option maxHeartbeats 4000000 in
set_option maxRecDepth 100000 in
theorem mC_0 : (Cond.methodLink "java/util/Arrays" (13 : Nat) ({ cls := "java/util/Arrays", name := "rangeCheck", desc := "(III)V" } : Jvm.MethodName)) ∈ lw_good := good_in (List.mem_append_right _ (List.mem_append_right _ (List.mem_append_right _ (List.mem_append_right _ (List.mem_append_right _ (List.mem_append_left _ (List.mem_of_getElem? (i := 12) (l := tables_1_5) rfl))))))) rfl
set_option maxHeartbeats 4000000 in
set_option maxRecDepth 100000 in
theorem mC_1 : (Cond.fieldLink "KindRounds$Tape" (25 : Nat) "KindRounds$Tape" "length" "I") ∈ lw_good := good_in (List.mem_append_right _ (List.mem_append_left _ (List.mem_of_getElem? (i := 37) (l := tables_1_1) rfl))) rfl
set_option maxHeartbeats 4000000 in
set_option maxRecDepth 100000 in
theorem mC_2 : (Cond.fieldLink "KindRounds$Tape" (11 : Nat) "KindRounds$Tape" "bytes" "[I") ∈ lw_good := good_in (List.mem_append_right _ (List.mem_append_left _ (List.mem_of_getElem? (i := 36) (l := tables_1_1) rfl))) rfl
set_option maxHeartbeats 4000000 in
set_option maxRecDepth 100000 in
theorem mC_3 : (Cond.methodLink "KindRounds$Tape" (49 : Nat) ({ cls := "KindRounds$Tape", name := "addToken", desc := "(IJI)V" } : Jvm.MethodName)) ∈ lw_good := good_in (List.mem_append_right _ (List.mem_append_right _ (List.mem_append_right _ (List.mem_append_left _ (List.mem_of_getElem? (i := 74) (l := tables_1_3) rfl))))) rfl
set_option maxHeartbeats 4000000 in
set_option maxRecDepth 100000 in
theorem mC_4 : (Cond.methodLink "KindRounds$Tape" (42 : Nat) ({ cls := "KindRounds$Tape", name := "scanName", desc := "(I)I" } : Jvm.MethodName)) ∈ lw_good := good_in (List.mem_append_right _ (List.mem_append_right _ (List.mem_append_right _ (List.mem_append_left _ (List.mem_of_getElem? (i := 67) (l := tables_1_3) rfl))))) rfl
set_option maxHeartbeats 4000000 in
set_option maxRecDepth 100000 in
theorem mC_5 : (Cond.methodLink "KindRounds$Tape" (35 : Nat) ({ cls := "KindRounds$Tape", name := "isBigLetter", desc := "(I)Z" } : Jvm.MethodName)) ∈ lw_good := good_in (List.mem_append_right _ (List.mem_append_right _ (List.mem_append_right _ (List.mem_append_left _ (List.mem_of_getElem? (i := 61) (l := tables_1_3) rfl))))) rfl
set_option maxHeartbeats 4000000 in
set_option maxRecDepth 100000 in
theorem mC_6 : (Cond.methodLink "KindRounds$Tape" (39 : Nat) ({ cls := "KindRounds$Tape", name := "isSmallLetter", desc := "(I)Z" } : Jvm.MethodName)) ∈ lw_good := good_in (List.mem_append_right _ (List.mem_append_right _ (List.mem_append_right _ (List.mem_append_left _ (List.mem_of_getElem? (i := 64) (l := tables_1_3) rfl))))) rfl
set_option maxHeartbeats 4000000 in
set_option maxRecDepth 100000 in
theorem mC_7 : (Cond.methodLink "KindRounds$Tape" (46 : Nat) ({ cls := "KindRounds$Tape", name := "scanSign", desc := "(I)I" } : Jvm.MethodName)) ∈ lw_good := good_in (List.mem_append_right _ (List.mem_append_right _ (List.mem_append_right _ (List.mem_append_left _ (List.mem_of_getElem? (i := 85) (l := tables_1_3) rfl))))) rfl
set_option maxHeartbeats 4000000 in
set_option maxRecDepth 100000 in
theorem mC_8 : (Cond.fieldLink "KindRounds$Tape" (29 : Nat) "KindRounds$Tape" "count" "I") ∈ lw_good := good_in (List.mem_append_right _ (List.mem_append_left _ (List.mem_of_getElem? (i := 42) (l := tables_1_1) rfl))) rfl
set_option maxHeartbeats 4000000 in
set_option maxRecDepth 100000 in
theorem mC_9 : (Cond.fieldLink "KindRounds$Tape" (32 : Nat) "KindRounds$Tape" "at" "I") ∈ lw_good := good_in (List.mem_append_right _ (List.mem_append_left _ (List.mem_of_getElem? (i := 43) (l := tables_1_1) rfl))) rfl
set_option maxHeartbeats 4000000 in
set_option maxRecDepth 100000 in
theorem mC_10 : (Cond.methodLink "KindRounds$Tape" (56 : Nat) ({ cls := "KindRounds$Tape", name := "sortOfSmall", desc := "(J)I" } : Jvm.MethodName)) ∈ lw_good := good_in (List.mem_append_right _ (List.mem_append_right _ (List.mem_append_right _ (List.mem_append_left _ (List.mem_of_getElem? (i := 78) (l := tables_1_3) rfl))))) rfl
set_option maxHeartbeats 4000000 in
set_option maxRecDepth 100000 in
theorem mC_11 : (Cond.methodLink "KindRounds$Tape" (53 : Nat) ({ cls := "KindRounds$Tape", name := "isNameByte", desc := "(I)Z" } : Jvm.MethodName)) ∈ lw_good := good_in (List.mem_append_right _ (List.mem_append_right _ (List.mem_append_right _ (List.mem_append_left _ (List.mem_of_getElem? (i := 71) (l := tables_1_3) rfl))))) rfl
set_option maxHeartbeats 4000000 in
set_option maxRecDepth 100000 in
theorem mC_12 : (Cond.methodLink "KindRounds$Tape" (62 : Nat) ({ cls := "java/lang/String", name := "indexOf", desc := "(I)I" } : Jvm.MethodName)) ∈ lw_good := good_in (List.mem_append_right _ (List.mem_append_right _ (List.mem_append_right _ (List.mem_append_left _ (List.mem_of_getElem? (i := 90) (l := tables_1_3) rfl))))) rfl
set_option maxHeartbeats 4000000 in
set_option maxRecDepth 100000 in
theorem mC_13 : (Cond.fieldLink "KindRounds$Tape" (15 : Nat) "KindRounds$Tape" "sorts" "[I") ∈ lw_good := good_in (List.mem_append_right _ (List.mem_append_left _ (List.mem_of_getElem? (i := 39) (l := tables_1_1) rfl))) rfl
set_option maxHeartbeats 4000000 in
set_option maxRecDepth 100000 in
theorem mC_14 : (Cond.fieldLink "KindRounds$Tape" (18 : Nat) "KindRounds$Tape" "names" "[J") ∈ lw_good := good_in (List.mem_append_right _ (List.mem_append_left _ (List.mem_of_getElem? (i := 40) (l := tables_1_1) rfl))) rfl
set_option maxHeartbeats 4000000 in
set_option maxRecDepth 100000 in
theorem mC_15 : (Cond.fieldLink "KindRounds$Tape" (22 : Nat) "KindRounds$Tape" "starts" "[I") ∈ lw_good := good_in (List.mem_append_right _ (List.mem_append_left _ (List.mem_of_getElem? (i := 41) (l := tables_1_1) rfl))) rfl
set_option maxHeartbeats 4000000 in
set_option maxRecDepth 100000 in
theorem mC_16 : (Cond.constantLong "KindRounds$Tape" (67 : Nat) (1684108385 : Int64)) ∈ lw_good := good_in (List.mem_append_right _ (List.mem_append_right _ (List.mem_append_right _ (List.mem_append_left _ (List.mem_of_getElem? (i := 81) (l := tables_1_3) rfl))))) rfl
set_option maxHeartbeats 4000000 in
set_option maxRecDepth 100000 in
theorem mC_17 : (Cond.constantLong "KindRounds$Tape" (69 : Nat) (1954115685 : Int64)) ∈ lw_good := good_in (List.mem_append_right _ (List.mem_append_right _ (List.mem_append_right _ (List.mem_append_left _ (List.mem_of_getElem? (i := 82) (l := tables_1_3) rfl))))) rfl
set_option maxHeartbeats 4000000 in
set_option maxRecDepth 100000 in
theorem mC_18 : (Cond.constantLong "KindRounds$Tape" (71 : Nat) (427020088179 : Int64)) ∈ lw_good := good_in (List.mem_append_right _ (List.mem_append_right _ (List.mem_append_right _ (List.mem_append_left _ (List.mem_of_getElem? (i := 83) (l := tables_1_3) rfl))))) rfl
set_option maxHeartbeats 4000000 in
set_option maxRecDepth 100000 in
theorem mC_19 : (Cond.constantLong "KindRounds$Tape" (73 : Nat) (1802071652 : Int64)) ∈ lw_good := good_in (List.mem_append_right _ (List.mem_append_right _ (List.mem_append_right _ (List.mem_append_left _ (List.mem_of_getElem? (i := 84) (l := tables_1_3) rfl))))) rfl
set_option maxHeartbeats 4000000 in
set_option maxRecDepth 100000 in
theorem mC_20 : (Cond.fieldLink "KindRounds$Line" (13 : Nat) "KindRounds$Line" "size" "I") ∈ lw_good := good_in (List.mem_append_right _ (List.mem_append_left _ (List.mem_of_getElem? (i := 75) (l := tables_1_1) rfl))) rfl
set_option maxHeartbeats 4000000 in
set_option maxRecDepth 100000 in
theorem mC_21 : (Cond.fieldLink "KindRounds$Line" (9 : Nat) "KindRounds$Line" "bytes" "[B") ∈ lw_good := good_in (List.mem_append_right _ (List.mem_append_left _ (List.mem_of_getElem? (i := 73) (l := tables_1_1) rfl))) rfl
set_option maxHeartbeats 4000000 in
set_option maxRecDepth 100000 in
theorem mC_22 : (Cond.methodLink "KindRounds$Line" (17 : Nat) ({ cls := "KindRounds$Line", name := "put", desc := "(I)V" } : Jvm.MethodName)) ∈ lw_good := good_in (List.mem_append_right _ (List.mem_append_right _ (List.mem_append_right _ (List.mem_append_right _ (List.mem_append_right _ (List.mem_append_left _ (List.mem_of_getElem? (i := 40) (l := tables_1_5) rfl))))))) rfl
set_option maxHeartbeats 4000000 in
set_option maxRecDepth 100000 in
theorem mC_23 : (Cond.methodLink "KindRounds$Line" (21 : Nat) ({ cls := "java/lang/System", name := "arraycopy", desc := "(Ljava/lang/Object;ILjava/lang/Object;II)V" } : Jvm.MethodName)) ∈ lw_good := good_in (List.mem_append_right _ (List.mem_append_right _ (List.mem_append_right _ (List.mem_append_right _ (List.mem_append_right _ (List.mem_append_left _ (List.mem_of_getElem? (i := 65) (l := tables_1_5) rfl))))))) rfl
set_option maxHeartbeats 4000000 in
set_option maxRecDepth 100000 in
theorem mC_24 : (Cond.native ({ cls := "java/lang/System", name := "arraycopy", desc := "(Ljava/lang/Object;ILjava/lang/Object;II)V" } : Jvm.MethodName)) ∈ lw_good := good_in (List.mem_append_right _ (List.mem_append_right _ (List.mem_append_right _ (List.mem_append_right _ (List.mem_append_left _ (List.mem_of_getElem? (i := 41) (l := tables_1_4) rfl)))))) rfl
set_option maxHeartbeats 4000000 in
set_option maxRecDepth 100000 in
theorem mC_25 : (Cond.static ({ cls := "java/lang/System", name := "arraycopy", desc := "(Ljava/lang/Object;ILjava/lang/Object;II)V" } : Jvm.MethodName)) ∈ lw_good := good_in (List.mem_append_right _ (List.mem_append_right _ (List.mem_append_right _ (List.mem_append_right _ (List.mem_append_left _ (List.mem_of_getElem? (i := 40) (l := tables_1_4) rfl)))))) rfl
set_option maxHeartbeats 4000000 in
set_option maxRecDepth 100000 in
theorem mC_26 : (Cond.initialized "java/lang/System") ∈ lw_good := good_in (List.mem_append_right _ (List.mem_append_left _ (List.mem_of_getElem? (i := 20) (l := tables_1_1) rfl))) rfl
set_option maxHeartbeats 4000000 in
set_option maxRecDepth 100000 in
theorem mC_27 : (Cond.fieldLink "KindRounds$Fault" (19 : Nat) "KindRounds$Fault" "number" "I") ∈ lw_good := good_in (List.mem_append_right _ (List.mem_append_left _ (List.mem_of_getElem? (i := 84) (l := tables_1_1) rfl))) rfl
set_option maxHeartbeats 4000000 in
set_option maxRecDepth 100000 in
theorem mC_28 : (Cond.fieldLink "KindRounds$Fault" (23 : Nat) "KindRounds$Fault" "spot" "I") ∈ lw_good := good_in (List.mem_append_right _ (List.mem_append_left _ (List.mem_of_getElem? (i := 86) (l := tables_1_1) rfl))) rfl
set_option maxHeartbeats 4000000 in
set_option maxRecDepth 100000 in
theorem mC_29 : (Cond.fieldLink "KindRounds$Kinds" (30 : Nat) "KindRounds$Kinds" "size" "I") ∈ lw_good := good_in (List.mem_append_right _ (List.mem_append_left _ (List.mem_of_getElem? (i := 116) (l := tables_1_1) rfl))) rfl
set_option maxHeartbeats 4000000 in
set_option maxRecDepth 100000 in
theorem mC_30 : (Cond.fieldLink "KindRounds$Kinds" (34 : Nat) "KindRounds$Kinds" "textSize" "I") ∈ lw_good := good_in (List.mem_append_right _ (List.mem_append_left _ (List.mem_of_getElem? (i := 117) (l := tables_1_1) rfl))) rfl
set_option maxHeartbeats 4000000 in
set_option maxRecDepth 100000 in
theorem mC_31 : (Cond.fieldLink "KindRounds$Kinds" (11 : Nat) "KindRounds$Kinds" "left" "[I") ∈ lw_good := good_in (List.mem_append_right _ (List.mem_append_left _ (List.mem_of_getElem? (i := 109) (l := tables_1_1) rfl))) rfl
set_option maxHeartbeats 4000000 in
set_option maxRecDepth 100000 in
theorem mC_32 : (Cond.fieldLink "KindRounds$Kinds" (18 : Nat) "KindRounds$Kinds" "link" "[I") ∈ lw_good := good_in (List.mem_append_right _ (List.mem_append_left _ (List.mem_of_getElem? (i := 112) (l := tables_1_1) rfl))) rfl
set_option maxHeartbeats 4000000 in
set_option maxRecDepth 100000 in
theorem mC_33 : (Cond.fieldLink "KindRounds$Kinds" (15 : Nat) "KindRounds$Kinds" "right" "[I") ∈ lw_good := good_in (List.mem_append_right _ (List.mem_append_left _ (List.mem_of_getElem? (i := 110) (l := tables_1_1) rfl))) rfl
set_option maxHeartbeats 4000000 in
set_option maxRecDepth 100000 in
theorem mC_34 : (Cond.fieldLink "KindRounds$Kinds" (37 : Nat) "KindRounds$Kinds" "top" "I") ∈ lw_good := good_in (List.mem_append_right _ (List.mem_append_left _ (List.mem_of_getElem? (i := 119) (l := tables_1_1) rfl))) rfl
set_option maxHeartbeats 4000000 in
set_option maxRecDepth 100000 in
theorem mC_35 : (Cond.fieldLink "KindRounds$Kinds" (27 : Nat) "KindRounds$Kinds" "stack" "[I") ∈ lw_good := good_in (List.mem_append_right _ (List.mem_append_left _ (List.mem_of_getElem? (i := 115) (l := tables_1_1) rfl))) rfl
set_option maxHeartbeats 4000000 in
set_option maxRecDepth 100000 in
theorem mC_36 : (Cond.fieldLink "KindRounds$Kinds" (40 : Nat) "KindRounds$Kinds" "changes" "I") ∈ lw_good := good_in (List.mem_append_right _ (List.mem_append_left _ (List.mem_of_getElem? (i := 118) (l := tables_1_1) rfl))) rfl
set_option maxHeartbeats 4000000 in
set_option maxRecDepth 100000 in
theorem mC_37 : (Cond.fieldLink "KindRounds$Kinds" (24 : Nat) "KindRounds$Kinds" "trail" "[I") ∈ lw_good := good_in (List.mem_append_right _ (List.mem_append_left _ (List.mem_of_getElem? (i := 114) (l := tables_1_1) rfl))) rfl
set_option maxHeartbeats 4000000 in
set_option maxRecDepth 100000 in
theorem mC_38 : (Cond.methodLink "KindRounds$Kinds" (69 : Nat) ({ cls := "KindRounds$Kinds", name := "hasRing", desc := "(I)Z" } : Jvm.MethodName)) ∈ lw_good := good_in (List.mem_append_right _ (List.mem_append_right _ (List.mem_append_right _ (List.mem_append_right _ (List.mem_append_right _ (List.mem_append_left _ (List.mem_of_getElem? (i := 1) (l := tables_1_5) rfl))))))) rfl
set_option maxHeartbeats 4000000 in
set_option maxRecDepth 100000 in
theorem mC_39 : (Cond.constant "KindRounds$Kinds" (47 : Nat) (1000000 : Int32)) ∈ lw_good := good_in (List.mem_append_right _ (List.mem_append_right _ (List.mem_append_right _ (List.mem_append_right _ (List.mem_append_left _ (List.mem_of_getElem? (i := 214) (l := tables_1_4) rfl)))))) rfl
set_option maxHeartbeats 4000000 in
set_option maxRecDepth 100000 in
theorem mC_40 : (Cond.methodLink "KindRounds$Kinds" (48 : Nat) ({ cls := "KindRounds$Kinds", name := "pop", desc := "()I" } : Jvm.MethodName)) ∈ lw_good := good_in (List.mem_append_right _ (List.mem_append_right _ (List.mem_append_right _ (List.mem_append_right _ (List.mem_append_left _ (List.mem_of_getElem? (i := 215) (l := tables_1_4) rfl)))))) rfl
set_option maxHeartbeats 4000000 in
set_option maxRecDepth 100000 in
theorem mC_41 : (Cond.methodLink "KindRounds$Kinds" (52 : Nat) ({ cls := "KindRounds$Kinds", name := "find", desc := "(I)I" } : Jvm.MethodName)) ∈ lw_good := good_in (List.mem_append_right _ (List.mem_append_right _ (List.mem_append_right _ (List.mem_append_right _ (List.mem_append_left _ (List.mem_of_getElem? (i := 219) (l := tables_1_4) rfl)))))) rfl
set_option maxHeartbeats 4000000 in
set_option maxRecDepth 100000 in
theorem mC_42 : (Cond.methodLink "KindRounds$Kinds" (56 : Nat) ({ cls := "java/lang/Math", name := "min", desc := "(II)I" } : Jvm.MethodName)) ∈ lw_good := good_in (List.mem_append_right _ (List.mem_append_right _ (List.mem_append_right _ (List.mem_append_right _ (List.mem_append_left _ (List.mem_of_getElem? (i := 223) (l := tables_1_4) rfl)))))) rfl
set_option maxHeartbeats 4000000 in
set_option maxRecDepth 100000 in
theorem mC_43 : (Cond.static ({ cls := "java/lang/Math", name := "min", desc := "(II)I" } : Jvm.MethodName)) ∈ lw_good := good_in (List.mem_append_right _ (List.mem_append_right _ (List.mem_append_right _ (List.mem_append_left _ (List.mem_of_getElem? (i := 122) (l := tables_1_3) rfl))))) rfl
set_option maxHeartbeats 4000000 in
set_option maxRecDepth 100000 in
theorem mC_44 : (Cond.initialized "java/lang/Math") ∈ lw_good := good_in (List.mem_append_right _ (List.mem_append_left _ (List.mem_of_getElem? (i := 16) (l := tables_1_1) rfl))) rfl
set_option maxHeartbeats 4000000 in
set_option maxRecDepth 100000 in
theorem mC_45 : (Cond.code ({ cls := "java/lang/Math", name := "min", desc := "(II)I" } : Jvm.MethodName) prog_16_method_69_code (2 : Nat) (Option.some Jvm.ClassFile.FieldType.int)) ∈ lw_good := good_in (List.mem_append_right _ (List.mem_append_right _ (List.mem_append_right _ (List.mem_append_left _ (List.mem_of_getElem? (i := 123) (l := tables_1_3) rfl))))) rfl
set_option maxHeartbeats 4000000 in
set_option maxRecDepth 100000 in
theorem mC_46 : (Cond.methodLink "KindRounds$Kinds" (62 : Nat) ({ cls := "java/lang/Math", name := "max", desc := "(II)I" } : Jvm.MethodName)) ∈ lw_good := good_in (List.mem_append_right _ (List.mem_append_right _ (List.mem_append_right _ (List.mem_append_right _ (List.mem_append_left _ (List.mem_of_getElem? (i := 224) (l := tables_1_4) rfl)))))) rfl
set_option maxHeartbeats 4000000 in
set_option maxRecDepth 100000 in
theorem mC_47 : (Cond.static ({ cls := "java/lang/Math", name := "max", desc := "(II)I" } : Jvm.MethodName)) ∈ lw_good := good_in (List.mem_append_right _ (List.mem_append_right _ (List.mem_append_right _ (List.mem_append_left _ (List.mem_of_getElem? (i := 119) (l := tables_1_3) rfl))))) rfl
set_option maxHeartbeats 4000000 in
set_option maxRecDepth 100000 in
theorem mC_48 : (Cond.code ({ cls := "java/lang/Math", name := "max", desc := "(II)I" } : Jvm.MethodName) prog_16_method_65_code (2 : Nat) (Option.some Jvm.ClassFile.FieldType.int)) ∈ lw_good := good_in (List.mem_append_right _ (List.mem_append_right _ (List.mem_append_right _ (List.mem_append_left _ (List.mem_of_getElem? (i := 120) (l := tables_1_3) rfl))))) rfl
set_option maxHeartbeats 4000000 in
set_option maxRecDepth 100000 in
theorem mC_49 : (Cond.methodLink "KindRounds$Kinds" (65 : Nat) ({ cls := "KindRounds$Kinds", name := "merge", desc := "(II)Z" } : Jvm.MethodName)) ∈ lw_good := good_in (List.mem_append_right _ (List.mem_append_right _ (List.mem_append_right _ (List.mem_append_right _ (List.mem_append_left _ (List.mem_of_getElem? (i := 225) (l := tables_1_4) rfl)))))) rfl
set_option maxHeartbeats 4000000 in
set_option maxRecDepth 100000 in
theorem mC_50 : (Cond.methodLink "KindRounds$Kinds" (43 : Nat) ({ cls := "KindRounds$Kinds", name := "push", desc := "(I)V" } : Jvm.MethodName)) ∈ lw_good := good_in (List.mem_append_right _ (List.mem_append_right _ (List.mem_append_right _ (List.mem_append_right _ (List.mem_append_left _ (List.mem_of_getElem? (i := 210) (l := tables_1_4) rfl)))))) rfl
set_option maxHeartbeats 4000000 in
set_option maxRecDepth 100000 in
theorem mC_51 : (Cond.methodLink "KindRounds$Kinds" (73 : Nat) ({ cls := "KindRounds$Kinds", name := "isOpen", desc := "(I)Z" } : Jvm.MethodName)) ∈ lw_good := good_in (List.mem_append_right _ (List.mem_append_right _ (List.mem_append_right _ (List.mem_append_right _ (List.mem_append_left _ (List.mem_of_getElem? (i := 229) (l := tables_1_4) rfl)))))) rfl
set_option maxHeartbeats 4000000 in
set_option maxRecDepth 100000 in
theorem mC_52 : (Cond.methodLink "KindRounds$Kinds" (80 : Nat) ({ cls := "KindRounds$Kinds", name := "isArrow", desc := "(I)Z" } : Jvm.MethodName)) ∈ lw_good := good_in (List.mem_append_right _ (List.mem_append_right _ (List.mem_append_right _ (List.mem_append_right _ (List.mem_append_left _ (List.mem_of_getElem? (i := 237) (l := tables_1_4) rfl)))))) rfl
set_option maxHeartbeats 4000000 in
set_option maxRecDepth 100000 in
theorem mC_53 : (Cond.methodLink "KindRounds$Kinds" (76 : Nat) ({ cls := "KindRounds$Kinds", name := "join", desc := "(II)V" } : Jvm.MethodName)) ∈ lw_good := good_in (List.mem_append_right _ (List.mem_append_right _ (List.mem_append_right _ (List.mem_append_right _ (List.mem_append_left _ (List.mem_of_getElem? (i := 233) (l := tables_1_4) rfl)))))) rfl
set_option maxHeartbeats 4000000 in
set_option maxRecDepth 100000 in
theorem mC_54 : (Cond.fieldLink "KindRounds$Kinds" (21 : Nat) "KindRounds$Kinds" "mark" "[I") ∈ lw_good := good_in (List.mem_append_right _ (List.mem_append_left _ (List.mem_of_getElem? (i := 113) (l := tables_1_1) rfl))) rfl
set_option maxHeartbeats 4000000 in
set_option maxRecDepth 100000 in
theorem mC_55 : (Cond.methodLink "KindRounds$Kinds" (83 : Nat) ({ cls := "java/util/Arrays", name := "fill", desc := "([IIII)V" } : Jvm.MethodName)) ∈ lw_good := good_in (List.mem_append_right _ (List.mem_append_right _ (List.mem_append_right _ (List.mem_append_right _ (List.mem_append_right _ (List.mem_append_left _ (List.mem_of_getElem? (i := 9) (l := tables_1_5) rfl))))))) rfl
set_option maxHeartbeats 4000000 in
set_option maxRecDepth 100000 in
theorem mC_56 : (Cond.methodLink "KindRounds$Kinds" (89 : Nat) ({ cls := "KindRounds$Kinds", name := "clearMarks", desc := "()V" } : Jvm.MethodName)) ∈ lw_good := good_in (List.mem_append_right _ (List.mem_append_right _ (List.mem_append_right _ (List.mem_append_right _ (List.mem_append_right _ (List.mem_append_left _ (List.mem_of_getElem? (i := 5) (l := tables_1_5) rfl))))))) rfl
set_option maxHeartbeats 4000000 in
set_option maxRecDepth 100000 in
theorem mC_57 : (Cond.fieldLink "KindRounds$Kinds" (92 : Nat) "KindRounds$Kinds" "lettered" "I") ∈ lw_good := good_in (List.mem_append_right _ (List.mem_append_left _ (List.mem_of_getElem? (i := 120) (l := tables_1_1) rfl))) rfl
set_option maxHeartbeats 4000000 in
set_option maxRecDepth 100000 in
theorem mC_58 : (Cond.methodLink "KindRounds$Kinds" (95 : Nat) ({ cls := "KindRounds$Kinds", name := "letter", desc := "(I)I" } : Jvm.MethodName)) ∈ lw_good := good_in (List.mem_append_right _ (List.mem_append_right _ (List.mem_append_right _ (List.mem_append_right _ (List.mem_append_right _ (List.mem_append_left _ (List.mem_of_getElem? (i := 20) (l := tables_1_5) rfl))))))) rfl
set_option maxHeartbeats 4000000 in
set_option maxRecDepth 100000 in
theorem mC_59 : (Cond.fieldLinkNest "KindRounds$Kinds" (98 : Nat) "KindRounds$Fault" "left" "LKindRounds$Line;" "KindRounds") ∈ lw_nest := nest_in (List.mem_append_right _ (List.mem_append_left _ (List.mem_of_getElem? (i := 90) (l := tables_1_1) rfl))) rfl
set_option maxHeartbeats 4000000 in
set_option maxRecDepth 100000 in
theorem mC_60 : (Cond.methodLinkNest "KindRounds$Kinds" (103 : Nat) ({ cls := "KindRounds$Line", name := "clear", desc := "()V" } : Jvm.MethodName) "KindRounds") ∈ lw_nest := nest_in (List.mem_append_right _ (List.mem_append_right _ (List.mem_append_right _ (List.mem_append_right _ (List.mem_append_right _ (List.mem_append_left _ (List.mem_of_getElem? (i := 24) (l := tables_1_5) rfl))))))) rfl
set_option maxHeartbeats 4000000 in
set_option maxRecDepth 100000 in
theorem mC_61 : (Cond.fieldLinkNest "KindRounds$Kinds" (108 : Nat) "KindRounds$Fault" "right" "LKindRounds$Line;" "KindRounds") ∈ lw_nest := nest_in (List.mem_append_right _ (List.mem_append_left _ (List.mem_of_getElem? (i := 93) (l := tables_1_1) rfl))) rfl
set_option maxHeartbeats 4000000 in
set_option maxRecDepth 100000 in
theorem mC_62 : (Cond.methodLink "KindRounds$Kinds" (110 : Nat) ({ cls := "KindRounds$Kinds", name := "show", desc := "(ILKindRounds$Line;Z)V" } : Jvm.MethodName)) ∈ lw_good := good_in (List.mem_append_right _ (List.mem_append_right _ (List.mem_append_right _ (List.mem_append_right _ (List.mem_append_right _ (List.mem_append_left _ (List.mem_of_getElem? (i := 28) (l := tables_1_5) rfl))))))) rfl
set_option maxHeartbeats 4000000 in
set_option maxRecDepth 100000 in
theorem mC_63 : (Cond.methodLinkNest "KindRounds$Kinds" (118 : Nat) ({ cls := "KindRounds$Line", name := "putArrow", desc := "()V" } : Jvm.MethodName) "KindRounds") ∈ lw_nest := nest_in (List.mem_append_right _ (List.mem_append_right _ (List.mem_append_right _ (List.mem_append_right _ (List.mem_append_right _ (List.mem_append_left _ (List.mem_of_getElem? (i := 36) (l := tables_1_5) rfl))))))) rfl
set_option maxHeartbeats 4000000 in
set_option maxRecDepth 100000 in
theorem mC_64 : (Cond.methodLinkNest "KindRounds$Kinds" (115 : Nat) ({ cls := "KindRounds$Line", name := "put", desc := "(I)V" } : Jvm.MethodName) "KindRounds") ∈ lw_nest := nest_in (List.mem_append_right _ (List.mem_append_right _ (List.mem_append_right _ (List.mem_append_right _ (List.mem_append_right _ (List.mem_append_left _ (List.mem_of_getElem? (i := 32) (l := tables_1_5) rfl))))))) rfl
set_option maxHeartbeats 4000000 in
set_option maxRecDepth 100000 in
theorem mC_65 : (Cond.fieldLinkNest "KindRounds$Kinds" (114 : Nat) "KindRounds$Line" "size" "I" "KindRounds") ∈ lw_nest := nest_in (List.mem_append_right _ (List.mem_append_left _ (List.mem_of_getElem? (i := 77) (l := tables_1_1) rfl))) rfl
set_option maxHeartbeats 4000000 in
set_option maxRecDepth 100000 in
theorem mC_66 : (Cond.fieldLink "KindRounds$Row" (31 : Nat) "KindRounds$Row" "size" "I") ∈ lw_good := good_in (List.mem_append_right _ (List.mem_append_left _ (List.mem_of_getElem? (i := 169) (l := tables_1_1) rfl))) rfl
set_option maxHeartbeats 4000000 in
set_option maxRecDepth 100000 in
theorem mC_67 : (Cond.fieldLink "KindRounds$Row" (35 : Nat) "KindRounds$Row" "terms" "I") ∈ lw_good := good_in (List.mem_append_right _ (List.mem_append_left _ (List.mem_of_getElem? (i := 177) (l := tables_1_1) rfl))) rfl
set_option maxHeartbeats 4000000 in
set_option maxRecDepth 100000 in
theorem mC_68 : (Cond.fieldLink "KindRounds$Row" (25 : Nat) "KindRounds$Row" "termStarts" "[I") ∈ lw_good := good_in (List.mem_append_right _ (List.mem_append_left _ (List.mem_of_getElem? (i := 172) (l := tables_1_1) rfl))) rfl
set_option maxHeartbeats 4000000 in
set_option maxRecDepth 100000 in
theorem mC_69 : (Cond.fieldLink "KindRounds$Row" (28 : Nat) "KindRounds$Row" "termOwners" "[I") ∈ lw_good := good_in (List.mem_append_right _ (List.mem_append_left _ (List.mem_of_getElem? (i := 175) (l := tables_1_1) rfl))) rfl
set_option maxHeartbeats 4000000 in
set_option maxRecDepth 100000 in
theorem mC_70 : (Cond.fieldLink "KindRounds$Row" (9 : Nat) "KindRounds$Row" "sorts" "[I") ∈ lw_good := good_in (List.mem_append_right _ (List.mem_append_left _ (List.mem_of_getElem? (i := 156) (l := tables_1_1) rfl))) rfl
set_option maxHeartbeats 4000000 in
set_option maxRecDepth 100000 in
theorem mC_71 : (Cond.fieldLink "KindRounds$Row" (15 : Nat) "KindRounds$Row" "names" "[J") ∈ lw_good := good_in (List.mem_append_right _ (List.mem_append_left _ (List.mem_of_getElem? (i := 159) (l := tables_1_1) rfl))) rfl
set_option maxHeartbeats 4000000 in
set_option maxRecDepth 100000 in
theorem mC_72 : (Cond.fieldLink "KindRounds$Row" (19 : Nat) "KindRounds$Row" "counts" "[I") ∈ lw_good := good_in (List.mem_append_right _ (List.mem_append_left _ (List.mem_of_getElem? (i := 162) (l := tables_1_1) rfl))) rfl
set_option maxHeartbeats 4000000 in
set_option maxRecDepth 100000 in
theorem mC_73 : (Cond.fieldLink "KindRounds$Row" (22 : Nat) "KindRounds$Row" "spots" "[I") ∈ lw_good := good_in (List.mem_append_right _ (List.mem_append_left _ (List.mem_of_getElem? (i := 166) (l := tables_1_1) rfl))) rfl
set_option maxHeartbeats 4000000 in
set_option maxRecDepth 100000 in
theorem mC_74 : (Cond.methodLink "KindRounds$Row" (38 : Nat) ({ cls := "KindRounds$Row", name := "isFull", desc := "()Z" } : Jvm.MethodName)) ∈ lw_good := good_in (List.mem_append_right _ (List.mem_append_right _ (List.mem_append_right _ (List.mem_append_right _ (List.mem_append_left _ (List.mem_of_getElem? (i := 38) (l := tables_1_4) rfl)))))) rfl
set_option maxHeartbeats 4000000 in
set_option maxRecDepth 100000 in
theorem mC_75 : (Cond.methodLink "KindRounds$Row" (42 : Nat) ({ cls := "java/lang/System", name := "arraycopy", desc := "(Ljava/lang/Object;ILjava/lang/Object;II)V" } : Jvm.MethodName)) ∈ lw_good := good_in (List.mem_append_right _ (List.mem_append_right _ (List.mem_append_right _ (List.mem_append_right _ (List.mem_append_left _ (List.mem_of_getElem? (i := 39) (l := tables_1_4) rfl)))))) rfl
set_option maxHeartbeats 4000000 in
set_option maxRecDepth 100000 in
theorem mC_76 : (Cond.fieldLink "KindRounds$Mentions" (26 : Nat) "KindRounds$Mentions" "size" "I") ∈ lw_good := good_in (List.mem_append_right _ (List.mem_append_right _ (List.mem_append_left _ (List.mem_of_getElem? (i := 60) (l := tables_1_2) rfl)))) rfl
set_option maxHeartbeats 4000000 in
set_option maxRecDepth 100000 in
theorem mC_77 : (Cond.fieldLink "KindRounds$Mentions" (9 : Nat) "KindRounds$Mentions" "roles" "[I") ∈ lw_good := good_in (List.mem_append_right _ (List.mem_append_right _ (List.mem_append_left _ (List.mem_of_getElem? (i := 46) (l := tables_1_2) rfl)))) rfl
set_option maxHeartbeats 4000000 in
set_option maxRecDepth 100000 in
theorem mC_78 : (Cond.fieldLink "KindRounds$Mentions" (13 : Nat) "KindRounds$Mentions" "names" "[J") ∈ lw_good := good_in (List.mem_append_right _ (List.mem_append_right _ (List.mem_append_left _ (List.mem_of_getElem? (i := 49) (l := tables_1_2) rfl)))) rfl
set_option maxHeartbeats 4000000 in
set_option maxRecDepth 100000 in
theorem mC_79 : (Cond.methodLinkNest "KindRounds$Mentions" (30 : Nat) ({ cls := "KindRounds$Tape", name := "name", desc := "()J" } : Jvm.MethodName) "KindRounds") ∈ lw_nest := nest_in (List.mem_append_right _ (List.mem_append_right _ (List.mem_append_right _ (List.mem_append_left _ (List.mem_of_getElem? (i := 220) (l := tables_1_3) rfl))))) rfl
set_option maxHeartbeats 4000000 in
set_option maxRecDepth 100000 in
theorem mC_80 : (Cond.fieldLink "KindRounds$Mentions" (17 : Nat) "KindRounds$Mentions" "spots" "[I") ∈ lw_good := good_in (List.mem_append_right _ (List.mem_append_right _ (List.mem_append_left _ (List.mem_of_getElem? (i := 52) (l := tables_1_2) rfl)))) rfl
set_option maxHeartbeats 4000000 in
set_option maxRecDepth 100000 in
theorem mC_81 : (Cond.methodLinkNest "KindRounds$Mentions" (36 : Nat) ({ cls := "KindRounds$Tape", name := "start", desc := "()I" } : Jvm.MethodName) "KindRounds") ∈ lw_nest := nest_in (List.mem_append_right _ (List.mem_append_right _ (List.mem_append_right _ (List.mem_append_left _ (List.mem_of_getElem? (i := 221) (l := tables_1_3) rfl))))) rfl
set_option maxHeartbeats 4000000 in
set_option maxRecDepth 100000 in
theorem mC_82 : (Cond.fieldLink "KindRounds$Mentions" (20 : Nat) "KindRounds$Mentions" "owners" "[I") ∈ lw_good := good_in (List.mem_append_right _ (List.mem_append_right _ (List.mem_append_left _ (List.mem_of_getElem? (i := 55) (l := tables_1_2) rfl)))) rfl
set_option maxHeartbeats 4000000 in
set_option maxRecDepth 100000 in
theorem mC_83 : (Cond.fieldLink "KindRounds$Mentions" (23 : Nat) "KindRounds$Mentions" "values" "[I") ∈ lw_good := good_in (List.mem_append_right _ (List.mem_append_right _ (List.mem_append_left _ (List.mem_of_getElem? (i := 57) (l := tables_1_2) rfl)))) rfl
set_option maxHeartbeats 4000000 in
set_option maxRecDepth 100000 in
theorem mC_84 : (Cond.fieldLink "KindRounds$Text" (62 : Nat) "KindRounds$Text" "size" "I") ∈ lw_good := good_in (List.mem_append_right _ (List.mem_append_left _ (List.mem_of_getElem? (i := 196) (l := tables_1_1) rfl))) rfl
set_option maxHeartbeats 4000000 in
set_option maxRecDepth 100000 in
theorem mC_85 : (Cond.fieldLink "KindRounds$Text" (66 : Nat) "KindRounds$Text" "groupCount" "I") ∈ lw_good := good_in (List.mem_append_right _ (List.mem_append_left _ (List.mem_of_getElem? (i := 230) (l := tables_1_1) rfl))) rfl
set_option maxHeartbeats 4000000 in
set_option maxRecDepth 100000 in
theorem mC_86 : (Cond.fieldLink "KindRounds$Text" (58 : Nat) "KindRounds$Text" "row" "LKindRounds$Row;") ∈ lw_good := good_in (List.mem_append_right _ (List.mem_append_right _ (List.mem_append_left _ (List.mem_of_getElem? (i := 2) (l := tables_1_2) rfl)))) rfl
set_option maxHeartbeats 4000000 in
set_option maxRecDepth 100000 in
theorem mC_87 : (Cond.methodLinkNest "KindRounds$Text" (69 : Nat) ({ cls := "KindRounds$Row", name := "clear", desc := "()V" } : Jvm.MethodName) "KindRounds") ∈ lw_nest := nest_in (List.mem_append_right _ (List.mem_append_right _ (List.mem_append_right _ (List.mem_append_left _ (List.mem_of_getElem? (i := 53) (l := tables_1_3) rfl))))) rfl
set_option maxHeartbeats 4000000 in
set_option maxRecDepth 100000 in
theorem mC_88 : (Cond.fieldLink "KindRounds$Text" (9 : Nat) "KindRounds$Text" "sorts" "[I") ∈ lw_good := good_in (List.mem_append_right _ (List.mem_append_left _ (List.mem_of_getElem? (i := 201) (l := tables_1_1) rfl))) rfl
set_option maxHeartbeats 4000000 in
set_option maxRecDepth 100000 in
theorem mC_89 : (Cond.fieldLink "KindRounds$Text" (15 : Nat) "KindRounds$Text" "names" "[J") ∈ lw_good := good_in (List.mem_append_right _ (List.mem_append_left _ (List.mem_of_getElem? (i := 205) (l := tables_1_1) rfl))) rfl
set_option maxHeartbeats 4000000 in
set_option maxRecDepth 100000 in
theorem mC_90 : (Cond.fieldLink "KindRounds$Text" (19 : Nat) "KindRounds$Text" "spots" "[I") ∈ lw_good := good_in (List.mem_append_right _ (List.mem_append_left _ (List.mem_of_getElem? (i := 206) (l := tables_1_1) rfl))) rfl
set_option maxHeartbeats 4000000 in
set_option maxRecDepth 100000 in
theorem mC_91 : (Cond.fieldLink "KindRounds$Text" (22 : Nat) "KindRounds$Text" "params" "[I") ∈ lw_good := good_in (List.mem_append_right _ (List.mem_append_left _ (List.mem_of_getElem? (i := 209) (l := tables_1_1) rfl))) rfl
set_option maxHeartbeats 4000000 in
set_option maxRecDepth 100000 in
theorem mC_92 : (Cond.fieldLink "KindRounds$Text" (28 : Nat) "KindRounds$Text" "items" "[I") ∈ lw_good := good_in (List.mem_append_right _ (List.mem_append_left _ (List.mem_of_getElem? (i := 216) (l := tables_1_1) rfl))) rfl
set_option maxHeartbeats 4000000 in
set_option maxRecDepth 100000 in
theorem mC_93 : (Cond.fieldLink "KindRounds$Text" (31 : Nat) "KindRounds$Text" "opens" "[I") ∈ lw_good := good_in (List.mem_append_right _ (List.mem_append_left _ (List.mem_of_getElem? (i := 219) (l := tables_1_1) rfl))) rfl
set_option maxHeartbeats 4000000 in
set_option maxRecDepth 100000 in
theorem mC_94 : (Cond.fieldLink "KindRounds$Text" (37 : Nat) "KindRounds$Text" "nameMasks" "[I") ∈ lw_good := good_in (List.mem_append_right _ (List.mem_append_left _ (List.mem_of_getElem? (i := 224) (l := tables_1_1) rfl))) rfl
set_option maxHeartbeats 4000000 in
set_option maxRecDepth 100000 in
theorem mC_95 : (Cond.fieldLink "KindRounds$Text" (25 : Nat) "KindRounds$Text" "paramNames" "[J") ∈ lw_good := good_in (List.mem_append_right _ (List.mem_append_left _ (List.mem_of_getElem? (i := 215) (l := tables_1_1) rfl))) rfl
set_option maxHeartbeats 4000000 in
set_option maxRecDepth 100000 in
theorem mC_96 : (Cond.methodLink "KindRounds$Text" (72 : Nat) ({ cls := "KindRounds$Text", name := "findType", desc := "(J)I" } : Jvm.MethodName)) ∈ lw_good := good_in (List.mem_append_right _ (List.mem_append_right _ (List.mem_append_right _ (List.mem_append_right _ (List.mem_append_left _ (List.mem_of_getElem? (i := 124) (l := tables_1_4) rfl)))))) rfl
set_option maxHeartbeats 4000000 in
set_option maxRecDepth 100000 in
theorem mC_97 : (Cond.fieldLink "KindRounds$Text" (43 : Nat) "KindRounds$Text" "groupMasks" "[I") ∈ lw_good := good_in (List.mem_append_right _ (List.mem_append_left _ (List.mem_of_getElem? (i := 228) (l := tables_1_1) rfl))) rfl
set_option maxHeartbeats 4000000 in
set_option maxRecDepth 100000 in
theorem mC_98 : (Cond.fieldLink "KindRounds$Text" (34 : Nat) "KindRounds$Text" "groupOf" "[I") ∈ lw_good := good_in (List.mem_append_right _ (List.mem_append_left _ (List.mem_of_getElem? (i := 222) (l := tables_1_1) rfl))) rfl
set_option maxHeartbeats 4000000 in
set_option maxRecDepth 100000 in
theorem mC_99 : (Cond.methodLink "KindRounds$Text" (86 : Nat) ({ cls := "KindRounds$Text", name := "nextOf", desc := "(I)I" } : Jvm.MethodName)) ∈ lw_good := good_in (List.mem_append_right _ (List.mem_append_right _ (List.mem_append_right _ (List.mem_append_right _ (List.mem_append_left _ (List.mem_of_getElem? (i := 132) (l := tables_1_4) rfl)))))) rfl
set_option maxHeartbeats 4000000 in
set_option maxRecDepth 100000 in
theorem mC_100 : (Cond.methodLink "KindRounds$Text" (90 : Nat) ({ cls := "KindRounds$Text", name := "ringOf", desc := "(I)I" } : Jvm.MethodName)) ∈ lw_good := good_in (List.mem_append_right _ (List.mem_append_right _ (List.mem_append_right _ (List.mem_append_right _ (List.mem_append_left _ (List.mem_of_getElem? (i := 136) (l := tables_1_4) rfl)))))) rfl
set_option maxHeartbeats 4000000 in
set_option maxRecDepth 100000 in
theorem mC_101 : (Cond.fieldLink "KindRounds$Text" (40 : Nat) "KindRounds$Text" "needMasks" "[I") ∈ lw_good := good_in (List.mem_append_right _ (List.mem_append_left _ (List.mem_of_getElem? (i := 226) (l := tables_1_1) rfl))) rfl
set_option maxHeartbeats 4000000 in
set_option maxRecDepth 100000 in
theorem mC_102 : (Cond.methodLink "KindRounds$Text" (76 : Nat) ({ cls := "java/lang/System", name := "arraycopy", desc := "(Ljava/lang/Object;ILjava/lang/Object;II)V" } : Jvm.MethodName)) ∈ lw_good := good_in (List.mem_append_right _ (List.mem_append_right _ (List.mem_append_right _ (List.mem_append_right _ (List.mem_append_left _ (List.mem_of_getElem? (i := 130) (l := tables_1_4) rfl)))))) rfl
set_option maxHeartbeats 4000000 in
set_option maxRecDepth 100000 in
theorem mC_103 : (Cond.methodLink "KindRounds$Text" (82 : Nat) ({ cls := "KindRounds$Text", name := "closeMasks", desc := "([I)V" } : Jvm.MethodName)) ∈ lw_good := good_in (List.mem_append_right _ (List.mem_append_right _ (List.mem_append_right _ (List.mem_append_right _ (List.mem_append_left _ (List.mem_of_getElem? (i := 131) (l := tables_1_4) rfl)))))) rfl
set_option maxHeartbeats 4000000 in
set_option maxRecDepth 100000 in
theorem mC_104 : (Cond.methodLink "KindRounds$Parser" (52 : Nat) ({ cls := "KindRounds$Parser", name := "expect", desc := "(I)Z" } : Jvm.MethodName)) ∈ lw_good := good_in (List.mem_append_right _ (List.mem_append_right _ (List.mem_append_right _ (List.mem_append_left _ (List.mem_of_getElem? (i := 234) (l := tables_1_3) rfl))))) rfl
set_option maxHeartbeats 4000000 in
set_option maxRecDepth 100000 in
theorem mC_105 : (Cond.fieldLink "KindRounds$Parser" (9 : Nat) "KindRounds$Parser" "tape" "LKindRounds$Tape;") ∈ lw_good := good_in (List.mem_append_right _ (List.mem_append_right _ (List.mem_append_left _ (List.mem_of_getElem? (i := 85) (l := tables_1_2) rfl)))) rfl
set_option maxHeartbeats 4000000 in
set_option maxRecDepth 100000 in
theorem mC_106 : (Cond.methodLinkNest "KindRounds$Parser" (40 : Nat) ({ cls := "KindRounds$Tape", name := "sort", desc := "()I" } : Jvm.MethodName) "KindRounds") ∈ lw_nest := nest_in (List.mem_append_right _ (List.mem_append_right _ (List.mem_append_right _ (List.mem_append_left _ (List.mem_of_getElem? (i := 180) (l := tables_1_3) rfl))))) rfl
set_option maxHeartbeats 4000000 in
set_option maxRecDepth 100000 in
theorem mC_107 : (Cond.methodLink "KindRounds$Parser" (44 : Nat) ({ cls := "KindRounds$Parser", name := "parseHead", desc := "(I)Z" } : Jvm.MethodName)) ∈ lw_good := good_in (List.mem_append_right _ (List.mem_append_right _ (List.mem_append_right _ (List.mem_append_left _ (List.mem_of_getElem? (i := 184) (l := tables_1_3) rfl))))) rfl
set_option maxHeartbeats 4000000 in
set_option maxRecDepth 100000 in
theorem mC_108 : (Cond.methodLink "KindRounds$Parser" (48 : Nat) ({ cls := "KindRounds$Parser", name := "parseParams", desc := "()Z" } : Jvm.MethodName)) ∈ lw_good := good_in (List.mem_append_right _ (List.mem_append_right _ (List.mem_append_right _ (List.mem_append_left _ (List.mem_of_getElem? (i := 222) (l := tables_1_3) rfl))))) rfl
set_option maxHeartbeats 4000000 in
set_option maxRecDepth 100000 in
theorem mC_109 : (Cond.methodLink "KindRounds$Parser" (55 : Nat) ({ cls := "KindRounds$Parser", name := "parseCons", desc := "()Z" } : Jvm.MethodName)) ∈ lw_good := good_in (List.mem_append_right _ (List.mem_append_right _ (List.mem_append_right _ (List.mem_append_left _ (List.mem_of_getElem? (i := 238) (l := tables_1_3) rfl))))) rfl
set_option maxHeartbeats 4000000 in
set_option maxRecDepth 100000 in
theorem mC_110 : (Cond.fieldLink "KindRounds$Parser" (37 : Nat) "KindRounds$Parser" "row" "LKindRounds$Row;") ∈ lw_good := good_in (List.mem_append_right _ (List.mem_append_right _ (List.mem_append_left _ (List.mem_of_getElem? (i := 90) (l := tables_1_2) rfl)))) rfl
set_option maxHeartbeats 4000000 in
set_option maxRecDepth 100000 in
theorem mC_111 : (Cond.fieldLink "KindRounds$Parser" (58 : Nat) "KindRounds$Parser" "owner" "I") ∈ lw_good := good_in (List.mem_append_right _ (List.mem_append_right _ (List.mem_append_left _ (List.mem_of_getElem? (i := 91) (l := tables_1_2) rfl)))) rfl
set_option maxHeartbeats 4000000 in
set_option maxRecDepth 100000 in
theorem mC_112 : (Cond.methodLinkNest "KindRounds$Parser" (62 : Nat) ({ cls := "KindRounds$Row", name := "beginTerm", desc := "(I)Z" } : Jvm.MethodName) "KindRounds") ∈ lw_nest := nest_in (List.mem_append_right _ (List.mem_append_right _ (List.mem_append_right _ (List.mem_append_right _ (List.mem_append_left _ (List.mem_of_getElem? (i := 6) (l := tables_1_4) rfl)))))) rfl
set_option maxHeartbeats 4000000 in
set_option maxRecDepth 100000 in
theorem mC_113 : (Cond.methodLink "KindRounds$Parser" (67 : Nat) ({ cls := "KindRounds$Parser", name := "parseType", desc := "(I)Z" } : Jvm.MethodName)) ∈ lw_good := good_in (List.mem_append_right _ (List.mem_append_right _ (List.mem_append_right _ (List.mem_append_right _ (List.mem_append_left _ (List.mem_of_getElem? (i := 18) (l := tables_1_4) rfl)))))) rfl
set_option maxHeartbeats 4000000 in
set_option maxRecDepth 100000 in
theorem mC_114 : (Cond.methodLink "KindRounds$Parser" (70 : Nat) ({ cls := "KindRounds$Parser", name := "parseParam", desc := "()Z" } : Jvm.MethodName)) ∈ lw_good := good_in (List.mem_append_right _ (List.mem_append_right _ (List.mem_append_right _ (List.mem_append_left _ (List.mem_of_getElem? (i := 226) (l := tables_1_3) rfl))))) rfl
set_option maxHeartbeats 4000000 in
set_option maxRecDepth 100000 in
theorem mC_115 : (Cond.methodLink "KindRounds$Parser" (73 : Nat) ({ cls := "KindRounds$Parser", name := "parseMethods", desc := "()Z" } : Jvm.MethodName)) ∈ lw_good := good_in (List.mem_append_right _ (List.mem_append_right _ (List.mem_append_right _ (List.mem_append_right _ (List.mem_append_left _ (List.mem_of_getElem? (i := 42) (l := tables_1_4) rfl)))))) rfl
set_option maxHeartbeats 4000000 in
set_option maxRecDepth 100000 in
theorem mC_116 : (Cond.methodLink "KindRounds$Parser" (76 : Nat) ({ cls := "KindRounds$Parser", name := "parseTold", desc := "()Z" } : Jvm.MethodName)) ∈ lw_good := good_in (List.mem_append_right _ (List.mem_append_right _ (List.mem_append_right _ (List.mem_append_right _ (List.mem_append_left _ (List.mem_of_getElem? (i := 46) (l := tables_1_4) rfl)))))) rfl
set_option maxHeartbeats 4000000 in
set_option maxRecDepth 100000 in
theorem mC_117 : (Cond.methodLink "KindRounds$Parser" (79 : Nat) ({ cls := "KindRounds$Parser", name := "misfit", desc := "()Z" } : Jvm.MethodName)) ∈ lw_good := good_in (List.mem_append_right _ (List.mem_append_right _ (List.mem_append_right _ (List.mem_append_left _ (List.mem_of_getElem? (i := 192) (l := tables_1_3) rfl))))) rfl
set_option maxHeartbeats 4000000 in
set_option maxRecDepth 100000 in
theorem mC_118 : (Cond.fieldLink "KindRounds$Parser" (15 : Nat) "KindRounds$Parser" "text" "LKindRounds$Text;") ∈ lw_good := good_in (List.mem_append_right _ (List.mem_append_right _ (List.mem_append_left _ (List.mem_of_getElem? (i := 86) (l := tables_1_2) rfl)))) rfl
set_option maxHeartbeats 4000000 in
set_option maxRecDepth 100000 in
theorem mC_119 : (Cond.fieldLinkNest "KindRounds$Parser" (31 : Nat) "KindRounds$Text" "row" "LKindRounds$Row;" "KindRounds") ∈ lw_nest := nest_in (List.mem_append_right _ (List.mem_append_right _ (List.mem_append_left _ (List.mem_of_getElem? (i := 1) (l := tables_1_2) rfl)))) rfl
set_option maxHeartbeats 4000000 in
set_option maxRecDepth 100000 in
theorem mC_120 : (Cond.fieldLink "KindRounds$Parser" (27 : Nat) "KindRounds$Parser" "fault" "LKindRounds$Fault;") ∈ lw_good := good_in (List.mem_append_right _ (List.mem_append_right _ (List.mem_append_left _ (List.mem_of_getElem? (i := 89) (l := tables_1_2) rfl)))) rfl
set_option maxHeartbeats 4000000 in
set_option maxRecDepth 100000 in
theorem mC_121 : (Cond.methodLinkNest "KindRounds$Parser" (82 : Nat) ({ cls := "KindRounds$Tape", name := "start", desc := "()I" } : Jvm.MethodName) "KindRounds") ∈ lw_nest := nest_in (List.mem_append_right _ (List.mem_append_right _ (List.mem_append_right _ (List.mem_append_left _ (List.mem_of_getElem? (i := 196) (l := tables_1_3) rfl))))) rfl
set_option maxHeartbeats 4000000 in
set_option maxRecDepth 100000 in
theorem mC_122 : (Cond.methodLinkNest "KindRounds$Parser" (85 : Nat) ({ cls := "KindRounds$Fault", name := "raise", desc := "(II)V" } : Jvm.MethodName) "KindRounds") ∈ lw_nest := nest_in (List.mem_append_right _ (List.mem_append_right _ (List.mem_append_right _ (List.mem_append_left _ (List.mem_of_getElem? (i := 200) (l := tables_1_3) rfl))))) rfl
set_option maxHeartbeats 4000000 in
set_option maxRecDepth 100000 in
theorem mC_123 : (Cond.methodLinkNest "KindRounds$Parser" (91 : Nat) ({ cls := "KindRounds$Tape", name := "step", desc := "()V" } : Jvm.MethodName) "KindRounds") ∈ lw_nest := nest_in (List.mem_append_right _ (List.mem_append_right _ (List.mem_append_right _ (List.mem_append_left _ (List.mem_of_getElem? (i := 188) (l := tables_1_3) rfl))))) rfl
set_option maxHeartbeats 4000000 in
set_option maxRecDepth 100000 in
theorem mC_124 : (Cond.fieldLinkNest "KindRounds$Parser" (94 : Nat) "KindRounds$Text" "size" "I" "KindRounds") ∈ lw_nest := nest_in (List.mem_append_right _ (List.mem_append_left _ (List.mem_of_getElem? (i := 199) (l := tables_1_1) rfl))) rfl
set_option maxHeartbeats 4000000 in
set_option maxRecDepth 100000 in
theorem mC_125 : (Cond.methodLinkNest "KindRounds$Parser" (100 : Nat) ({ cls := "KindRounds$Tape", name := "name", desc := "()J" } : Jvm.MethodName) "KindRounds") ∈ lw_nest := nest_in (List.mem_append_right _ (List.mem_append_right _ (List.mem_append_right _ (List.mem_append_left _ (List.mem_of_getElem? (i := 208) (l := tables_1_3) rfl))))) rfl
set_option maxHeartbeats 4000000 in
set_option maxRecDepth 100000 in
theorem mC_126 : (Cond.methodLinkNest "KindRounds$Parser" (104 : Nat) ({ cls := "KindRounds$Text", name := "declare", desc := "(IJI)V" } : Jvm.MethodName) "KindRounds") ∈ lw_nest := nest_in (List.mem_append_right _ (List.mem_append_right _ (List.mem_append_right _ (List.mem_append_left _ (List.mem_of_getElem? (i := 212) (l := tables_1_3) rfl))))) rfl
set_option maxHeartbeats 4000000 in
set_option maxRecDepth 100000 in
theorem mC_127 : (Cond.fieldLink "KindRounds$Parser" (19 : Nat) "KindRounds$Parser" "mentions" "LKindRounds$Mentions;") ∈ lw_good := good_in (List.mem_append_right _ (List.mem_append_right _ (List.mem_append_left _ (List.mem_of_getElem? (i := 87) (l := tables_1_2) rfl)))) rfl
set_option maxHeartbeats 4000000 in
set_option maxRecDepth 100000 in
theorem mC_128 : (Cond.methodLinkNest "KindRounds$Parser" (110 : Nat) ({ cls := "KindRounds$Mentions", name := "add", desc := "(IILKindRounds$Tape;)V" } : Jvm.MethodName) "KindRounds") ∈ lw_nest := nest_in (List.mem_append_right _ (List.mem_append_right _ (List.mem_append_right _ (List.mem_append_left _ (List.mem_of_getElem? (i := 216) (l := tables_1_3) rfl))))) rfl
set_option maxHeartbeats 4000000 in
set_option maxRecDepth 100000 in
theorem mC_129 : (Cond.methodLink "KindRounds$Parser" (97 : Nat) ({ cls := "KindRounds$Parser", name := "tooMuch", desc := "()Z" } : Jvm.MethodName)) ∈ lw_good := good_in (List.mem_append_right _ (List.mem_append_right _ (List.mem_append_right _ (List.mem_append_left _ (List.mem_of_getElem? (i := 204) (l := tables_1_3) rfl))))) rfl
set_option maxHeartbeats 4000000 in
set_option maxRecDepth 100000 in
theorem mC_130 : (Cond.fieldLinkNest "KindRounds$Parser" (114 : Nat) "KindRounds$Text" "params" "[I" "KindRounds") ∈ lw_nest := nest_in (List.mem_append_right _ (List.mem_append_left _ (List.mem_of_getElem? (i := 213) (l := tables_1_1) rfl))) rfl
set_option maxHeartbeats 4000000 in
set_option maxRecDepth 100000 in
theorem mC_131 : (Cond.methodLinkNest "KindRounds$Parser" (118 : Nat) ({ cls := "KindRounds$Text", name := "addParam", desc := "(IJ)V" } : Jvm.MethodName) "KindRounds") ∈ lw_nest := nest_in (List.mem_append_right _ (List.mem_append_right _ (List.mem_append_right _ (List.mem_append_left _ (List.mem_of_getElem? (i := 230) (l := tables_1_3) rfl))))) rfl
set_option maxHeartbeats 4000000 in
set_option maxRecDepth 100000 in
theorem mC_132 : (Cond.methodLink "KindRounds$Parser" (125 : Nat) ({ cls := "KindRounds$Parser", name := "startsOne", desc := "()Z" } : Jvm.MethodName)) ∈ lw_good := good_in (List.mem_append_right _ (List.mem_append_right _ (List.mem_append_right _ (List.mem_append_right _ (List.mem_append_left _ (List.mem_of_getElem? (i := 2) (l := tables_1_4) rfl)))))) rfl
set_option maxHeartbeats 4000000 in
set_option maxRecDepth 100000 in
theorem mC_133 : (Cond.methodLink "KindRounds$Parser" (128 : Nat) ({ cls := "KindRounds$Parser", name := "parseOne", desc := "(I)Z" } : Jvm.MethodName)) ∈ lw_good := good_in (List.mem_append_right _ (List.mem_append_right _ (List.mem_append_right _ (List.mem_append_right _ (List.mem_append_left _ (List.mem_of_getElem? (i := 10) (l := tables_1_4) rfl)))))) rfl
set_option maxHeartbeats 4000000 in
set_option maxRecDepth 100000 in
theorem mC_134 : (Cond.fieldLinkNest "KindRounds$Parser" (122 : Nat) "KindRounds$Text" "items" "[I" "KindRounds") ∈ lw_nest := nest_in (List.mem_append_right _ (List.mem_append_left _ (List.mem_of_getElem? (i := 218) (l := tables_1_1) rfl))) rfl
set_option maxHeartbeats 4000000 in
set_option maxRecDepth 100000 in
theorem mC_135 : (Cond.fieldLinkNest "KindRounds$Parser" (131 : Nat) "KindRounds$Mentions" "size" "I" "KindRounds") ∈ lw_nest := nest_in (List.mem_append_right _ (List.mem_append_right _ (List.mem_append_left _ (List.mem_of_getElem? (i := 63) (l := tables_1_2) rfl)))) rfl
set_option maxHeartbeats 4000000 in
set_option maxRecDepth 100000 in
theorem mC_136 : (Cond.methodLink "KindRounds$Parser" (132 : Nat) ({ cls := "KindRounds$Parser", name := "parseKind", desc := "(I)I" } : Jvm.MethodName)) ∈ lw_good := good_in (List.mem_append_right _ (List.mem_append_right _ (List.mem_append_right _ (List.mem_append_right _ (List.mem_append_left _ (List.mem_of_getElem? (i := 50) (l := tables_1_4) rfl)))))) rfl
set_option maxHeartbeats 4000000 in
set_option maxRecDepth 100000 in
theorem mC_137 : (Cond.methodLinkNest "KindRounds$Parser" (136 : Nat) ({ cls := "KindRounds$Mentions", name := "setValue", desc := "(II)V" } : Jvm.MethodName) "KindRounds") ∈ lw_nest := nest_in (List.mem_append_right _ (List.mem_append_right _ (List.mem_append_right _ (List.mem_append_right _ (List.mem_append_left _ (List.mem_of_getElem? (i := 26) (l := tables_1_4) rfl)))))) rfl
set_option maxHeartbeats 4000000 in
set_option maxRecDepth 100000 in
theorem mC_138 : (Cond.fieldLink "KindRounds$Parser" (23 : Nat) "KindRounds$Parser" "kinds" "LKindRounds$Kinds;") ∈ lw_good := good_in (List.mem_append_right _ (List.mem_append_right _ (List.mem_append_left _ (List.mem_of_getElem? (i := 88) (l := tables_1_2) rfl)))) rfl
set_option maxHeartbeats 4000000 in
set_option maxRecDepth 100000 in
theorem mC_139 : (Cond.fieldLinkNest "KindRounds$Parser" (148 : Nat) "KindRounds$Kinds" "right" "[I" "KindRounds") ∈ lw_nest := nest_in (List.mem_append_right _ (List.mem_append_left _ (List.mem_of_getElem? (i := 111) (l := tables_1_1) rfl))) rfl
set_option maxHeartbeats 4000000 in
set_option maxRecDepth 100000 in
theorem mC_140 : (Cond.methodLinkNest "KindRounds$Parser" (142 : Nat) ({ cls := "KindRounds$Kinds", name := "makeArrow", desc := "(II)I" } : Jvm.MethodName) "KindRounds") ∈ lw_nest := nest_in (List.mem_append_right _ (List.mem_append_right _ (List.mem_append_right _ (List.mem_append_right _ (List.mem_append_left _ (List.mem_of_getElem? (i := 58) (l := tables_1_4) rfl)))))) rfl
set_option maxHeartbeats 4000000 in
set_option maxRecDepth 100000 in
theorem mC_141 : (Cond.methodLink "KindRounds$Parser" (139 : Nat) ({ cls := "KindRounds$Parser", name := "parsePart", desc := "(I)I" } : Jvm.MethodName)) ∈ lw_good := good_in (List.mem_append_right _ (List.mem_append_right _ (List.mem_append_right _ (List.mem_append_right _ (List.mem_append_left _ (List.mem_of_getElem? (i := 54) (l := tables_1_4) rfl)))))) rfl
set_option maxHeartbeats 4000000 in
set_option maxRecDepth 100000 in
theorem mC_142 : (Cond.fieldLinkNest "KindRounds$Parser" (151 : Nat) "KindRounds$Row" "size" "I" "KindRounds") ∈ lw_nest := nest_in (List.mem_append_right _ (List.mem_append_left _ (List.mem_of_getElem? (i := 171) (l := tables_1_1) rfl))) rfl
set_option maxHeartbeats 4000000 in
set_option maxRecDepth 100000 in
theorem mC_143 : (Cond.methodLink "KindRounds$Parser" (152 : Nat) ({ cls := "KindRounds$Parser", name := "parseSome", desc := "(I)Z" } : Jvm.MethodName)) ∈ lw_good := good_in (List.mem_append_right _ (List.mem_append_right _ (List.mem_append_right _ (List.mem_append_right _ (List.mem_append_left _ (List.mem_of_getElem? (i := 22) (l := tables_1_4) rfl)))))) rfl
set_option maxHeartbeats 4000000 in
set_option maxRecDepth 100000 in
theorem mC_144 : (Cond.methodLinkNest "KindRounds$Parser" (155 : Nat) ({ cls := "KindRounds$Row", name := "isFull", desc := "()Z" } : Jvm.MethodName) "KindRounds") ∈ lw_nest := nest_in (List.mem_append_right _ (List.mem_append_right _ (List.mem_append_right _ (List.mem_append_right _ (List.mem_append_left _ (List.mem_of_getElem? (i := 30) (l := tables_1_4) rfl)))))) rfl
set_option maxHeartbeats 4000000 in
set_option maxRecDepth 100000 in
theorem mC_145 : (Cond.methodLinkNest "KindRounds$Parser" (158 : Nat) ({ cls := "KindRounds$Row", name := "insertArrow", desc := "(I)V" } : Jvm.MethodName) "KindRounds") ∈ lw_nest := nest_in (List.mem_append_right _ (List.mem_append_right _ (List.mem_append_right _ (List.mem_append_right _ (List.mem_append_left _ (List.mem_of_getElem? (i := 34) (l := tables_1_4) rfl)))))) rfl
set_option maxHeartbeats 4000000 in
set_option maxRecDepth 100000 in
theorem mC_146 : (Cond.fieldLinkNest "KindRounds$Parser" (162 : Nat) "KindRounds$Row" "counts" "[I" "KindRounds") ∈ lw_nest := nest_in (List.mem_append_right _ (List.mem_append_left _ (List.mem_of_getElem? (i := 165) (l := tables_1_1) rfl))) rfl
set_option maxHeartbeats 4000000 in
set_option maxRecDepth 100000 in
theorem mC_147 : (Cond.methodLinkNest "KindRounds$Parser" (165 : Nat) ({ cls := "KindRounds$Row", name := "add", desc := "(IJII)Z" } : Jvm.MethodName) "KindRounds") ∈ lw_nest := nest_in (List.mem_append_right _ (List.mem_append_right _ (List.mem_append_right _ (List.mem_append_right _ (List.mem_append_left _ (List.mem_of_getElem? (i := 14) (l := tables_1_4) rfl)))))) rfl
set_option maxHeartbeats 4000000 in
set_option maxRecDepth 100000 in
theorem mC_148 : (Cond.fieldLinkNest "KindRounds$Parser" (168 : Nat) "KindRounds$Row" "spots" "[I" "KindRounds") ∈ lw_nest := nest_in (List.mem_append_right _ (List.mem_append_left _ (List.mem_of_getElem? (i := 168) (l := tables_1_1) rfl))) rfl
set_option maxHeartbeats 4000000 in
set_option maxRecDepth 100000 in
theorem mC_149 : (Cond.methodLink "KindRounds$Checker" (42 : Nat) ({ cls := "KindRounds$Checker", name := "checkLacks", desc := "()V" } : Jvm.MethodName)) ∈ lw_good := good_in (List.mem_append_right _ (List.mem_append_right _ (List.mem_append_right _ (List.mem_append_right _ (List.mem_append_left _ (List.mem_of_getElem? (i := 116) (l := tables_1_4) rfl)))))) rfl
set_option maxHeartbeats 4000000 in
set_option maxRecDepth 100000 in
theorem mC_150 : (Cond.methodLink "KindRounds$Checker" (27 : Nat) ({ cls := "KindRounds$Checker", name := "checkNames", desc := "()V" } : Jvm.MethodName)) ∈ lw_good := good_in (List.mem_append_right _ (List.mem_append_right _ (List.mem_append_right _ (List.mem_append_right _ (List.mem_append_left _ (List.mem_of_getElem? (i := 66) (l := tables_1_4) rfl)))))) rfl
set_option maxHeartbeats 4000000 in
set_option maxRecDepth 100000 in
theorem mC_151 : (Cond.fieldLink "KindRounds$Checker" (19 : Nat) "KindRounds$Checker" "fault" "LKindRounds$Fault;") ∈ lw_good := good_in (List.mem_append_right _ (List.mem_append_right _ (List.mem_append_left _ (List.mem_of_getElem? (i := 115) (l := tables_1_2) rfl)))) rfl
set_option maxHeartbeats 4000000 in
set_option maxRecDepth 100000 in
theorem mC_152 : (Cond.methodLinkNest "KindRounds$Checker" (30 : Nat) ({ cls := "KindRounds$Fault", name := "isThere", desc := "()Z" } : Jvm.MethodName) "KindRounds") ∈ lw_nest := nest_in (List.mem_append_right _ (List.mem_append_right _ (List.mem_append_right _ (List.mem_append_right _ (List.mem_append_left _ (List.mem_of_getElem? (i := 70) (l := tables_1_4) rfl)))))) rfl
set_option maxHeartbeats 4000000 in
set_option maxRecDepth 100000 in
theorem mC_153 : (Cond.methodLink "KindRounds$Checker" (36 : Nat) ({ cls := "KindRounds$Checker", name := "noteNames", desc := "()V" } : Jvm.MethodName)) ∈ lw_good := good_in (List.mem_append_right _ (List.mem_append_right _ (List.mem_append_right _ (List.mem_append_right _ (List.mem_append_left _ (List.mem_of_getElem? (i := 104) (l := tables_1_4) rfl)))))) rfl
set_option maxHeartbeats 4000000 in
set_option maxRecDepth 100000 in
theorem mC_154 : (Cond.methodLink "KindRounds$Checker" (39 : Nat) ({ cls := "KindRounds$Checker", name := "checkRings", desc := "()V" } : Jvm.MethodName)) ∈ lw_good := good_in (List.mem_append_right _ (List.mem_append_right _ (List.mem_append_right _ (List.mem_append_right _ (List.mem_append_left _ (List.mem_of_getElem? (i := 108) (l := tables_1_4) rfl)))))) rfl
set_option maxHeartbeats 4000000 in
set_option maxRecDepth 100000 in
theorem mC_155 : (Cond.fieldLink "KindRounds$Checker" (15 : Nat) "KindRounds$Checker" "mentions" "LKindRounds$Mentions;") ∈ lw_good := good_in (List.mem_append_right _ (List.mem_append_right _ (List.mem_append_left _ (List.mem_of_getElem? (i := 114) (l := tables_1_2) rfl)))) rfl
set_option maxHeartbeats 4000000 in
set_option maxRecDepth 100000 in
theorem mC_156 : (Cond.fieldLinkNest "KindRounds$Checker" (45 : Nat) "KindRounds$Mentions" "size" "I" "KindRounds") ∈ lw_nest := nest_in (List.mem_append_right _ (List.mem_append_right _ (List.mem_append_left _ (List.mem_of_getElem? (i := 61) (l := tables_1_2) rfl)))) rfl
set_option maxHeartbeats 4000000 in
set_option maxRecDepth 100000 in
theorem mC_157 : (Cond.methodLink "KindRounds$Checker" (51 : Nat) ({ cls := "KindRounds$Checker", name := "isBadName", desc := "(I)Z" } : Jvm.MethodName)) ∈ lw_good := good_in (List.mem_append_right _ (List.mem_append_right _ (List.mem_append_right _ (List.mem_append_right _ (List.mem_append_left _ (List.mem_of_getElem? (i := 74) (l := tables_1_4) rfl)))))) rfl
set_option maxHeartbeats 4000000 in
set_option maxRecDepth 100000 in
theorem mC_158 : (Cond.fieldLinkNest "KindRounds$Checker" (55 : Nat) "KindRounds$Mentions" "spots" "[I" "KindRounds") ∈ lw_nest := nest_in (List.mem_append_right _ (List.mem_append_right _ (List.mem_append_left _ (List.mem_of_getElem? (i := 53) (l := tables_1_2) rfl)))) rfl
set_option maxHeartbeats 4000000 in
set_option maxRecDepth 100000 in
theorem mC_159 : (Cond.methodLinkNest "KindRounds$Checker" (58 : Nat) ({ cls := "KindRounds$Fault", name := "raise", desc := "(II)V" } : Jvm.MethodName) "KindRounds") ∈ lw_nest := nest_in (List.mem_append_right _ (List.mem_append_right _ (List.mem_append_right _ (List.mem_append_right _ (List.mem_append_left _ (List.mem_of_getElem? (i := 103) (l := tables_1_4) rfl)))))) rfl
set_option maxHeartbeats 4000000 in
set_option maxRecDepth 100000 in
theorem mC_160 : (Cond.fieldLinkNest "KindRounds$Checker" (62 : Nat) "KindRounds$Mentions" "names" "[J" "KindRounds") ∈ lw_nest := nest_in (List.mem_append_right _ (List.mem_append_right _ (List.mem_append_left _ (List.mem_of_getElem? (i := 50) (l := tables_1_2) rfl)))) rfl
set_option maxHeartbeats 4000000 in
set_option maxRecDepth 100000 in
theorem mC_161 : (Cond.fieldLinkNest "KindRounds$Checker" (66 : Nat) "KindRounds$Mentions" "roles" "[I" "KindRounds") ∈ lw_nest := nest_in (List.mem_append_right _ (List.mem_append_right _ (List.mem_append_left _ (List.mem_of_getElem? (i := 47) (l := tables_1_2) rfl)))) rfl
set_option maxHeartbeats 4000000 in
set_option maxRecDepth 100000 in
theorem mC_162 : (Cond.constantLong "KindRounds$Checker" (69 : Nat) (4812404 : Int64)) ∈ lw_good := good_in (List.mem_append_right _ (List.mem_append_right _ (List.mem_append_right _ (List.mem_append_right _ (List.mem_append_left _ (List.mem_of_getElem? (i := 78) (l := tables_1_4) rfl)))))) rfl
set_option maxHeartbeats 4000000 in
set_option maxRecDepth 100000 in
theorem mC_163 : (Cond.methodLinkNest "KindRounds$Checker" (71 : Nat) ({ cls := "KindRounds$Mentions", name := "wasTold", desc := "(I)Z" } : Jvm.MethodName) "KindRounds") ∈ lw_nest := nest_in (List.mem_append_right _ (List.mem_append_right _ (List.mem_append_right _ (List.mem_append_right _ (List.mem_append_left _ (List.mem_of_getElem? (i := 79) (l := tables_1_4) rfl)))))) rfl
set_option maxHeartbeats 4000000 in
set_option maxRecDepth 100000 in
theorem mC_164 : (Cond.fieldLink "KindRounds$Checker" (9 : Nat) "KindRounds$Checker" "text" "LKindRounds$Text;") ∈ lw_good := good_in (List.mem_append_right _ (List.mem_append_right _ (List.mem_append_left _ (List.mem_of_getElem? (i := 113) (l := tables_1_2) rfl)))) rfl
set_option maxHeartbeats 4000000 in
set_option maxRecDepth 100000 in
theorem mC_165 : (Cond.methodLinkNest "KindRounds$Checker" (74 : Nat) ({ cls := "KindRounds$Text", name := "findDeclared", desc := "(J)I" } : Jvm.MethodName) "KindRounds") ∈ lw_nest := nest_in (List.mem_append_right _ (List.mem_append_right _ (List.mem_append_right _ (List.mem_append_right _ (List.mem_append_left _ (List.mem_of_getElem? (i := 83) (l := tables_1_4) rfl)))))) rfl
set_option maxHeartbeats 4000000 in
set_option maxRecDepth 100000 in
theorem mC_166 : (Cond.methodLinkNest "KindRounds$Checker" (80 : Nat) ({ cls := "KindRounds$Text", name := "findType", desc := "(J)I" } : Jvm.MethodName) "KindRounds") ∈ lw_nest := nest_in (List.mem_append_right _ (List.mem_append_right _ (List.mem_append_right _ (List.mem_append_right _ (List.mem_append_left _ (List.mem_of_getElem? (i := 87) (l := tables_1_4) rfl)))))) rfl
set_option maxHeartbeats 4000000 in
set_option maxRecDepth 100000 in
theorem mC_167 : (Cond.fieldLinkNest "KindRounds$Checker" (83 : Nat) "KindRounds$Mentions" "owners" "[I" "KindRounds") ∈ lw_nest := nest_in (List.mem_append_right _ (List.mem_append_right _ (List.mem_append_left _ (List.mem_of_getElem? (i := 56) (l := tables_1_2) rfl)))) rfl
set_option maxHeartbeats 4000000 in
set_option maxRecDepth 100000 in
theorem mC_168 : (Cond.methodLink "KindRounds$Checker" (86 : Nat) ({ cls := "KindRounds$Checker", name := "isStrange", desc := "(IJ)Z" } : Jvm.MethodName)) ∈ lw_good := good_in (List.mem_append_right _ (List.mem_append_right _ (List.mem_append_right _ (List.mem_append_right _ (List.mem_append_left _ (List.mem_of_getElem? (i := 91) (l := tables_1_4) rfl)))))) rfl
set_option maxHeartbeats 4000000 in
set_option maxRecDepth 100000 in
theorem mC_169 : (Cond.methodLinkNest "KindRounds$Checker" (90 : Nat) ({ cls := "KindRounds$Text", name := "has", desc := "(I)Z" } : Jvm.MethodName) "KindRounds") ∈ lw_nest := nest_in (List.mem_append_right _ (List.mem_append_right _ (List.mem_append_right _ (List.mem_append_right _ (List.mem_append_left _ (List.mem_of_getElem? (i := 95) (l := tables_1_4) rfl)))))) rfl
set_option maxHeartbeats 4000000 in
set_option maxRecDepth 100000 in
theorem mC_170 : (Cond.fieldLinkNest "KindRounds$Checker" (93 : Nat) "KindRounds$Text" "sorts" "[I" "KindRounds") ∈ lw_nest := nest_in (List.mem_append_right _ (List.mem_append_left _ (List.mem_of_getElem? (i := 203) (l := tables_1_1) rfl))) rfl
set_option maxHeartbeats 4000000 in
set_option maxRecDepth 100000 in
theorem mC_171 : (Cond.methodLinkNest "KindRounds$Checker" (96 : Nat) ({ cls := "KindRounds$Text", name := "findParam", desc := "(IJ)I" } : Jvm.MethodName) "KindRounds") ∈ lw_nest := nest_in (List.mem_append_right _ (List.mem_append_right _ (List.mem_append_right _ (List.mem_append_right _ (List.mem_append_left _ (List.mem_of_getElem? (i := 99) (l := tables_1_4) rfl)))))) rfl
set_option maxHeartbeats 4000000 in
set_option maxRecDepth 100000 in
theorem mC_172 : (Cond.fieldLinkNest "KindRounds$Checker" (100 : Nat) "KindRounds$Text" "nameMasks" "[I" "KindRounds") ∈ lw_nest := nest_in (List.mem_append_right _ (List.mem_append_left _ (List.mem_of_getElem? (i := 225) (l := tables_1_1) rfl))) rfl
set_option maxHeartbeats 4000000 in
set_option maxRecDepth 100000 in
theorem mC_173 : (Cond.fieldLinkNest "KindRounds$Checker" (103 : Nat) "KindRounds$Text" "size" "I" "KindRounds") ∈ lw_nest := nest_in (List.mem_append_right _ (List.mem_append_left _ (List.mem_of_getElem? (i := 200) (l := tables_1_1) rfl))) rfl
set_option maxHeartbeats 4000000 in
set_option maxRecDepth 100000 in
theorem mC_174 : (Cond.fieldLink "KindRounds$Checker" (23 : Nat) "KindRounds$Checker" "ringMasks" "[I") ∈ lw_good := good_in (List.mem_append_right _ (List.mem_append_right _ (List.mem_append_left _ (List.mem_of_getElem? (i := 116) (l := tables_1_2) rfl)))) rfl
set_option maxHeartbeats 4000000 in
set_option maxRecDepth 100000 in
theorem mC_175 : (Cond.fieldLinkNest "KindRounds$Checker" (108 : Nat) "KindRounds$Text" "spots" "[I" "KindRounds") ∈ lw_nest := nest_in (List.mem_append_right _ (List.mem_append_left _ (List.mem_of_getElem? (i := 208) (l := tables_1_1) rfl))) rfl
set_option maxHeartbeats 4000000 in
set_option maxRecDepth 100000 in
theorem mC_176 : (Cond.methodLinkNest "KindRounds$Checker" (104 : Nat) ({ cls := "KindRounds$Text", name := "closeMasks", desc := "([I)V" } : Jvm.MethodName) "KindRounds") ∈ lw_nest := nest_in (List.mem_append_right _ (List.mem_append_right _ (List.mem_append_right _ (List.mem_append_right _ (List.mem_append_left _ (List.mem_of_getElem? (i := 112) (l := tables_1_4) rfl)))))) rfl
set_option maxHeartbeats 4000000 in
set_option maxRecDepth 100000 in
theorem mC_177 : (Cond.methodLinkNest "KindRounds$Checker" (109 : Nat) ({ cls := "KindRounds$Text", name := "findSynonym", desc := "(IJ)I" } : Jvm.MethodName) "KindRounds") ∈ lw_nest := nest_in (List.mem_append_right _ (List.mem_append_right _ (List.mem_append_right _ (List.mem_append_right _ (List.mem_append_left _ (List.mem_of_getElem? (i := 120) (l := tables_1_4) rfl)))))) rfl
set_option maxHeartbeats 4000000 in
set_option maxRecDepth 100000 in
theorem mC_178 : (Cond.fieldLinkNest "KindRounds$Checker" (112 : Nat) "KindRounds$Mentions" "values" "[I" "KindRounds") ∈ lw_nest := nest_in (List.mem_append_right _ (List.mem_append_right _ (List.mem_append_left _ (List.mem_of_getElem? (i := 59) (l := tables_1_2) rfl)))) rfl
set_option maxHeartbeats 4000000 in
set_option maxRecDepth 100000 in
theorem mC_179 : (Cond.fieldLinkNest "KindRounds$Checker" (115 : Nat) "KindRounds$Text" "params" "[I" "KindRounds") ∈ lw_nest := nest_in (List.mem_append_right _ (List.mem_append_left _ (List.mem_of_getElem? (i := 214) (l := tables_1_1) rfl))) rfl
set_option maxHeartbeats 4000000 in
set_option maxRecDepth 100000 in
theorem mC_180 : (Cond.fieldLink "KindRounds$Solver" (9 : Nat) "KindRounds$Solver" "text" "LKindRounds$Text;") ∈ lw_good := good_in (List.mem_append_right _ (List.mem_append_right _ (List.mem_append_left _ (List.mem_of_getElem? (i := 132) (l := tables_1_2) rfl)))) rfl
set_option maxHeartbeats 4000000 in
set_option maxRecDepth 100000 in
theorem mC_181 : (Cond.fieldLinkNest "KindRounds$Solver" (53 : Nat) "KindRounds$Text" "groupCount" "I" "KindRounds") ∈ lw_nest := nest_in (List.mem_append_right _ (List.mem_append_left _ (List.mem_of_getElem? (i := 231) (l := tables_1_1) rfl))) rfl
set_option maxHeartbeats 4000000 in
set_option maxRecDepth 100000 in
theorem mC_182 : (Cond.fieldLink "KindRounds$Solver" (23 : Nat) "KindRounds$Solver" "fault" "LKindRounds$Fault;") ∈ lw_good := good_in (List.mem_append_right _ (List.mem_append_right _ (List.mem_append_left _ (List.mem_of_getElem? (i := 135) (l := tables_1_2) rfl)))) rfl
set_option maxHeartbeats 4000000 in
set_option maxRecDepth 100000 in
theorem mC_183 : (Cond.methodLinkNest "KindRounds$Solver" (59 : Nat) ({ cls := "KindRounds$Fault", name := "isThere", desc := "()Z" } : Jvm.MethodName) "KindRounds") ∈ lw_nest := nest_in (List.mem_append_right _ (List.mem_append_right _ (List.mem_append_right _ (List.mem_append_right _ (List.mem_append_left _ (List.mem_of_getElem? (i := 144) (l := tables_1_4) rfl)))))) rfl
set_option maxHeartbeats 4000000 in
set_option maxRecDepth 100000 in
theorem mC_184 : (Cond.fieldLink "KindRounds$Solver" (65 : Nat) "KindRounds$Solver" "equations" "I") ∈ lw_good := good_in (List.mem_append_right _ (List.mem_append_right _ (List.mem_append_left _ (List.mem_of_getElem? (i := 139) (l := tables_1_2) rfl)))) rfl
set_option maxHeartbeats 4000000 in
set_option maxRecDepth 100000 in
theorem mC_185 : (Cond.fieldLinkNest "KindRounds$Solver" (68 : Nat) "KindRounds$Text" "groupMasks" "[I" "KindRounds") ∈ lw_nest := nest_in (List.mem_append_right _ (List.mem_append_left _ (List.mem_of_getElem? (i := 229) (l := tables_1_1) rfl))) rfl
set_option maxHeartbeats 4000000 in
set_option maxRecDepth 100000 in
theorem mC_186 : (Cond.methodLink "KindRounds$Solver" (71 : Nat) ({ cls := "KindRounds$Solver", name := "makeKinds", desc := "(I)V" } : Jvm.MethodName)) ∈ lw_good := good_in (List.mem_append_right _ (List.mem_append_right _ (List.mem_append_right _ (List.mem_append_right _ (List.mem_append_left _ (List.mem_of_getElem? (i := 145) (l := tables_1_4) rfl)))))) rfl
set_option maxHeartbeats 4000000 in
set_option maxRecDepth 100000 in
theorem mC_187 : (Cond.methodLink "KindRounds$Solver" (75 : Nat) ({ cls := "KindRounds$Solver", name := "listTold", desc := "(I)V" } : Jvm.MethodName)) ∈ lw_good := good_in (List.mem_append_right _ (List.mem_append_right _ (List.mem_append_right _ (List.mem_append_right _ (List.mem_append_left _ (List.mem_of_getElem? (i := 158) (l := tables_1_4) rfl)))))) rfl
set_option maxHeartbeats 4000000 in
set_option maxRecDepth 100000 in
theorem mC_188 : (Cond.methodLink "KindRounds$Solver" (78 : Nat) ({ cls := "KindRounds$Solver", name := "listMembers", desc := "(I)V" } : Jvm.MethodName)) ∈ lw_good := good_in (List.mem_append_right _ (List.mem_append_right _ (List.mem_append_right _ (List.mem_append_right _ (List.mem_append_left _ (List.mem_of_getElem? (i := 167) (l := tables_1_4) rfl)))))) rfl
set_option maxHeartbeats 4000000 in
set_option maxRecDepth 100000 in
theorem mC_189 : (Cond.methodLink "KindRounds$Solver" (81 : Nat) ({ cls := "KindRounds$Solver", name := "solveListed", desc := "()V" } : Jvm.MethodName)) ∈ lw_good := good_in (List.mem_append_right _ (List.mem_append_right _ (List.mem_append_right _ (List.mem_append_right _ (List.mem_append_left _ (List.mem_of_getElem? (i := 202) (l := tables_1_4) rfl)))))) rfl
set_option maxHeartbeats 4000000 in
set_option maxRecDepth 100000 in
theorem mC_190 : (Cond.methodLink "KindRounds$Solver" (84 : Nat) ({ cls := "KindRounds$Solver", name := "countOpens", desc := "(I)V" } : Jvm.MethodName)) ∈ lw_good := good_in (List.mem_append_right _ (List.mem_append_right _ (List.mem_append_right _ (List.mem_append_right _ (List.mem_append_right _ (List.mem_append_left _ (List.mem_of_getElem? (i := 41) (l := tables_1_5) rfl))))))) rfl
set_option maxHeartbeats 4000000 in
set_option maxRecDepth 100000 in
theorem mC_191 : (Cond.fieldLink "KindRounds$Solver" (19 : Nat) "KindRounds$Solver" "kinds" "LKindRounds$Kinds;") ∈ lw_good := good_in (List.mem_append_right _ (List.mem_append_right _ (List.mem_append_left _ (List.mem_of_getElem? (i := 134) (l := tables_1_2) rfl)))) rfl
set_option maxHeartbeats 4000000 in
set_option maxRecDepth 100000 in
theorem mC_192 : (Cond.methodLinkNest "KindRounds$Solver" (87 : Nat) ({ cls := "KindRounds$Kinds", name := "closeGroup", desc := "()V" } : Jvm.MethodName) "KindRounds") ∈ lw_nest := nest_in (List.mem_append_right _ (List.mem_append_right _ (List.mem_append_right _ (List.mem_append_right _ (List.mem_append_right _ (List.mem_append_left _ (List.mem_of_getElem? (i := 49) (l := tables_1_5) rfl))))))) rfl
set_option maxHeartbeats 4000000 in
set_option maxRecDepth 100000 in
theorem mC_193 : (Cond.methodLink "KindRounds$Solver" (92 : Nat) ({ cls := "KindRounds$Solver", name := "listTerm", desc := "(LKindRounds$Row;I)V" } : Jvm.MethodName)) ∈ lw_good := good_in (List.mem_append_right _ (List.mem_append_right _ (List.mem_append_right _ (List.mem_append_right _ (List.mem_append_left _ (List.mem_of_getElem? (i := 172) (l := tables_1_4) rfl)))))) rfl
set_option maxHeartbeats 4000000 in
set_option maxRecDepth 100000 in
theorem mC_194 : (Cond.fieldLink "KindRounds$Solver" (27 : Nat) "KindRounds$Solver" "lefts" "[I") ∈ lw_good := good_in (List.mem_append_right _ (List.mem_append_right _ (List.mem_append_left _ (List.mem_of_getElem? (i := 136) (l := tables_1_2) rfl)))) rfl
set_option maxHeartbeats 4000000 in
set_option maxRecDepth 100000 in
theorem mC_195 : (Cond.fieldLink "KindRounds$Solver" (31 : Nat) "KindRounds$Solver" "rights" "[I") ∈ lw_good := good_in (List.mem_append_right _ (List.mem_append_right _ (List.mem_append_left _ (List.mem_of_getElem? (i := 137) (l := tables_1_2) rfl)))) rfl
set_option maxHeartbeats 4000000 in
set_option maxRecDepth 100000 in
theorem mC_196 : (Cond.methodLinkNest "KindRounds$Solver" (96 : Nat) ({ cls := "KindRounds$Kinds", name := "unify", desc := "(II)Z" } : Jvm.MethodName) "KindRounds") ∈ lw_nest := nest_in (List.mem_append_right _ (List.mem_append_right _ (List.mem_append_right _ (List.mem_append_right _ (List.mem_append_left _ (List.mem_of_getElem? (i := 206) (l := tables_1_4) rfl)))))) rfl
set_option maxHeartbeats 4000000 in
set_option maxRecDepth 100000 in
theorem mC_197 : (Cond.fieldLink "KindRounds$Solver" (34 : Nat) "KindRounds$Solver" "spots" "[I") ∈ lw_good := good_in (List.mem_append_right _ (List.mem_append_right _ (List.mem_append_left _ (List.mem_of_getElem? (i := 138) (l := tables_1_2) rfl)))) rfl
set_option maxHeartbeats 4000000 in
set_option maxRecDepth 100000 in
theorem mC_198 : (Cond.methodLinkNest "KindRounds$Solver" (100 : Nat) ({ cls := "KindRounds$Fault", name := "raise", desc := "(II)V" } : Jvm.MethodName) "KindRounds") ∈ lw_nest := nest_in (List.mem_append_right _ (List.mem_append_right _ (List.mem_append_right _ (List.mem_append_right _ (List.mem_append_right _ (List.mem_append_left _ (List.mem_of_getElem? (i := 15) (l := tables_1_5) rfl))))))) rfl
set_option maxHeartbeats 4000000 in
set_option maxRecDepth 100000 in
theorem mC_199 : (Cond.methodLinkNest "KindRounds$Solver" (104 : Nat) ({ cls := "KindRounds$Kinds", name := "showSides", desc := "(IILKindRounds$Fault;)V" } : Jvm.MethodName) "KindRounds") ∈ lw_nest := nest_in (List.mem_append_right _ (List.mem_append_right _ (List.mem_append_right _ (List.mem_append_right _ (List.mem_append_right _ (List.mem_append_left _ (List.mem_of_getElem? (i := 16) (l := tables_1_5) rfl))))))) rfl
set_option maxHeartbeats 4000000 in
set_option maxRecDepth 100000 in
theorem mC_200 : (Cond.fieldLinkNest "KindRounds$Solver" (127 : Nat) "KindRounds$Text" "kinds" "[I" "KindRounds") ∈ lw_nest := nest_in (List.mem_append_right _ (List.mem_append_left _ (List.mem_of_getElem? (i := 234) (l := tables_1_1) rfl))) rfl
set_option maxHeartbeats 4000000 in
set_option maxRecDepth 100000 in
theorem mC_201 : (Cond.methodLink "KindRounds$Solver" (129 : Nat) ({ cls := "KindRounds$Solver", name := "wholeKind", desc := "(I)I" } : Jvm.MethodName)) ∈ lw_good := good_in (List.mem_append_right _ (List.mem_append_right _ (List.mem_append_right _ (List.mem_append_right _ (List.mem_append_left _ (List.mem_of_getElem? (i := 153) (l := tables_1_4) rfl)))))) rfl
set_option maxHeartbeats 4000000 in
set_option maxRecDepth 100000 in
theorem mC_202 : (Cond.fieldLinkNest "KindRounds$Solver" (111 : Nat) "KindRounds$Text" "params" "[I" "KindRounds") ∈ lw_nest := nest_in (List.mem_append_right _ (List.mem_append_left _ (List.mem_of_getElem? (i := 211) (l := tables_1_1) rfl))) rfl
set_option maxHeartbeats 4000000 in
set_option maxRecDepth 100000 in
theorem mC_203 : (Cond.fieldLinkNest "KindRounds$Solver" (121 : Nat) "KindRounds$Text" "resultKinds" "[I" "KindRounds") ∈ lw_nest := nest_in (List.mem_append_right _ (List.mem_append_right _ (List.mem_append_left _ (List.mem_of_getElem? (i := 0) (l := tables_1_2) rfl)))) rfl
set_option maxHeartbeats 4000000 in
set_option maxRecDepth 100000 in
theorem mC_204 : (Cond.fieldLinkNest "KindRounds$Solver" (124 : Nat) "KindRounds$Text" "sorts" "[I" "KindRounds") ∈ lw_nest := nest_in (List.mem_append_right _ (List.mem_append_left _ (List.mem_of_getElem? (i := 202) (l := tables_1_1) rfl))) rfl
set_option maxHeartbeats 4000000 in
set_option maxRecDepth 100000 in
theorem mC_205 : (Cond.methodLinkNest "KindRounds$Solver" (117 : Nat) ({ cls := "KindRounds$Kinds", name := "makeOpen", desc := "()I" } : Jvm.MethodName) "KindRounds") ∈ lw_nest := nest_in (List.mem_append_right _ (List.mem_append_right _ (List.mem_append_right _ (List.mem_append_right _ (List.mem_append_left _ (List.mem_of_getElem? (i := 149) (l := tables_1_4) rfl)))))) rfl
set_option maxHeartbeats 4000000 in
set_option maxRecDepth 100000 in
theorem mC_206 : (Cond.fieldLinkNest "KindRounds$Solver" (114 : Nat) "KindRounds$Text" "paramKinds" "[I" "KindRounds") ∈ lw_nest := nest_in (List.mem_append_right _ (List.mem_append_left _ (List.mem_of_getElem? (i := 237) (l := tables_1_1) rfl))) rfl
set_option maxHeartbeats 4000000 in
set_option maxRecDepth 100000 in
theorem mC_207 : (Cond.fieldLinkNest "KindRounds$Solver" (108 : Nat) "KindRounds$Text" "size" "I" "KindRounds") ∈ lw_nest := nest_in (List.mem_append_right _ (List.mem_append_left _ (List.mem_of_getElem? (i := 198) (l := tables_1_1) rfl))) rfl
set_option maxHeartbeats 4000000 in
set_option maxRecDepth 100000 in
theorem mC_208 : (Cond.methodLinkNest "KindRounds$Solver" (133 : Nat) ({ cls := "KindRounds$Kinds", name := "makeArrow", desc := "(II)I" } : Jvm.MethodName) "KindRounds") ∈ lw_nest := nest_in (List.mem_append_right _ (List.mem_append_right _ (List.mem_append_right _ (List.mem_append_right _ (List.mem_append_left _ (List.mem_of_getElem? (i := 157) (l := tables_1_4) rfl)))))) rfl
set_option maxHeartbeats 4000000 in
set_option maxRecDepth 100000 in
theorem mC_209 : (Cond.methodLinkNest "KindRounds$Solver" (137 : Nat) ({ cls := "KindRounds$Kinds", name := "hasOpen", desc := "(I)Z" } : Jvm.MethodName) "KindRounds") ∈ lw_nest := nest_in (List.mem_append_right _ (List.mem_append_right _ (List.mem_append_right _ (List.mem_append_right _ (List.mem_append_right _ (List.mem_append_left _ (List.mem_of_getElem? (i := 45) (l := tables_1_5) rfl))))))) rfl
set_option maxHeartbeats 4000000 in
set_option maxRecDepth 100000 in
theorem mC_210 : (Cond.fieldLinkNest "KindRounds$Solver" (141 : Nat) "KindRounds$Text" "opens" "[I" "KindRounds") ∈ lw_nest := nest_in (List.mem_append_right _ (List.mem_append_left _ (List.mem_of_getElem? (i := 220) (l := tables_1_1) rfl))) rfl
set_option maxHeartbeats 4000000 in
set_option maxRecDepth 100000 in
theorem mC_211 : (Cond.fieldLink "KindRounds$Solver" (15 : Nat) "KindRounds$Solver" "mentions" "LKindRounds$Mentions;") ∈ lw_good := good_in (List.mem_append_right _ (List.mem_append_right _ (List.mem_append_left _ (List.mem_of_getElem? (i := 133) (l := tables_1_2) rfl)))) rfl
set_option maxHeartbeats 4000000 in
set_option maxRecDepth 100000 in
theorem mC_212 : (Cond.fieldLinkNest "KindRounds$Solver" (157 : Nat) "KindRounds$Mentions" "values" "[I" "KindRounds") ∈ lw_nest := nest_in (List.mem_append_right _ (List.mem_append_right _ (List.mem_append_left _ (List.mem_of_getElem? (i := 58) (l := tables_1_2) rfl)))) rfl
set_option maxHeartbeats 4000000 in
set_option maxRecDepth 100000 in
theorem mC_213 : (Cond.fieldLinkNest "KindRounds$Solver" (160 : Nat) "KindRounds$Mentions" "spots" "[I" "KindRounds") ∈ lw_nest := nest_in (List.mem_append_right _ (List.mem_append_right _ (List.mem_append_left _ (List.mem_of_getElem? (i := 54) (l := tables_1_2) rfl)))) rfl
set_option maxHeartbeats 4000000 in
set_option maxRecDepth 100000 in
theorem mC_214 : (Cond.methodLink "KindRounds$Solver" (161 : Nat) ({ cls := "KindRounds$Solver", name := "equate", desc := "(III)V" } : Jvm.MethodName)) ∈ lw_good := good_in (List.mem_append_right _ (List.mem_append_right _ (List.mem_append_right _ (List.mem_append_right _ (List.mem_append_left _ (List.mem_of_getElem? (i := 163) (l := tables_1_4) rfl)))))) rfl
set_option maxHeartbeats 4000000 in
set_option maxRecDepth 100000 in
theorem mC_215 : (Cond.fieldLinkNest "KindRounds$Solver" (144 : Nat) "KindRounds$Mentions" "size" "I" "KindRounds") ∈ lw_nest := nest_in (List.mem_append_right _ (List.mem_append_right _ (List.mem_append_left _ (List.mem_of_getElem? (i := 62) (l := tables_1_2) rfl)))) rfl
set_option maxHeartbeats 4000000 in
set_option maxRecDepth 100000 in
theorem mC_216 : (Cond.fieldLinkNest "KindRounds$Solver" (147 : Nat) "KindRounds$Mentions" "roles" "[I" "KindRounds") ∈ lw_nest := nest_in (List.mem_append_right _ (List.mem_append_right _ (List.mem_append_left _ (List.mem_of_getElem? (i := 48) (l := tables_1_2) rfl)))) rfl
set_option maxHeartbeats 4000000 in
set_option maxRecDepth 100000 in
theorem mC_217 : (Cond.fieldLinkNest "KindRounds$Solver" (150 : Nat) "KindRounds$Mentions" "names" "[J" "KindRounds") ∈ lw_nest := nest_in (List.mem_append_right _ (List.mem_append_right _ (List.mem_append_left _ (List.mem_of_getElem? (i := 51) (l := tables_1_2) rfl)))) rfl
set_option maxHeartbeats 4000000 in
set_option maxRecDepth 100000 in
theorem mC_218 : (Cond.methodLinkNest "KindRounds$Solver" (153 : Nat) ({ cls := "KindRounds$Text", name := "findDeclared", desc := "(J)I" } : Jvm.MethodName) "KindRounds") ∈ lw_nest := nest_in (List.mem_append_right _ (List.mem_append_right _ (List.mem_append_right _ (List.mem_append_right _ (List.mem_append_left _ (List.mem_of_getElem? (i := 162) (l := tables_1_4) rfl)))))) rfl
set_option maxHeartbeats 4000000 in
set_option maxRecDepth 100000 in
theorem mC_219 : (Cond.fieldLinkNest "KindRounds$Solver" (169 : Nat) "KindRounds$Row" "terms" "I" "KindRounds") ∈ lw_nest := nest_in (List.mem_append_right _ (List.mem_append_left _ (List.mem_of_getElem? (i := 178) (l := tables_1_1) rfl))) rfl
set_option maxHeartbeats 4000000 in
set_option maxRecDepth 100000 in
theorem mC_220 : (Cond.fieldLinkNest "KindRounds$Solver" (174 : Nat) "KindRounds$Row" "termOwners" "[I" "KindRounds") ∈ lw_nest := nest_in (List.mem_append_right _ (List.mem_append_left _ (List.mem_of_getElem? (i := 176) (l := tables_1_1) rfl))) rfl
set_option maxHeartbeats 4000000 in
set_option maxRecDepth 100000 in
theorem mC_221 : (Cond.methodLinkNest "KindRounds$Solver" (177 : Nat) ({ cls := "KindRounds$Text", name := "has", desc := "(I)Z" } : Jvm.MethodName) "KindRounds") ∈ lw_nest := nest_in (List.mem_append_right _ (List.mem_append_right _ (List.mem_append_right _ (List.mem_append_right _ (List.mem_append_left _ (List.mem_of_getElem? (i := 171) (l := tables_1_4) rfl)))))) rfl
set_option maxHeartbeats 4000000 in
set_option maxRecDepth 100000 in
theorem mC_222 : (Cond.fieldLink "KindRounds$Solver" (180 : Nat) "KindRounds$Solver" "rootKind" "I") ∈ lw_good := good_in (List.mem_append_right _ (List.mem_append_right _ (List.mem_append_left _ (List.mem_of_getElem? (i := 147) (l := tables_1_2) rfl)))) rfl
set_option maxHeartbeats 4000000 in
set_option maxRecDepth 100000 in
theorem mC_223 : (Cond.fieldLinkNest "KindRounds$Solver" (183 : Nat) "KindRounds$Row" "spots" "[I" "KindRounds") ∈ lw_nest := nest_in (List.mem_append_right _ (List.mem_append_left _ (List.mem_of_getElem? (i := 167) (l := tables_1_1) rfl))) rfl
set_option maxHeartbeats 4000000 in
set_option maxRecDepth 100000 in
theorem mC_224 : (Cond.fieldLinkNest "KindRounds$Solver" (184 : Nat) "KindRounds$Row" "termStarts" "[I" "KindRounds") ∈ lw_nest := nest_in (List.mem_append_right _ (List.mem_append_left _ (List.mem_of_getElem? (i := 174) (l := tables_1_1) rfl))) rfl
set_option maxHeartbeats 4000000 in
set_option maxRecDepth 100000 in
theorem mC_225 : (Cond.fieldLinkNest "KindRounds$Solver" (165 : Nat) "KindRounds$Text" "row" "LKindRounds$Row;" "KindRounds") ∈ lw_nest := nest_in (List.mem_append_right _ (List.mem_append_right _ (List.mem_append_left _ (List.mem_of_getElem? (i := 4) (l := tables_1_2) rfl)))) rfl
set_option maxHeartbeats 4000000 in
set_option maxRecDepth 100000 in
theorem mC_226 : (Cond.fieldLink "KindRounds$Solver" (190 : Nat) "KindRounds$Solver" "depth" "I") ∈ lw_good := good_in (List.mem_append_right _ (List.mem_append_right _ (List.mem_append_left _ (List.mem_of_getElem? (i := 143) (l := tables_1_2) rfl)))) rfl
set_option maxHeartbeats 4000000 in
set_option maxRecDepth 100000 in
theorem mC_227 : (Cond.fieldLink "KindRounds$Solver" (37 : Nat) "KindRounds$Solver" "frameNodes" "[I") ∈ lw_good := good_in (List.mem_append_right _ (List.mem_append_right _ (List.mem_append_left _ (List.mem_of_getElem? (i := 140) (l := tables_1_2) rfl)))) rfl
set_option maxHeartbeats 4000000 in
set_option maxRecDepth 100000 in
theorem mC_228 : (Cond.fieldLink "KindRounds$Solver" (40 : Nat) "KindRounds$Solver" "frameKinds" "[I") ∈ lw_good := good_in (List.mem_append_right _ (List.mem_append_right _ (List.mem_append_left _ (List.mem_of_getElem? (i := 141) (l := tables_1_2) rfl)))) rfl
set_option maxHeartbeats 4000000 in
set_option maxRecDepth 100000 in
theorem mC_229 : (Cond.methodLink "KindRounds$Solver" (196 : Nat) ({ cls := "KindRounds$Solver", name := "startKind", desc := "(LKindRounds$Row;II)I" } : Jvm.MethodName)) ∈ lw_good := good_in (List.mem_append_right _ (List.mem_append_right _ (List.mem_append_right _ (List.mem_append_right _ (List.mem_append_left _ (List.mem_of_getElem? (i := 180) (l := tables_1_4) rfl)))))) rfl
set_option maxHeartbeats 4000000 in
set_option maxRecDepth 100000 in
theorem mC_230 : (Cond.fieldLink "KindRounds$Solver" (43 : Nat) "KindRounds$Solver" "frameDone" "[I") ∈ lw_good := good_in (List.mem_append_right _ (List.mem_append_right _ (List.mem_append_left _ (List.mem_of_getElem? (i := 142) (l := tables_1_2) rfl)))) rfl
set_option maxHeartbeats 4000000 in
set_option maxRecDepth 100000 in
theorem mC_231 : (Cond.methodLink "KindRounds$Solver" (200 : Nat) ({ cls := "KindRounds$Solver", name := "closeFrames", desc := "(LKindRounds$Row;)V" } : Jvm.MethodName)) ∈ lw_good := good_in (List.mem_append_right _ (List.mem_append_right _ (List.mem_append_right _ (List.mem_append_right _ (List.mem_append_left _ (List.mem_of_getElem? (i := 190) (l := tables_1_4) rfl)))))) rfl
set_option maxHeartbeats 4000000 in
set_option maxRecDepth 100000 in
theorem mC_232 : (Cond.fieldLink "KindRounds$Solver" (187 : Nat) "KindRounds$Solver" "frees" "I") ∈ lw_good := good_in (List.mem_append_right _ (List.mem_append_right _ (List.mem_append_left _ (List.mem_of_getElem? (i := 146) (l := tables_1_2) rfl)))) rfl
set_option maxHeartbeats 4000000 in
set_option maxRecDepth 100000 in
theorem mC_233 : (Cond.methodLinkNest "KindRounds$Solver" (193 : Nat) ({ cls := "KindRounds$Row", name := "termEnd", desc := "(I)I" } : Jvm.MethodName) "KindRounds") ∈ lw_nest := nest_in (List.mem_append_right _ (List.mem_append_right _ (List.mem_append_right _ (List.mem_append_right _ (List.mem_append_left _ (List.mem_of_getElem? (i := 176) (l := tables_1_4) rfl)))))) rfl
set_option maxHeartbeats 4000000 in
set_option maxRecDepth 100000 in
theorem mC_234 : (Cond.fieldLinkNest "KindRounds$Solver" (204 : Nat) "KindRounds$Row" "counts" "[I" "KindRounds") ∈ lw_nest := nest_in (List.mem_append_right _ (List.mem_append_left _ (List.mem_of_getElem? (i := 164) (l := tables_1_1) rfl))) rfl
set_option maxHeartbeats 4000000 in
set_option maxRecDepth 100000 in
theorem mC_235 : (Cond.methodLink "KindRounds$Solver" (207 : Nat) ({ cls := "KindRounds$Solver", name := "joinFrame", desc := "(LKindRounds$Row;III)V" } : Jvm.MethodName)) ∈ lw_good := good_in (List.mem_append_right _ (List.mem_append_right _ (List.mem_append_right _ (List.mem_append_right _ (List.mem_append_left _ (List.mem_of_getElem? (i := 194) (l := tables_1_4) rfl)))))) rfl
set_option maxHeartbeats 4000000 in
set_option maxRecDepth 100000 in
theorem mC_236 : (Cond.methodLinkNest "KindRounds$Solver" (211 : Nat) ({ cls := "KindRounds$Row", name := "fixedOf", desc := "(I)I" } : Jvm.MethodName) "KindRounds") ∈ lw_nest := nest_in (List.mem_append_right _ (List.mem_append_right _ (List.mem_append_right _ (List.mem_append_right _ (List.mem_append_left _ (List.mem_of_getElem? (i := 198) (l := tables_1_4) rfl)))))) rfl
set_option maxHeartbeats 4000000 in
set_option maxRecDepth 100000 in
theorem mC_237 : (Cond.methodLink "KindRounds$Solver" (223 : Nat) ({ cls := "KindRounds$Solver", name := "freeKind", desc := "(J)I" } : Jvm.MethodName)) ∈ lw_good := good_in (List.mem_append_right _ (List.mem_append_right _ (List.mem_append_right _ (List.mem_append_right _ (List.mem_append_left _ (List.mem_of_getElem? (i := 186) (l := tables_1_4) rfl)))))) rfl
set_option maxHeartbeats 4000000 in
set_option maxRecDepth 100000 in
theorem mC_238 : (Cond.fieldLinkNest "KindRounds$Solver" (214 : Nat) "KindRounds$Row" "names" "[J" "KindRounds") ∈ lw_nest := nest_in (List.mem_append_right _ (List.mem_append_left _ (List.mem_of_getElem? (i := 161) (l := tables_1_1) rfl))) rfl
set_option maxHeartbeats 4000000 in
set_option maxRecDepth 100000 in
theorem mC_239 : (Cond.fieldLinkNest "KindRounds$Solver" (215 : Nat) "KindRounds$Row" "sorts" "[I" "KindRounds") ∈ lw_nest := nest_in (List.mem_append_right _ (List.mem_append_left _ (List.mem_of_getElem? (i := 158) (l := tables_1_1) rfl))) rfl
set_option maxHeartbeats 4000000 in
set_option maxRecDepth 100000 in
theorem mC_240 : (Cond.methodLinkNest "KindRounds$Solver" (219 : Nat) ({ cls := "KindRounds$Text", name := "findParam", desc := "(IJ)I" } : Jvm.MethodName) "KindRounds") ∈ lw_nest := nest_in (List.mem_append_right _ (List.mem_append_right _ (List.mem_append_right _ (List.mem_append_right _ (List.mem_append_left _ (List.mem_of_getElem? (i := 185) (l := tables_1_4) rfl)))))) rfl
set_option maxHeartbeats 4000000 in
set_option maxRecDepth 100000 in
theorem mC_241 : (Cond.methodLinkNest "KindRounds$Solver" (216 : Nat) ({ cls := "KindRounds$Text", name := "findType", desc := "(J)I" } : Jvm.MethodName) "KindRounds") ∈ lw_nest := nest_in (List.mem_append_right _ (List.mem_append_right _ (List.mem_append_right _ (List.mem_append_right _ (List.mem_append_left _ (List.mem_of_getElem? (i := 184) (l := tables_1_4) rfl)))))) rfl
set_option maxHeartbeats 4000000 in
set_option maxRecDepth 100000 in
theorem mC_242 : (Cond.fieldLink "KindRounds$Solver" (46 : Nat) "KindRounds$Solver" "freeNames" "[J") ∈ lw_good := good_in (List.mem_append_right _ (List.mem_append_right _ (List.mem_append_left _ (List.mem_of_getElem? (i := 144) (l := tables_1_2) rfl)))) rfl
set_option maxHeartbeats 4000000 in
set_option maxRecDepth 100000 in
theorem mC_243 : (Cond.fieldLink "KindRounds$Solver" (50 : Nat) "KindRounds$Solver" "freeKinds" "[I") ∈ lw_good := good_in (List.mem_append_right _ (List.mem_append_right _ (List.mem_append_left _ (List.mem_of_getElem? (i := 145) (l := tables_1_2) rfl)))) rfl
set_option maxHeartbeats 4000000 in
set_option maxRecDepth 100000 in
theorem mC_244 : (Cond.fieldLink "KindRounds$Plainer" (18 : Nat) "KindRounds$Plainer" "now" "LKindRounds$Row;") ∈ lw_good := good_in (List.mem_append_right _ (List.mem_append_right _ (List.mem_append_left _ (List.mem_of_getElem? (i := 191) (l := tables_1_2) rfl)))) rfl
set_option maxHeartbeats 4000000 in
set_option maxRecDepth 100000 in
theorem mC_245 : (Cond.fieldLinkNest "KindRounds$Plainer" (56 : Nat) "KindRounds$Row" "size" "I" "KindRounds") ∈ lw_nest := nest_in (List.mem_append_right _ (List.mem_append_left _ (List.mem_of_getElem? (i := 170) (l := tables_1_1) rfl))) rfl
set_option maxHeartbeats 4000000 in
set_option maxRecDepth 100000 in
theorem mC_246 : (Cond.fieldLink "KindRounds$Plainer" (9 : Nat) "KindRounds$Plainer" "text" "LKindRounds$Text;") ∈ lw_good := good_in (List.mem_append_right _ (List.mem_append_right _ (List.mem_append_left _ (List.mem_of_getElem? (i := 190) (l := tables_1_2) rfl)))) rfl
set_option maxHeartbeats 4000000 in
set_option maxRecDepth 100000 in
theorem mC_247 : (Cond.fieldLinkNest "KindRounds$Plainer" (60 : Nat) "KindRounds$Row" "sorts" "[I" "KindRounds") ∈ lw_nest := nest_in (List.mem_append_right _ (List.mem_append_left _ (List.mem_of_getElem? (i := 157) (l := tables_1_1) rfl))) rfl
set_option maxHeartbeats 4000000 in
set_option maxRecDepth 100000 in
theorem mC_248 : (Cond.fieldLinkNest "KindRounds$Plainer" (63 : Nat) "KindRounds$Row" "names" "[J" "KindRounds") ∈ lw_nest := nest_in (List.mem_append_right _ (List.mem_append_left _ (List.mem_of_getElem? (i := 160) (l := tables_1_1) rfl))) rfl
set_option maxHeartbeats 4000000 in
set_option maxRecDepth 100000 in
theorem mC_249 : (Cond.methodLinkNest "KindRounds$Plainer" (67 : Nat) ({ cls := "KindRounds$Text", name := "findSynonym", desc := "(IJ)I" } : Jvm.MethodName) "KindRounds") ∈ lw_nest := nest_in (List.mem_append_right _ (List.mem_append_right _ (List.mem_append_right _ (List.mem_append_right _ (List.mem_append_right _ (List.mem_append_left _ (List.mem_of_getElem? (i := 145) (l := tables_1_5) rfl))))))) rfl
set_option maxHeartbeats 4000000 in
set_option maxRecDepth 100000 in
theorem mC_250 : (Cond.methodLink "KindRounds$Plainer" (73 : Nat) ({ cls := "KindRounds$Plainer", name := "replace", desc := "(II)V" } : Jvm.MethodName)) ∈ lw_good := good_in (List.mem_append_right _ (List.mem_append_right _ (List.mem_append_right _ (List.mem_append_right _ (List.mem_append_right _ (List.mem_append_left _ (List.mem_of_getElem? (i := 146) (l := tables_1_5) rfl))))))) rfl
set_option maxHeartbeats 4000000 in
set_option maxRecDepth 100000 in
theorem mC_251 : (Cond.fieldLink "KindRounds$Plainer" (41 : Nat) "KindRounds$Plainer" "fits" "Z") ∈ lw_good := good_in (List.mem_append_right _ (List.mem_append_right _ (List.mem_append_left _ (List.mem_of_getElem? (i := 198) (l := tables_1_2) rfl)))) rfl
set_option maxHeartbeats 4000000 in
set_option maxRecDepth 100000 in
theorem mC_252 : (Cond.methodLinkNest "KindRounds$Plainer" (38 : Nat) ({ cls := "KindRounds$Row", name := "clear", desc := "()V" } : Jvm.MethodName) "KindRounds") ∈ lw_nest := nest_in (List.mem_append_right _ (List.mem_append_right _ (List.mem_append_right _ (List.mem_append_right _ (List.mem_append_right _ (List.mem_append_left _ (List.mem_of_getElem? (i := 138) (l := tables_1_5) rfl))))))) rfl
set_option maxHeartbeats 4000000 in
set_option maxRecDepth 100000 in
theorem mC_253 : (Cond.fieldLinkNest "KindRounds$Plainer" (45 : Nat) "KindRounds$Row" "termStarts" "[I" "KindRounds") ∈ lw_nest := nest_in (List.mem_append_right _ (List.mem_append_left _ (List.mem_of_getElem? (i := 173) (l := tables_1_1) rfl))) rfl
set_option maxHeartbeats 4000000 in
set_option maxRecDepth 100000 in
theorem mC_254 : (Cond.methodLinkNest "KindRounds$Plainer" (48 : Nat) ({ cls := "KindRounds$Row", name := "termEnd", desc := "(I)I" } : Jvm.MethodName) "KindRounds") ∈ lw_nest := nest_in (List.mem_append_right _ (List.mem_append_right _ (List.mem_append_right _ (List.mem_append_right _ (List.mem_append_right _ (List.mem_append_left _ (List.mem_of_getElem? (i := 139) (l := tables_1_5) rfl))))))) rfl
set_option maxHeartbeats 4000000 in
set_option maxRecDepth 100000 in
theorem mC_255 : (Cond.methodLink "KindRounds$Plainer" (52 : Nat) ({ cls := "KindRounds$Plainer", name := "copyNodes", desc := "(LKindRounds$Row;IILKindRounds$Row;)V" } : Jvm.MethodName)) ∈ lw_good := good_in (List.mem_append_right _ (List.mem_append_right _ (List.mem_append_right _ (List.mem_append_right _ (List.mem_append_right _ (List.mem_append_left _ (List.mem_of_getElem? (i := 140) (l := tables_1_5) rfl))))))) rfl
set_option maxHeartbeats 4000000 in
set_option maxRecDepth 100000 in
theorem mC_256 : (Cond.fieldLink "KindRounds$Plainer" (28 : Nat) "KindRounds$Plainer" "argStarts" "[I") ∈ lw_good := good_in (List.mem_append_right _ (List.mem_append_right _ (List.mem_append_left _ (List.mem_of_getElem? (i := 194) (l := tables_1_2) rfl)))) rfl
set_option maxHeartbeats 4000000 in
set_option maxRecDepth 100000 in
theorem mC_257 : (Cond.fieldLink "KindRounds$Plainer" (22 : Nat) "KindRounds$Plainer" "next" "LKindRounds$Row;") ∈ lw_good := good_in (List.mem_append_right _ (List.mem_append_right _ (List.mem_append_left _ (List.mem_of_getElem? (i := 192) (l := tables_1_2) rfl)))) rfl
set_option maxHeartbeats 4000000 in
set_option maxRecDepth 100000 in
theorem mC_258 : (Cond.methodLink "KindRounds$Plainer" (83 : Nat) ({ cls := "KindRounds$Plainer", name := "copyRightSide", desc := "(I)V" } : Jvm.MethodName)) ∈ lw_good := good_in (List.mem_append_right _ (List.mem_append_right _ (List.mem_append_right _ (List.mem_append_right _ (List.mem_append_right _ (List.mem_append_left _ (List.mem_of_getElem? (i := 154) (l := tables_1_5) rfl))))))) rfl
set_option maxHeartbeats 4000000 in
set_option maxRecDepth 100000 in
theorem mC_259 : (Cond.fieldLinkNest "KindRounds$Plainer" (87 : Nat) "KindRounds$Row" "counts" "[I" "KindRounds") ∈ lw_nest := nest_in (List.mem_append_right _ (List.mem_append_left _ (List.mem_of_getElem? (i := 163) (l := tables_1_1) rfl))) rfl
set_option maxHeartbeats 4000000 in
set_option maxRecDepth 100000 in
theorem mC_260 : (Cond.methodLinkNest "KindRounds$Plainer" (80 : Nat) ({ cls := "KindRounds$Row", name := "endOf", desc := "(I)I" } : Jvm.MethodName) "KindRounds") ∈ lw_nest := nest_in (List.mem_append_right _ (List.mem_append_right _ (List.mem_append_right _ (List.mem_append_right _ (List.mem_append_right _ (List.mem_append_left _ (List.mem_of_getElem? (i := 150) (l := tables_1_5) rfl))))))) rfl
set_option maxHeartbeats 4000000 in
set_option maxRecDepth 100000 in
theorem mC_261 : (Cond.fieldLinkNest "KindRounds$Plainer" (77 : Nat) "KindRounds$Text" "params" "[I" "KindRounds") ∈ lw_nest := nest_in (List.mem_append_right _ (List.mem_append_left _ (List.mem_of_getElem? (i := 210) (l := tables_1_1) rfl))) rfl
set_option maxHeartbeats 4000000 in
set_option maxRecDepth 100000 in
theorem mC_262 : (Cond.methodLinkNest "KindRounds$Plainer" (96 : Nat) ({ cls := "KindRounds$Text", name := "findParam", desc := "(IJ)I" } : Jvm.MethodName) "KindRounds") ∈ lw_nest := nest_in (List.mem_append_right _ (List.mem_append_right _ (List.mem_append_right _ (List.mem_append_right _ (List.mem_append_right _ (List.mem_append_left _ (List.mem_of_getElem? (i := 162) (l := tables_1_5) rfl))))))) rfl
set_option maxHeartbeats 4000000 in
set_option maxRecDepth 100000 in
theorem mC_263 : (Cond.fieldLinkNest "KindRounds$Plainer" (90 : Nat) "KindRounds$Text" "row" "LKindRounds$Row;" "KindRounds") ∈ lw_nest := nest_in (List.mem_append_right _ (List.mem_append_right _ (List.mem_append_left _ (List.mem_of_getElem? (i := 3) (l := tables_1_2) rfl)))) rfl
set_option maxHeartbeats 4000000 in
set_option maxRecDepth 100000 in
theorem mC_264 : (Cond.methodLinkNest "KindRounds$Plainer" (93 : Nat) ({ cls := "KindRounds$Row", name := "termOf", desc := "(I)I" } : Jvm.MethodName) "KindRounds") ∈ lw_nest := nest_in (List.mem_append_right _ (List.mem_append_right _ (List.mem_append_right _ (List.mem_append_right _ (List.mem_append_right _ (List.mem_append_left _ (List.mem_of_getElem? (i := 158) (l := tables_1_5) rfl))))))) rfl
set_option maxHeartbeats 4000000 in
set_option maxRecDepth 100000 in
theorem mC_265 : (Cond.methodLinkNest "KindRounds$Plainer" (99 : Nat) ({ cls := "KindRounds$Row", name := "add", desc := "(IJII)Z" } : Jvm.MethodName) "KindRounds") ∈ lw_nest := nest_in (List.mem_append_right _ (List.mem_append_right _ (List.mem_append_right _ (List.mem_append_right _ (List.mem_append_right _ (List.mem_append_left _ (List.mem_of_getElem? (i := 144) (l := tables_1_5) rfl))))))) rfl
set_option maxHeartbeats 4000000 in
set_option maxRecDepth 100000 in
theorem mC_266 : (Cond.fieldLink "KindRounds$Plainer" (25 : Nat) "KindRounds$Plainer" "kept" "LKindRounds$Row;") ∈ lw_good := good_in (List.mem_append_right _ (List.mem_append_right _ (List.mem_append_left _ (List.mem_of_getElem? (i := 193) (l := tables_1_2) rfl)))) rfl
set_option maxHeartbeats 4000000 in
set_option maxRecDepth 100000 in
theorem mC_267 : (Cond.methodLinkNest "KindRounds$Plainer" (103 : Nat) ({ cls := "KindRounds$Row", name := "isLike", desc := "(LKindRounds$Row;)Z" } : Jvm.MethodName) "KindRounds") ∈ lw_nest := nest_in (List.mem_append_right _ (List.mem_append_right _ (List.mem_append_right _ (List.mem_append_right _ (List.mem_append_right _ (List.mem_append_left _ (List.mem_of_getElem? (i := 199) (l := tables_1_5) rfl))))))) rfl
set_option maxHeartbeats 4000000 in
set_option maxRecDepth 100000 in
theorem mC_268 : (Cond.fieldLink "KindRounds$Plainer" (110 : Nat) "KindRounds$Plainer" "depth" "I") ∈ lw_good := good_in (List.mem_append_right _ (List.mem_append_right _ (List.mem_append_left _ (List.mem_of_getElem? (i := 197) (l := tables_1_2) rfl)))) rfl
set_option maxHeartbeats 4000000 in
set_option maxRecDepth 100000 in
theorem mC_269 : (Cond.methodLink "KindRounds$Plainer" (113 : Nat) ({ cls := "KindRounds$Plainer", name := "beginNode", desc := "(ILKindRounds$Line;)V" } : Jvm.MethodName)) ∈ lw_good := good_in (List.mem_append_right _ (List.mem_append_right _ (List.mem_append_right _ (List.mem_append_right _ (List.mem_append_right _ (List.mem_append_left _ (List.mem_of_getElem? (i := 168) (l := tables_1_5) rfl))))))) rfl
set_option maxHeartbeats 4000000 in
set_option maxRecDepth 100000 in
theorem mC_270 : (Cond.fieldLink "KindRounds$Plainer" (32 : Nat) "KindRounds$Plainer" "frameNodes" "[I") ∈ lw_good := good_in (List.mem_append_right _ (List.mem_append_right _ (List.mem_append_left _ (List.mem_of_getElem? (i := 195) (l := tables_1_2) rfl)))) rfl
set_option maxHeartbeats 4000000 in
set_option maxRecDepth 100000 in
theorem mC_271 : (Cond.fieldLink "KindRounds$Plainer" (35 : Nat) "KindRounds$Plainer" "frameDone" "[I") ∈ lw_good := good_in (List.mem_append_right _ (List.mem_append_right _ (List.mem_append_left _ (List.mem_of_getElem? (i := 196) (l := tables_1_2) rfl)))) rfl
set_option maxHeartbeats 4000000 in
set_option maxRecDepth 100000 in
theorem mC_272 : (Cond.methodLink "KindRounds$Plainer" (117 : Nat) ({ cls := "KindRounds$Plainer", name := "endNodes", desc := "(LKindRounds$Line;)V" } : Jvm.MethodName)) ∈ lw_good := good_in (List.mem_append_right _ (List.mem_append_right _ (List.mem_append_right _ (List.mem_append_right _ (List.mem_append_right _ (List.mem_append_left _ (List.mem_of_getElem? (i := 183) (l := tables_1_5) rfl))))))) rfl
set_option maxHeartbeats 4000000 in
set_option maxRecDepth 100000 in
theorem mC_273 : (Cond.methodLinkNest "KindRounds$Plainer" (107 : Nat) ({ cls := "KindRounds$Line", name := "clear", desc := "()V" } : Jvm.MethodName) "KindRounds") ∈ lw_nest := nest_in (List.mem_append_right _ (List.mem_append_right _ (List.mem_append_right _ (List.mem_append_right _ (List.mem_append_right _ (List.mem_append_left _ (List.mem_of_getElem? (i := 167) (l := tables_1_5) rfl))))))) rfl
set_option maxHeartbeats 4000000 in
set_option maxRecDepth 100000 in
theorem mC_274 : (Cond.methodLinkNest "KindRounds$Plainer" (134 : Nat) ({ cls := "KindRounds$Line", name := "putName", desc := "(J)V" } : Jvm.MethodName) "KindRounds") ∈ lw_nest := nest_in (List.mem_append_right _ (List.mem_append_right _ (List.mem_append_right _ (List.mem_append_right _ (List.mem_append_right _ (List.mem_append_left _ (List.mem_of_getElem? (i := 179) (l := tables_1_5) rfl))))))) rfl
set_option maxHeartbeats 4000000 in
set_option maxRecDepth 100000 in
theorem mC_275 : (Cond.methodLinkNest "KindRounds$Plainer" (124 : Nat) ({ cls := "KindRounds$Line", name := "put", desc := "(I)V" } : Jvm.MethodName) "KindRounds") ∈ lw_nest := nest_in (List.mem_append_right _ (List.mem_append_right _ (List.mem_append_right _ (List.mem_append_right _ (List.mem_append_right _ (List.mem_append_left _ (List.mem_of_getElem? (i := 173) (l := tables_1_5) rfl))))))) rfl
set_option maxHeartbeats 4000000 in
set_option maxRecDepth 100000 in
theorem mC_276 : (Cond.methodLink "KindRounds$Plainer" (130 : Nat) ({ cls := "KindRounds$Plainer", name := "isWrapped", desc := "(II)Z" } : Jvm.MethodName)) ∈ lw_good := good_in (List.mem_append_right _ (List.mem_append_right _ (List.mem_append_right _ (List.mem_append_right _ (List.mem_append_right _ (List.mem_append_left _ (List.mem_of_getElem? (i := 175) (l := tables_1_5) rfl))))))) rfl
set_option maxHeartbeats 4000000 in
set_option maxRecDepth 100000 in
theorem mC_277 : (Cond.methodLinkNest "KindRounds$Plainer" (121 : Nat) ({ cls := "KindRounds$Row", name := "fixedOf", desc := "(I)I" } : Jvm.MethodName) "KindRounds") ∈ lw_nest := nest_in (List.mem_append_right _ (List.mem_append_right _ (List.mem_append_right _ (List.mem_append_right _ (List.mem_append_right _ (List.mem_append_left _ (List.mem_of_getElem? (i := 172) (l := tables_1_5) rfl))))))) rfl
set_option maxHeartbeats 4000000 in
set_option maxRecDepth 100000 in
theorem mC_278 : (Cond.methodLinkNest "KindRounds$Plainer" (127 : Nat) ({ cls := "KindRounds$Line", name := "putArrow", desc := "()V" } : Jvm.MethodName) "KindRounds") ∈ lw_nest := nest_in (List.mem_append_right _ (List.mem_append_right _ (List.mem_append_right _ (List.mem_append_right _ (List.mem_append_right _ (List.mem_append_left _ (List.mem_of_getElem? (i := 174) (l := tables_1_5) rfl))))))) rfl
set_option maxHeartbeats 4000000 in
set_option maxRecDepth 100000 in
theorem mC_279 : (Cond.fieldLink "KindRounds" (10 : Nat) "KindRounds" "tape" "LKindRounds$Tape;") ∈ lw_good := good_in (List.mem_append_right _ (List.mem_append_right _ (List.mem_append_left _ (List.mem_of_getElem? (i := 220) (l := tables_1_2) rfl)))) rfl
set_option maxHeartbeats 4000000 in
set_option maxRecDepth 100000 in
theorem mC_280 : (Cond.methodLinkNest "KindRounds" (97 : Nat) ({ cls := "KindRounds$Tape", name := "hasRoom", desc := "()Z" } : Jvm.MethodName) "KindRounds") ∈ lw_nest := nest_in (List.mem_append_right _ (List.mem_append_right _ (List.mem_append_right _ (List.mem_append_left _ (List.mem_of_getElem? (i := 21) (l := tables_1_3) rfl))))) rfl
set_option maxHeartbeats 4000000 in
set_option maxRecDepth 100000 in
theorem mC_281 : (Cond.methodLinkNest "KindRounds" (101 : Nat) ({ cls := "KindRounds$Tape", name := "append", desc := "(I)V" } : Jvm.MethodName) "KindRounds") ∈ lw_nest := nest_in (List.mem_append_right _ (List.mem_append_right _ (List.mem_append_right _ (List.mem_append_left _ (List.mem_of_getElem? (i := 25) (l := tables_1_3) rfl))))) rfl
set_option maxHeartbeats 4000000 in
set_option maxRecDepth 100000 in
theorem mC_282 : (Cond.fieldLinkNest "KindRounds" (105 : Nat) "KindRounds$Tape" "length" "I" "KindRounds") ∈ lw_nest := nest_in (List.mem_append_right _ (List.mem_append_left _ (List.mem_of_getElem? (i := 38) (l := tables_1_1) rfl))) rfl
set_option maxHeartbeats 4000000 in
set_option maxRecDepth 100000 in
theorem mC_283 : (Cond.fieldLink "KindRounds" (19 : Nat) "KindRounds" "fault" "LKindRounds$Fault;") ∈ lw_good := good_in (List.mem_append_right _ (List.mem_append_right _ (List.mem_append_left _ (List.mem_of_getElem? (i := 221) (l := tables_1_2) rfl)))) rfl
set_option maxHeartbeats 4000000 in
set_option maxRecDepth 100000 in
theorem mC_284 : (Cond.methodLinkNest "KindRounds" (124 : Nat) ({ cls := "KindRounds$Fault", name := "isThere", desc := "()Z" } : Jvm.MethodName) "KindRounds") ∈ lw_nest := nest_in (List.mem_append_right _ (List.mem_append_right _ (List.mem_append_right _ (List.mem_append_right _ (List.mem_append_left _ (List.mem_of_getElem? (i := 125) (l := tables_1_4) rfl)))))) rfl
set_option maxHeartbeats 4000000 in
set_option maxRecDepth 100000 in
theorem mC_285 : (Cond.fieldLink "KindRounds" (33 : Nat) "KindRounds" "text" "LKindRounds$Text;") ∈ lw_good := good_in (List.mem_append_right _ (List.mem_append_right _ (List.mem_append_left _ (List.mem_of_getElem? (i := 223) (l := tables_1_2) rfl)))) rfl
set_option maxHeartbeats 4000000 in
set_option maxRecDepth 100000 in
theorem mC_286 : (Cond.fieldLinkNest "KindRounds" (136 : Nat) "KindRounds$Text" "size" "I" "KindRounds") ∈ lw_nest := nest_in (List.mem_append_right _ (List.mem_append_left _ (List.mem_of_getElem? (i := 197) (l := tables_1_1) rfl))) rfl
set_option maxHeartbeats 4000000 in
set_option maxRecDepth 100000 in
theorem mC_287 : (Cond.methodLinkNest "KindRounds" (114 : Nat) ({ cls := "KindRounds$Text", name := "clear", desc := "()V" } : Jvm.MethodName) "KindRounds") ∈ lw_nest := nest_in (List.mem_append_right _ (List.mem_append_right _ (List.mem_append_right _ (List.mem_append_left _ (List.mem_of_getElem? (i := 49) (l := tables_1_3) rfl))))) rfl
set_option maxHeartbeats 4000000 in
set_option maxRecDepth 100000 in
theorem mC_288 : (Cond.fieldLinkNest "KindRounds" (133 : Nat) "KindRounds$Fault" "number" "I" "KindRounds") ∈ lw_nest := nest_in (List.mem_append_right _ (List.mem_append_left _ (List.mem_of_getElem? (i := 85) (l := tables_1_1) rfl))) rfl
set_option maxHeartbeats 4000000 in
set_option maxRecDepth 100000 in
theorem mC_289 : (Cond.methodLinkNest "KindRounds" (109 : Nat) ({ cls := "KindRounds$Fault", name := "clear", desc := "()V" } : Jvm.MethodName) "KindRounds") ∈ lw_nest := nest_in (List.mem_append_right _ (List.mem_append_right _ (List.mem_append_right _ (List.mem_append_left _ (List.mem_of_getElem? (i := 37) (l := tables_1_3) rfl))))) rfl
set_option maxHeartbeats 4000000 in
set_option maxRecDepth 100000 in
theorem mC_290 : (Cond.fieldLink "KindRounds" (40 : Nat) "KindRounds" "mentions" "LKindRounds$Mentions;") ∈ lw_good := good_in (List.mem_append_right _ (List.mem_append_right _ (List.mem_append_left _ (List.mem_of_getElem? (i := 224) (l := tables_1_2) rfl)))) rfl
set_option maxHeartbeats 4000000 in
set_option maxRecDepth 100000 in
theorem mC_291 : (Cond.methodLinkNest "KindRounds" (112 : Nat) ({ cls := "KindRounds$Mentions", name := "clear", desc := "()V" } : Jvm.MethodName) "KindRounds") ∈ lw_nest := nest_in (List.mem_append_right _ (List.mem_append_right _ (List.mem_append_right _ (List.mem_append_left _ (List.mem_of_getElem? (i := 41) (l := tables_1_3) rfl))))) rfl
set_option maxHeartbeats 4000000 in
set_option maxRecDepth 100000 in
theorem mC_292 : (Cond.fieldLink "KindRounds" (26 : Nat) "KindRounds" "kinds" "LKindRounds$Kinds;") ∈ lw_good := good_in (List.mem_append_right _ (List.mem_append_right _ (List.mem_append_left _ (List.mem_of_getElem? (i := 222) (l := tables_1_2) rfl)))) rfl
set_option maxHeartbeats 4000000 in
set_option maxRecDepth 100000 in
theorem mC_293 : (Cond.methodLinkNest "KindRounds" (113 : Nat) ({ cls := "KindRounds$Kinds", name := "clear", desc := "()V" } : Jvm.MethodName) "KindRounds") ∈ lw_nest := nest_in (List.mem_append_right _ (List.mem_append_right _ (List.mem_append_right _ (List.mem_append_left _ (List.mem_of_getElem? (i := 45) (l := tables_1_3) rfl))))) rfl
set_option maxHeartbeats 4000000 in
set_option maxRecDepth 100000 in
theorem mC_294 : (Cond.methodLinkNest "KindRounds" (115 : Nat) ({ cls := "KindRounds$Tape", name := "scan", desc := "()V" } : Jvm.MethodName) "KindRounds") ∈ lw_nest := nest_in (List.mem_append_right _ (List.mem_append_right _ (List.mem_append_right _ (List.mem_append_left _ (List.mem_of_getElem? (i := 57) (l := tables_1_3) rfl))))) rfl
set_option maxHeartbeats 4000000 in
set_option maxRecDepth 100000 in
theorem mC_295 : (Cond.fieldLink "KindRounds" (56 : Nat) "KindRounds" "parser" "LKindRounds$Parser;") ∈ lw_good := good_in (List.mem_append_right _ (List.mem_append_right _ (List.mem_append_left _ (List.mem_of_getElem? (i := 226) (l := tables_1_2) rfl)))) rfl
set_option maxHeartbeats 4000000 in
set_option maxRecDepth 100000 in
theorem mC_296 : (Cond.methodLinkNest "KindRounds" (118 : Nat) ({ cls := "KindRounds$Parser", name := "parseText", desc := "()V" } : Jvm.MethodName) "KindRounds") ∈ lw_nest := nest_in (List.mem_append_right _ (List.mem_append_right _ (List.mem_append_right _ (List.mem_append_left _ (List.mem_of_getElem? (i := 176) (l := tables_1_3) rfl))))) rfl
set_option maxHeartbeats 4000000 in
set_option maxRecDepth 100000 in
theorem mC_297 : (Cond.fieldLink "KindRounds" (65 : Nat) "KindRounds" "checker" "LKindRounds$Checker;") ∈ lw_good := good_in (List.mem_append_right _ (List.mem_append_right _ (List.mem_append_left _ (List.mem_of_getElem? (i := 227) (l := tables_1_2) rfl)))) rfl
set_option maxHeartbeats 4000000 in
set_option maxRecDepth 100000 in
theorem mC_298 : (Cond.methodLinkNest "KindRounds" (121 : Nat) ({ cls := "KindRounds$Checker", name := "checkText", desc := "()V" } : Jvm.MethodName) "KindRounds") ∈ lw_nest := nest_in (List.mem_append_right _ (List.mem_append_right _ (List.mem_append_right _ (List.mem_append_right _ (List.mem_append_left _ (List.mem_of_getElem? (i := 62) (l := tables_1_4) rfl)))))) rfl
set_option maxHeartbeats 4000000 in
set_option maxRecDepth 100000 in
theorem mC_299 : (Cond.methodLinkNest "KindRounds" (127 : Nat) ({ cls := "KindRounds$Text", name := "formGroups", desc := "()V" } : Jvm.MethodName) "KindRounds") ∈ lw_nest := nest_in (List.mem_append_right _ (List.mem_append_right _ (List.mem_append_right _ (List.mem_append_right _ (List.mem_append_left _ (List.mem_of_getElem? (i := 126) (l := tables_1_4) rfl)))))) rfl
set_option maxHeartbeats 4000000 in
set_option maxRecDepth 100000 in
theorem mC_300 : (Cond.fieldLink "KindRounds" (74 : Nat) "KindRounds" "solver" "LKindRounds$Solver;") ∈ lw_good := good_in (List.mem_append_right _ (List.mem_append_right _ (List.mem_append_left _ (List.mem_of_getElem? (i := 228) (l := tables_1_2) rfl)))) rfl
set_option maxHeartbeats 4000000 in
set_option maxRecDepth 100000 in
theorem mC_301 : (Cond.methodLinkNest "KindRounds" (130 : Nat) ({ cls := "KindRounds$Solver", name := "solveText", desc := "()V" } : Jvm.MethodName) "KindRounds") ∈ lw_nest := nest_in (List.mem_append_right _ (List.mem_append_right _ (List.mem_append_right _ (List.mem_append_right _ (List.mem_append_left _ (List.mem_of_getElem? (i := 140) (l := tables_1_4) rfl)))))) rfl
set_option maxHeartbeats 4000000 in
set_option maxRecDepth 100000 in
theorem mC_302 : (Cond.fieldLinkNest "KindRounds" (139 : Nat) "KindRounds$Fault" "spot" "I" "KindRounds") ∈ lw_nest := nest_in (List.mem_append_right _ (List.mem_append_left _ (List.mem_of_getElem? (i := 87) (l := tables_1_1) rfl))) rfl
set_option maxHeartbeats 4000000 in
set_option maxRecDepth 100000 in
theorem mC_303 : (Cond.fieldLinkNest "KindRounds" (148 : Nat) "KindRounds$Line" "size" "I" "KindRounds") ∈ lw_nest := nest_in (List.mem_append_right _ (List.mem_append_left _ (List.mem_of_getElem? (i := 76) (l := tables_1_1) rfl))) rfl
set_option maxHeartbeats 4000000 in
set_option maxRecDepth 100000 in
theorem mC_304 : (Cond.fieldLink "KindRounds" (90 : Nat) "KindRounds" "shown" "LKindRounds$Line;") ∈ lw_good := good_in (List.mem_append_right _ (List.mem_append_right _ (List.mem_append_left _ (List.mem_of_getElem? (i := 230) (l := tables_1_2) rfl)))) rfl
set_option maxHeartbeats 4000000 in
set_option maxRecDepth 100000 in
theorem mC_305 : (Cond.methodLinkNest "KindRounds" (149 : Nat) ({ cls := "KindRounds$Line", name := "copy", desc := "(LKindRounds$Line;)V" } : Jvm.MethodName) "KindRounds") ∈ lw_nest := nest_in (List.mem_append_right _ (List.mem_append_right _ (List.mem_append_right _ (List.mem_append_right _ (List.mem_append_right _ (List.mem_append_left _ (List.mem_of_getElem? (i := 61) (l := tables_1_5) rfl))))))) rfl
set_option maxHeartbeats 4000000 in
set_option maxRecDepth 100000 in
theorem mC_306 : (Cond.fieldLinkNest "KindRounds" (145 : Nat) "KindRounds$Fault" "right" "LKindRounds$Line;" "KindRounds") ∈ lw_nest := nest_in (List.mem_append_right _ (List.mem_append_left _ (List.mem_of_getElem? (i := 92) (l := tables_1_1) rfl))) rfl
set_option maxHeartbeats 4000000 in
set_option maxRecDepth 100000 in
theorem mC_307 : (Cond.fieldLinkNest "KindRounds" (142 : Nat) "KindRounds$Fault" "left" "LKindRounds$Line;" "KindRounds") ∈ lw_nest := nest_in (List.mem_append_right _ (List.mem_append_left _ (List.mem_of_getElem? (i := 89) (l := tables_1_1) rfl))) rfl
set_option maxHeartbeats 4000000 in
set_option maxRecDepth 100000 in
theorem mC_308 : (Cond.fieldLinkNest "KindRounds" (153 : Nat) "KindRounds$Line" "bytes" "[B" "KindRounds") ∈ lw_nest := nest_in (List.mem_append_right _ (List.mem_append_left _ (List.mem_of_getElem? (i := 74) (l := tables_1_1) rfl))) rfl
set_option maxHeartbeats 4000000 in
set_option maxRecDepth 100000 in
theorem mC_309 : (Cond.methodLinkNest "KindRounds" (157 : Nat) ({ cls := "KindRounds$Text", name := "has", desc := "(I)Z" } : Jvm.MethodName) "KindRounds") ∈ lw_nest := nest_in (List.mem_append_right _ (List.mem_append_right _ (List.mem_append_right _ (List.mem_append_right _ (List.mem_append_right _ (List.mem_append_left _ (List.mem_of_getElem? (i := 74) (l := tables_1_5) rfl))))))) rfl
set_option maxHeartbeats 4000000 in
set_option maxRecDepth 100000 in
theorem mC_310 : (Cond.fieldLinkNest "KindRounds" (161 : Nat) "KindRounds$Text" "sorts" "[I" "KindRounds") ∈ lw_nest := nest_in (List.mem_append_right _ (List.mem_append_left _ (List.mem_of_getElem? (i := 204) (l := tables_1_1) rfl))) rfl
set_option maxHeartbeats 4000000 in
set_option maxRecDepth 100000 in
theorem mC_311 : (Cond.fieldLinkNest "KindRounds" (165 : Nat) "KindRounds$Text" "params" "[I" "KindRounds") ∈ lw_nest := nest_in (List.mem_append_right _ (List.mem_append_left _ (List.mem_of_getElem? (i := 212) (l := tables_1_1) rfl))) rfl
set_option maxHeartbeats 4000000 in
set_option maxRecDepth 100000 in
theorem mC_312 : (Cond.fieldLinkNest "KindRounds" (168 : Nat) "KindRounds$Text" "groupOf" "[I" "KindRounds") ∈ lw_nest := nest_in (List.mem_append_right _ (List.mem_append_left _ (List.mem_of_getElem? (i := 223) (l := tables_1_1) rfl))) rfl
set_option maxHeartbeats 4000000 in
set_option maxRecDepth 100000 in
theorem mC_313 : (Cond.fieldLinkNest "KindRounds" (171 : Nat) "KindRounds$Text" "spots" "[I" "KindRounds") ∈ lw_nest := nest_in (List.mem_append_right _ (List.mem_append_left _ (List.mem_of_getElem? (i := 207) (l := tables_1_1) rfl))) rfl
set_option maxHeartbeats 4000000 in
set_option maxRecDepth 100000 in
theorem mC_314 : (Cond.fieldLinkNest "KindRounds" (174 : Nat) "KindRounds$Text" "items" "[I" "KindRounds") ∈ lw_nest := nest_in (List.mem_append_right _ (List.mem_append_left _ (List.mem_of_getElem? (i := 217) (l := tables_1_1) rfl))) rfl
set_option maxHeartbeats 4000000 in
set_option maxRecDepth 100000 in
theorem mC_315 : (Cond.fieldLinkNest "KindRounds" (177 : Nat) "KindRounds$Text" "opens" "[I" "KindRounds") ∈ lw_nest := nest_in (List.mem_append_right _ (List.mem_append_left _ (List.mem_of_getElem? (i := 221) (l := tables_1_1) rfl))) rfl
set_option maxHeartbeats 4000000 in
set_option maxRecDepth 100000 in
theorem mC_316 : (Cond.methodLink "KindRounds" (185 : Nat) ({ cls := "KindRounds", name := "showKind", desc := "(I)I" } : Jvm.MethodName)) ∈ lw_good := good_in (List.mem_append_right _ (List.mem_append_right _ (List.mem_append_right _ (List.mem_append_right _ (List.mem_append_right _ (List.mem_append_left _ (List.mem_of_getElem? (i := 79) (l := tables_1_5) rfl))))))) rfl
set_option maxHeartbeats 4000000 in
set_option maxRecDepth 100000 in
theorem mC_317 : (Cond.fieldLinkNest "KindRounds" (182 : Nat) "KindRounds$Text" "paramKinds" "[I" "KindRounds") ∈ lw_nest := nest_in (List.mem_append_right _ (List.mem_append_left _ (List.mem_of_getElem? (i := 238) (l := tables_1_1) rfl))) rfl
set_option maxHeartbeats 4000000 in
set_option maxRecDepth 100000 in
theorem mC_318 : (Cond.fieldLinkNest "KindRounds" (180 : Nat) "KindRounds$Text" "kinds" "[I" "KindRounds") ∈ lw_nest := nest_in (List.mem_append_right _ (List.mem_append_left _ (List.mem_of_getElem? (i := 235) (l := tables_1_1) rfl))) rfl
set_option maxHeartbeats 4000000 in
set_option maxRecDepth 100000 in
theorem mC_319 : (Cond.fieldLinkNest "KindRounds" (189 : Nat) "KindRounds$Text" "groupCount" "I" "KindRounds") ∈ lw_nest := nest_in (List.mem_append_right _ (List.mem_append_left _ (List.mem_of_getElem? (i := 232) (l := tables_1_1) rfl))) rfl
set_option maxHeartbeats 4000000 in
set_option maxRecDepth 100000 in
theorem mC_320 : (Cond.methodLinkNest "KindRounds" (192 : Nat) ({ cls := "KindRounds$Text", name := "findMember", desc := "(II)I" } : Jvm.MethodName) "KindRounds") ∈ lw_nest := nest_in (List.mem_append_right _ (List.mem_append_right _ (List.mem_append_right _ (List.mem_append_right _ (List.mem_append_right _ (List.mem_append_left _ (List.mem_of_getElem? (i := 97) (l := tables_1_5) rfl))))))) rfl
set_option maxHeartbeats 4000000 in
set_option maxRecDepth 100000 in
theorem mC_321 : (Cond.fieldLinkNest "KindRounds" (196 : Nat) "KindRounds$Text" "needMasks" "[I" "KindRounds") ∈ lw_nest := nest_in (List.mem_append_right _ (List.mem_append_left _ (List.mem_of_getElem? (i := 227) (l := tables_1_1) rfl))) rfl
set_option maxHeartbeats 4000000 in
set_option maxRecDepth 100000 in
theorem mC_322 : (Cond.methodLink "KindRounds" (199 : Nat) ({ cls := "KindRounds", name := "takeTypes", desc := "(I)Z" } : Jvm.MethodName)) ∈ lw_good := good_in (List.mem_append_right _ (List.mem_append_right _ (List.mem_append_right _ (List.mem_append_right _ (List.mem_append_right _ (List.mem_append_left _ (List.mem_of_getElem? (i := 109) (l := tables_1_5) rfl))))))) rfl
set_option maxHeartbeats 4000000 in
set_option maxRecDepth 100000 in
theorem mC_323 : (Cond.fieldLinkNest "KindRounds" (202 : Nat) "KindRounds$Solver" "rootKind" "I" "KindRounds") ∈ lw_nest := nest_in (List.mem_append_right _ (List.mem_append_right _ (List.mem_append_left _ (List.mem_of_getElem? (i := 148) (l := tables_1_2) rfl)))) rfl
set_option maxHeartbeats 4000000 in
set_option maxRecDepth 100000 in
theorem mC_324 : (Cond.fieldLink "KindRounds" (83 : Nat) "KindRounds" "plainer" "LKindRounds$Plainer;") ∈ lw_good := good_in (List.mem_append_right _ (List.mem_append_right _ (List.mem_append_left _ (List.mem_of_getElem? (i := 229) (l := tables_1_2) rfl)))) rfl
set_option maxHeartbeats 4000000 in
set_option maxRecDepth 100000 in
theorem mC_325 : (Cond.fieldLink "KindRounds" (47 : Nat) "KindRounds" "asked" "LKindRounds$Row;") ∈ lw_good := good_in (List.mem_append_right _ (List.mem_append_right _ (List.mem_append_left _ (List.mem_of_getElem? (i := 225) (l := tables_1_2) rfl)))) rfl
set_option maxHeartbeats 4000000 in
set_option maxRecDepth 100000 in
theorem mC_326 : (Cond.methodLinkNest "KindRounds" (205 : Nat) ({ cls := "KindRounds$Plainer", name := "replaceAll", desc := "(LKindRounds$Row;I)Z" } : Jvm.MethodName) "KindRounds") ∈ lw_nest := nest_in (List.mem_append_right _ (List.mem_append_right _ (List.mem_append_right _ (List.mem_append_right _ (List.mem_append_right _ (List.mem_append_left _ (List.mem_of_getElem? (i := 134) (l := tables_1_5) rfl))))))) rfl
set_option maxHeartbeats 4000000 in
set_option maxRecDepth 100000 in
theorem mC_327 : (Cond.fieldLink "KindRounds" (94 : Nat) "KindRounds" "spare" "LKindRounds$Line;") ∈ lw_good := good_in (List.mem_append_right _ (List.mem_append_right _ (List.mem_append_left _ (List.mem_of_getElem? (i := 231) (l := tables_1_2) rfl)))) rfl
set_option maxHeartbeats 4000000 in
set_option maxRecDepth 100000 in
theorem mC_328 : (Cond.methodLinkNest "KindRounds" (209 : Nat) ({ cls := "KindRounds$Plainer", name := "show", desc := "(LKindRounds$Line;)V" } : Jvm.MethodName) "KindRounds") ∈ lw_nest := nest_in (List.mem_append_right _ (List.mem_append_right _ (List.mem_append_right _ (List.mem_append_right _ (List.mem_append_right _ (List.mem_append_left _ (List.mem_of_getElem? (i := 163) (l := tables_1_5) rfl))))))) rfl
set_option maxHeartbeats 4000000 in
set_option maxRecDepth 100000 in
theorem mC_329 : (Cond.methodLink "KindRounds" (212 : Nat) ({ cls := "KindRounds", name := "swapLines", desc := "()V" } : Jvm.MethodName)) ∈ lw_good := good_in (List.mem_append_right _ (List.mem_append_right _ (List.mem_append_right _ (List.mem_append_right _ (List.mem_append_right _ (List.mem_append_left _ (List.mem_of_getElem? (i := 85) (l := tables_1_5) rfl))))))) rfl
set_option maxHeartbeats 4000000 in
set_option maxRecDepth 100000 in
theorem mC_330 : (Cond.methodLinkNest "KindRounds" (215 : Nat) ({ cls := "KindRounds$Plainer", name := "keep", desc := "()V" } : Jvm.MethodName) "KindRounds") ∈ lw_nest := nest_in (List.mem_append_right _ (List.mem_append_right _ (List.mem_append_right _ (List.mem_append_right _ (List.mem_append_right _ (List.mem_append_left _ (List.mem_of_getElem? (i := 191) (l := tables_1_5) rfl))))))) rfl
set_option maxHeartbeats 4000000 in
set_option maxRecDepth 100000 in
theorem mC_331 : (Cond.methodLinkNest "KindRounds" (218 : Nat) ({ cls := "KindRounds$Plainer", name := "isAsKept", desc := "()Z" } : Jvm.MethodName) "KindRounds") ∈ lw_nest := nest_in (List.mem_append_right _ (List.mem_append_right _ (List.mem_append_right _ (List.mem_append_right _ (List.mem_append_right _ (List.mem_append_left _ (List.mem_of_getElem? (i := 195) (l := tables_1_5) rfl))))))) rfl
set_option maxHeartbeats 4000000 in
set_option maxRecDepth 100000 in
theorem mC_332 : (Cond.methodLinkNest "KindRounds" (232 : Nat) ({ cls := "KindRounds$Solver", name := "solveAsked", desc := "(LKindRounds$Row;I)V" } : Jvm.MethodName) "KindRounds") ∈ lw_nest := nest_in (List.mem_append_right _ (List.mem_append_right _ (List.mem_append_right _ (List.mem_append_right _ (List.mem_append_right _ (List.mem_append_left _ (List.mem_of_getElem? (i := 126) (l := tables_1_5) rfl))))))) rfl
set_option maxHeartbeats 4000000 in
set_option maxRecDepth 100000 in
theorem mC_333 : (Cond.methodLinkNest "KindRounds" (221 : Nat) ({ cls := "KindRounds$Row", name := "clear", desc := "()V" } : Jvm.MethodName) "KindRounds") ∈ lw_nest := nest_in (List.mem_append_right _ (List.mem_append_right _ (List.mem_append_right _ (List.mem_append_right _ (List.mem_append_right _ (List.mem_append_left _ (List.mem_of_getElem? (i := 113) (l := tables_1_5) rfl))))))) rfl
set_option maxHeartbeats 4000000 in
set_option maxRecDepth 100000 in
theorem mC_334 : (Cond.methodLinkNest "KindRounds" (222 : Nat) ({ cls := "KindRounds$Kinds", name := "dropAsked", desc := "()V" } : Jvm.MethodName) "KindRounds") ∈ lw_nest := nest_in (List.mem_append_right _ (List.mem_append_right _ (List.mem_append_right _ (List.mem_append_right _ (List.mem_append_right _ (List.mem_append_left _ (List.mem_of_getElem? (i := 114) (l := tables_1_5) rfl))))))) rfl
set_option maxHeartbeats 4000000 in
set_option maxRecDepth 100000 in
theorem mC_335 : (Cond.methodLinkNest "KindRounds" (225 : Nat) ({ cls := "KindRounds$Parser", name := "parseTypes", desc := "(LKindRounds$Row;I)V" } : Jvm.MethodName) "KindRounds") ∈ lw_nest := nest_in (List.mem_append_right _ (List.mem_append_right _ (List.mem_append_right _ (List.mem_append_right _ (List.mem_append_right _ (List.mem_append_left _ (List.mem_of_getElem? (i := 118) (l := tables_1_5) rfl))))))) rfl
set_option maxHeartbeats 4000000 in
set_option maxRecDepth 100000 in
theorem mC_336 : (Cond.methodLinkNest "KindRounds" (229 : Nat) ({ cls := "KindRounds$Checker", name := "checkTypes", desc := "()V" } : Jvm.MethodName) "KindRounds") ∈ lw_nest := nest_in (List.mem_append_right _ (List.mem_append_right _ (List.mem_append_right _ (List.mem_append_right _ (List.mem_append_right _ (List.mem_append_left _ (List.mem_of_getElem? (i := 122) (l := tables_1_5) rfl))))))) rfl
set_option maxHeartbeats 4000000 in
set_option maxRecDepth 100000 in
theorem mC_337 : (Cond.methodLinkNest "KindRounds" (235 : Nat) ({ cls := "KindRounds$Line", name := "clear", desc := "()V" } : Jvm.MethodName) "KindRounds") ∈ lw_nest := nest_in (List.mem_append_right _ (List.mem_append_right _ (List.mem_append_right _ (List.mem_append_right _ (List.mem_append_right _ (List.mem_append_left _ (List.mem_of_getElem? (i := 83) (l := tables_1_5) rfl))))))) rfl
set_option maxHeartbeats 4000000 in
set_option maxRecDepth 100000 in
theorem mC_338 : (Cond.methodLinkNest "KindRounds" (236 : Nat) ({ cls := "KindRounds$Kinds", name := "show", desc := "(ILKindRounds$Line;Z)V" } : Jvm.MethodName) "KindRounds") ∈ lw_nest := nest_in (List.mem_append_right _ (List.mem_append_right _ (List.mem_append_right _ (List.mem_append_right _ (List.mem_append_right _ (List.mem_append_left _ (List.mem_of_getElem? (i := 84) (l := tables_1_5) rfl))))))) rfl
set_option maxHeartbeats 4000000 in
set_option maxRecDepth 100000 in
theorem mC_339 : (Cond.code ({ cls := "java/util/Arrays", name := "rangeCheck", desc := "(III)V" } : Jvm.MethodName) prog_21_method_30_code (3 : Nat) (Option.none : Option Jvm.ClassFile.FieldType)) ∈ lw_good := good_in (List.mem_append_right _ (List.mem_append_right _ (List.mem_append_right _ (List.mem_append_right _ (List.mem_append_right _ (List.mem_append_left _ (List.mem_of_getElem? (i := 14) (l := tables_1_5) rfl))))))) rfl
set_option maxHeartbeats 4000000 in
set_option maxRecDepth 100000 in
theorem mC_340 : (Cond.initialized "java/util/Arrays") ∈ lw_good := good_in (List.mem_append_right _ (List.mem_append_left _ (List.mem_of_getElem? (i := 21) (l := tables_1_1) rfl))) rfl
set_option maxHeartbeats 4000000 in
set_option maxRecDepth 100000 in
theorem mC_341 : (Cond.static ({ cls := "java/util/Arrays", name := "rangeCheck", desc := "(III)V" } : Jvm.MethodName)) ∈ lw_good := good_in (List.mem_append_right _ (List.mem_append_right _ (List.mem_append_right _ (List.mem_append_right _ (List.mem_append_right _ (List.mem_append_left _ (List.mem_of_getElem? (i := 13) (l := tables_1_5) rfl))))))) rfl
set_option maxHeartbeats 4000000 in
set_option maxRecDepth 100000 in
theorem mC_342 : (Cond.code ({ cls := "java/util/Arrays", name := "fill", desc := "([IIII)V" } : Jvm.MethodName) prog_21_method_104_code (5 : Nat) (Option.none : Option Jvm.ClassFile.FieldType)) ∈ lw_good := good_in (List.mem_append_right _ (List.mem_append_right _ (List.mem_append_right _ (List.mem_append_right _ (List.mem_append_right _ (List.mem_append_left _ (List.mem_of_getElem? (i := 11) (l := tables_1_5) rfl))))))) rfl
set_option maxHeartbeats 4000000 in
set_option maxRecDepth 100000 in
theorem mC_343 : (Cond.static ({ cls := "java/util/Arrays", name := "fill", desc := "([IIII)V" } : Jvm.MethodName)) ∈ lw_good := good_in (List.mem_append_right _ (List.mem_append_right _ (List.mem_append_right _ (List.mem_append_right _ (List.mem_append_right _ (List.mem_append_left _ (List.mem_of_getElem? (i := 10) (l := tables_1_5) rfl))))))) rfl
set_option maxHeartbeats 4000000 in
set_option maxRecDepth 100000 in
theorem mC_344 : (Cond.code ({ cls := "KindRounds$Tape", name := "hasRoom", desc := "()Z" } : Jvm.MethodName) prog_11_method_2_code (1 : Nat) (Option.some Jvm.ClassFile.FieldType.boolean)) ∈ lw_good := good_in (List.mem_append_right _ (List.mem_append_right _ (List.mem_append_right _ (List.mem_append_left _ (List.mem_of_getElem? (i := 24) (l := tables_1_3) rfl))))) rfl
set_option maxHeartbeats 4000000 in
set_option maxRecDepth 100000 in
theorem mC_345 : (Cond.initialized "KindRounds$Tape") ∈ lw_good := good_in (List.mem_append_right _ (List.mem_append_left _ (List.mem_of_getElem? (i := 2) (l := tables_1_1) rfl))) rfl
set_option maxHeartbeats 4000000 in
set_option maxRecDepth 100000 in
theorem mC_346 : (Cond.instanceMethod ({ cls := "KindRounds$Tape", name := "hasRoom", desc := "()Z" } : Jvm.MethodName)) ∈ lw_good := good_in (List.mem_append_right _ (List.mem_append_right _ (List.mem_append_right _ (List.mem_append_left _ (List.mem_of_getElem? (i := 23) (l := tables_1_3) rfl))))) rfl
set_option maxHeartbeats 4000000 in
set_option maxRecDepth 100000 in
theorem mC_347 : Cond.selects "KindRounds$Tape" ⟨"KindRounds$Tape", "hasRoom", "()Z"⟩ ⟨"KindRounds$Tape", "hasRoom", "()Z"⟩ ∈ lw_good := good_in (List.mem_append_left _ (List.mem_of_getElem? (i := 0) (l := k2_sels lw_privs) (by decide +kernel))) rfl
set_option maxHeartbeats 4000000 in
set_option maxRecDepth 100000 in
theorem mC_348 : (Cond.code ({ cls := "KindRounds$Tape", name := "append", desc := "(I)V" } : Jvm.MethodName) prog_11_method_3_code (3 : Nat) (Option.none : Option Jvm.ClassFile.FieldType)) ∈ lw_good := good_in (List.mem_append_right _ (List.mem_append_right _ (List.mem_append_right _ (List.mem_append_left _ (List.mem_of_getElem? (i := 28) (l := tables_1_3) rfl))))) rfl
set_option maxHeartbeats 4000000 in
set_option maxRecDepth 100000 in
theorem mC_349 : (Cond.instanceMethod ({ cls := "KindRounds$Tape", name := "append", desc := "(I)V" } : Jvm.MethodName)) ∈ lw_good := good_in (List.mem_append_right _ (List.mem_append_right _ (List.mem_append_right _ (List.mem_append_left _ (List.mem_of_getElem? (i := 27) (l := tables_1_3) rfl))))) rfl
set_option maxHeartbeats 4000000 in
set_option maxRecDepth 100000 in
theorem mC_350 : Cond.selects "KindRounds$Tape" ⟨"KindRounds$Tape", "append", "(I)V"⟩ ⟨"KindRounds$Tape", "append", "(I)V"⟩ ∈ lw_good := good_in (List.mem_append_left _ (List.mem_of_getElem? (i := 1) (l := k2_sels lw_privs) (by decide +kernel))) rfl
set_option maxHeartbeats 4000000 in
set_option maxRecDepth 100000 in
theorem mC_351 : (Cond.code ({ cls := "KindRounds$Tape", name := "scan", desc := "()V" } : Jvm.MethodName) prog_11_method_4_code (4 : Nat) (Option.none : Option Jvm.ClassFile.FieldType)) ∈ lw_good := good_in (List.mem_append_right _ (List.mem_append_right _ (List.mem_append_right _ (List.mem_append_left _ (List.mem_of_getElem? (i := 60) (l := tables_1_3) rfl))))) rfl
set_option maxHeartbeats 4000000 in
set_option maxRecDepth 100000 in
theorem mC_352 : (Cond.instanceMethod ({ cls := "KindRounds$Tape", name := "scan", desc := "()V" } : Jvm.MethodName)) ∈ lw_good := good_in (List.mem_append_right _ (List.mem_append_right _ (List.mem_append_right _ (List.mem_append_left _ (List.mem_of_getElem? (i := 59) (l := tables_1_3) rfl))))) rfl
set_option maxHeartbeats 4000000 in
set_option maxRecDepth 100000 in
theorem mC_353 : Cond.selects "KindRounds$Tape" ⟨"KindRounds$Tape", "scan", "()V"⟩ ⟨"KindRounds$Tape", "scan", "()V"⟩ ∈ lw_good := good_in (List.mem_append_left _ (List.mem_of_getElem? (i := 7) (l := k2_sels lw_privs) (by decide +kernel))) rfl
set_option maxHeartbeats 4000000 in
set_option maxRecDepth 100000 in
theorem mC_354 : (Cond.code ({ cls := "KindRounds$Tape", name := "scanName", desc := "(I)I" } : Jvm.MethodName) prog_11_method_5_code (5 : Nat) (Option.some Jvm.ClassFile.FieldType.int)) ∈ lw_good := good_in (List.mem_append_right _ (List.mem_append_right _ (List.mem_append_right _ (List.mem_append_left _ (List.mem_of_getElem? (i := 70) (l := tables_1_3) rfl))))) rfl
set_option maxHeartbeats 4000000 in
set_option maxRecDepth 100000 in
theorem mC_355 : (Cond.instanceMethod ({ cls := "KindRounds$Tape", name := "scanName", desc := "(I)I" } : Jvm.MethodName)) ∈ lw_good := good_in (List.mem_append_right _ (List.mem_append_right _ (List.mem_append_right _ (List.mem_append_left _ (List.mem_of_getElem? (i := 69) (l := tables_1_3) rfl))))) rfl
set_option maxHeartbeats 4000000 in
set_option maxRecDepth 100000 in
theorem mC_356 : Cond.selects "KindRounds$Tape" ⟨"KindRounds$Tape", "scanName", "(I)I"⟩ ⟨"KindRounds$Tape", "scanName", "(I)I"⟩ ∈ lw_good := good_in (List.mem_append_left _ (List.mem_of_getElem? (i := 8) (l := k2_sels lw_privs) (by decide +kernel))) rfl
set_option maxHeartbeats 4000000 in
set_option maxRecDepth 100000 in
theorem mC_357 : (Cond.code ({ cls := "KindRounds$Tape", name := "scanSign", desc := "(I)I" } : Jvm.MethodName) prog_11_method_6_code (4 : Nat) (Option.some Jvm.ClassFile.FieldType.int)) ∈ lw_good := good_in (List.mem_append_right _ (List.mem_append_right _ (List.mem_append_right _ (List.mem_append_left _ (List.mem_of_getElem? (i := 88) (l := tables_1_3) rfl))))) rfl
set_option maxHeartbeats 4000000 in
set_option maxRecDepth 100000 in
theorem mC_358 : (Cond.instanceMethod ({ cls := "KindRounds$Tape", name := "scanSign", desc := "(I)I" } : Jvm.MethodName)) ∈ lw_good := good_in (List.mem_append_right _ (List.mem_append_right _ (List.mem_append_right _ (List.mem_append_left _ (List.mem_of_getElem? (i := 87) (l := tables_1_3) rfl))))) rfl
set_option maxHeartbeats 4000000 in
set_option maxRecDepth 100000 in
theorem mC_359 : Cond.selects "KindRounds$Tape" ⟨"KindRounds$Tape", "scanSign", "(I)I"⟩ ⟨"KindRounds$Tape", "scanSign", "(I)I"⟩ ∈ lw_good := good_in (List.mem_append_left _ (List.mem_of_getElem? (i := 10) (l := k2_sels lw_privs) (by decide +kernel))) rfl
set_option maxHeartbeats 4000000 in
set_option maxRecDepth 100000 in
theorem mC_360 : (Cond.code ({ cls := "KindRounds$Tape", name := "addToken", desc := "(IJI)V" } : Jvm.MethodName) prog_11_method_7_code (5 : Nat) (Option.none : Option Jvm.ClassFile.FieldType)) ∈ lw_good := good_in (List.mem_append_right _ (List.mem_append_right _ (List.mem_append_right _ (List.mem_append_left _ (List.mem_of_getElem? (i := 77) (l := tables_1_3) rfl))))) rfl
set_option maxHeartbeats 4000000 in
set_option maxRecDepth 100000 in
theorem mC_361 : (Cond.instanceMethod ({ cls := "KindRounds$Tape", name := "addToken", desc := "(IJI)V" } : Jvm.MethodName)) ∈ lw_good := good_in (List.mem_append_right _ (List.mem_append_right _ (List.mem_append_right _ (List.mem_append_left _ (List.mem_of_getElem? (i := 76) (l := tables_1_3) rfl))))) rfl
set_option maxHeartbeats 4000000 in
set_option maxRecDepth 100000 in
theorem mC_362 : Cond.selects "KindRounds$Tape" ⟨"KindRounds$Tape", "addToken", "(IJI)V"⟩ ⟨"KindRounds$Tape", "addToken", "(IJI)V"⟩ ∈ lw_good := good_in (List.mem_append_left _ (List.mem_of_getElem? (i := 9) (l := k2_sels lw_privs) (by decide +kernel))) rfl
set_option maxHeartbeats 4000000 in
set_option maxRecDepth 100000 in
theorem mC_363 : (Cond.code ({ cls := "KindRounds$Tape", name := "sort", desc := "()I" } : Jvm.MethodName) prog_11_method_8_code (1 : Nat) (Option.some Jvm.ClassFile.FieldType.int)) ∈ lw_good := good_in (List.mem_append_right _ (List.mem_append_right _ (List.mem_append_right _ (List.mem_append_left _ (List.mem_of_getElem? (i := 183) (l := tables_1_3) rfl))))) rfl
set_option maxHeartbeats 4000000 in
set_option maxRecDepth 100000 in
theorem mC_364 : (Cond.instanceMethod ({ cls := "KindRounds$Tape", name := "sort", desc := "()I" } : Jvm.MethodName)) ∈ lw_good := good_in (List.mem_append_right _ (List.mem_append_right _ (List.mem_append_right _ (List.mem_append_left _ (List.mem_of_getElem? (i := 182) (l := tables_1_3) rfl))))) rfl
set_option maxHeartbeats 4000000 in
set_option maxRecDepth 100000 in
theorem mC_365 : Cond.selects "KindRounds$Tape" ⟨"KindRounds$Tape", "sort", "()I"⟩ ⟨"KindRounds$Tape", "sort", "()I"⟩ ∈ lw_good := good_in (List.mem_append_left _ (List.mem_of_getElem? (i := 12) (l := k2_sels lw_privs) (by decide +kernel))) rfl
set_option maxHeartbeats 4000000 in
set_option maxRecDepth 100000 in
theorem mC_366 : (Cond.code ({ cls := "KindRounds$Tape", name := "name", desc := "()J" } : Jvm.MethodName) prog_11_method_9_code (1 : Nat) (Option.some Jvm.ClassFile.FieldType.long)) ∈ lw_good := good_in (List.mem_append_right _ (List.mem_append_right _ (List.mem_append_right _ (List.mem_append_left _ (List.mem_of_getElem? (i := 211) (l := tables_1_3) rfl))))) rfl
set_option maxHeartbeats 4000000 in
set_option maxRecDepth 100000 in
theorem mC_367 : (Cond.instanceMethod ({ cls := "KindRounds$Tape", name := "name", desc := "()J" } : Jvm.MethodName)) ∈ lw_good := good_in (List.mem_append_right _ (List.mem_append_right _ (List.mem_append_right _ (List.mem_append_left _ (List.mem_of_getElem? (i := 210) (l := tables_1_3) rfl))))) rfl
set_option maxHeartbeats 4000000 in
set_option maxRecDepth 100000 in
theorem mC_368 : Cond.selects "KindRounds$Tape" ⟨"KindRounds$Tape", "name", "()J"⟩ ⟨"KindRounds$Tape", "name", "()J"⟩ ∈ lw_good := good_in (List.mem_append_left _ (List.mem_of_getElem? (i := 19) (l := k2_sels lw_privs) (by decide +kernel))) rfl
set_option maxHeartbeats 4000000 in
set_option maxRecDepth 100000 in
theorem mC_369 : (Cond.code ({ cls := "KindRounds$Tape", name := "start", desc := "()I" } : Jvm.MethodName) prog_11_method_10_code (1 : Nat) (Option.some Jvm.ClassFile.FieldType.int)) ∈ lw_good := good_in (List.mem_append_right _ (List.mem_append_right _ (List.mem_append_right _ (List.mem_append_left _ (List.mem_of_getElem? (i := 199) (l := tables_1_3) rfl))))) rfl
set_option maxHeartbeats 4000000 in
set_option maxRecDepth 100000 in
theorem mC_370 : (Cond.instanceMethod ({ cls := "KindRounds$Tape", name := "start", desc := "()I" } : Jvm.MethodName)) ∈ lw_good := good_in (List.mem_append_right _ (List.mem_append_right _ (List.mem_append_right _ (List.mem_append_left _ (List.mem_of_getElem? (i := 198) (l := tables_1_3) rfl))))) rfl
set_option maxHeartbeats 4000000 in
set_option maxRecDepth 100000 in
theorem mC_371 : Cond.selects "KindRounds$Tape" ⟨"KindRounds$Tape", "start", "()I"⟩ ⟨"KindRounds$Tape", "start", "()I"⟩ ∈ lw_good := good_in (List.mem_append_left _ (List.mem_of_getElem? (i := 16) (l := k2_sels lw_privs) (by decide +kernel))) rfl
set_option maxHeartbeats 4000000 in
set_option maxRecDepth 100000 in
theorem mC_372 : (Cond.code ({ cls := "KindRounds$Tape", name := "step", desc := "()V" } : Jvm.MethodName) prog_11_method_11_code (1 : Nat) (Option.none : Option Jvm.ClassFile.FieldType)) ∈ lw_good := good_in (List.mem_append_right _ (List.mem_append_right _ (List.mem_append_right _ (List.mem_append_left _ (List.mem_of_getElem? (i := 191) (l := tables_1_3) rfl))))) rfl
set_option maxHeartbeats 4000000 in
set_option maxRecDepth 100000 in
theorem mC_373 : (Cond.instanceMethod ({ cls := "KindRounds$Tape", name := "step", desc := "()V" } : Jvm.MethodName)) ∈ lw_good := good_in (List.mem_append_right _ (List.mem_append_right _ (List.mem_append_right _ (List.mem_append_left _ (List.mem_of_getElem? (i := 190) (l := tables_1_3) rfl))))) rfl
set_option maxHeartbeats 4000000 in
set_option maxRecDepth 100000 in
theorem mC_374 : Cond.selects "KindRounds$Tape" ⟨"KindRounds$Tape", "step", "()V"⟩ ⟨"KindRounds$Tape", "step", "()V"⟩ ∈ lw_good := good_in (List.mem_append_left _ (List.mem_of_getElem? (i := 14) (l := k2_sels lw_privs) (by decide +kernel))) rfl
set_option maxHeartbeats 4000000 in
set_option maxRecDepth 100000 in
theorem mC_375 : (Cond.code ({ cls := "KindRounds$Tape", name := "sortOfSmall", desc := "(J)I" } : Jvm.MethodName) prog_11_method_12_code (2 : Nat) (Option.some Jvm.ClassFile.FieldType.int)) ∈ lw_good := good_in (List.mem_append_right _ (List.mem_append_right _ (List.mem_append_right _ (List.mem_append_left _ (List.mem_of_getElem? (i := 80) (l := tables_1_3) rfl))))) rfl
set_option maxHeartbeats 4000000 in
set_option maxRecDepth 100000 in
theorem mC_376 : (Cond.static ({ cls := "KindRounds$Tape", name := "sortOfSmall", desc := "(J)I" } : Jvm.MethodName)) ∈ lw_good := good_in (List.mem_append_right _ (List.mem_append_right _ (List.mem_append_right _ (List.mem_append_left _ (List.mem_of_getElem? (i := 79) (l := tables_1_3) rfl))))) rfl
set_option maxHeartbeats 4000000 in
set_option maxRecDepth 100000 in
theorem mC_377 : (Cond.code ({ cls := "KindRounds$Tape", name := "isBigLetter", desc := "(I)Z" } : Jvm.MethodName) prog_11_method_13_code (1 : Nat) (Option.some Jvm.ClassFile.FieldType.boolean)) ∈ lw_good := good_in (List.mem_append_right _ (List.mem_append_right _ (List.mem_append_right _ (List.mem_append_left _ (List.mem_of_getElem? (i := 63) (l := tables_1_3) rfl))))) rfl
set_option maxHeartbeats 4000000 in
set_option maxRecDepth 100000 in
theorem mC_378 : (Cond.static ({ cls := "KindRounds$Tape", name := "isBigLetter", desc := "(I)Z" } : Jvm.MethodName)) ∈ lw_good := good_in (List.mem_append_right _ (List.mem_append_right _ (List.mem_append_right _ (List.mem_append_left _ (List.mem_of_getElem? (i := 62) (l := tables_1_3) rfl))))) rfl
set_option maxHeartbeats 4000000 in
set_option maxRecDepth 100000 in
theorem mC_379 : (Cond.code ({ cls := "KindRounds$Tape", name := "isSmallLetter", desc := "(I)Z" } : Jvm.MethodName) prog_11_method_14_code (1 : Nat) (Option.some Jvm.ClassFile.FieldType.boolean)) ∈ lw_good := good_in (List.mem_append_right _ (List.mem_append_right _ (List.mem_append_right _ (List.mem_append_left _ (List.mem_of_getElem? (i := 66) (l := tables_1_3) rfl))))) rfl
set_option maxHeartbeats 4000000 in
set_option maxRecDepth 100000 in
theorem mC_380 : (Cond.static ({ cls := "KindRounds$Tape", name := "isSmallLetter", desc := "(I)Z" } : Jvm.MethodName)) ∈ lw_good := good_in (List.mem_append_right _ (List.mem_append_right _ (List.mem_append_right _ (List.mem_append_left _ (List.mem_of_getElem? (i := 65) (l := tables_1_3) rfl))))) rfl
set_option maxHeartbeats 4000000 in
set_option maxRecDepth 100000 in
theorem mC_381 : (Cond.code ({ cls := "KindRounds$Tape", name := "isNameByte", desc := "(I)Z" } : Jvm.MethodName) prog_11_method_15_code (1 : Nat) (Option.some Jvm.ClassFile.FieldType.boolean)) ∈ lw_good := good_in (List.mem_append_right _ (List.mem_append_right _ (List.mem_append_right _ (List.mem_append_left _ (List.mem_of_getElem? (i := 73) (l := tables_1_3) rfl))))) rfl
set_option maxHeartbeats 4000000 in
set_option maxRecDepth 100000 in
theorem mC_382 : (Cond.static ({ cls := "KindRounds$Tape", name := "isNameByte", desc := "(I)Z" } : Jvm.MethodName)) ∈ lw_good := good_in (List.mem_append_right _ (List.mem_append_right _ (List.mem_append_right _ (List.mem_append_left _ (List.mem_of_getElem? (i := 72) (l := tables_1_3) rfl))))) rfl
set_option maxHeartbeats 4000000 in
set_option maxRecDepth 100000 in
theorem mC_383 : (Cond.code ({ cls := "KindRounds$Line", name := "clear", desc := "()V" } : Jvm.MethodName) prog_5_method_2_code (1 : Nat) (Option.none : Option Jvm.ClassFile.FieldType)) ∈ lw_good := good_in (List.mem_append_right _ (List.mem_append_right _ (List.mem_append_right _ (List.mem_append_right _ (List.mem_append_right _ (List.mem_append_left _ (List.mem_of_getElem? (i := 27) (l := tables_1_5) rfl))))))) rfl
set_option maxHeartbeats 4000000 in
set_option maxRecDepth 100000 in
theorem mC_384 : (Cond.initialized "KindRounds$Line") ∈ lw_good := good_in (List.mem_append_right _ (List.mem_append_left _ (List.mem_of_getElem? (i := 4) (l := tables_1_1) rfl))) rfl
set_option maxHeartbeats 4000000 in
set_option maxRecDepth 100000 in
theorem mC_385 : (Cond.instanceMethod ({ cls := "KindRounds$Line", name := "clear", desc := "()V" } : Jvm.MethodName)) ∈ lw_good := good_in (List.mem_append_right _ (List.mem_append_right _ (List.mem_append_right _ (List.mem_append_right _ (List.mem_append_right _ (List.mem_append_left _ (List.mem_of_getElem? (i := 26) (l := tables_1_5) rfl))))))) rfl
set_option maxHeartbeats 4000000 in
set_option maxRecDepth 100000 in
theorem mC_386 : Cond.selects "KindRounds$Line" ⟨"KindRounds$Line", "clear", "()V"⟩ ⟨"KindRounds$Line", "clear", "()V"⟩ ∈ lw_good := good_in (List.mem_append_left _ (List.mem_of_getElem? (i := 86) (l := k2_sels lw_privs) (by decide +kernel))) rfl
set_option maxHeartbeats 4000000 in
set_option maxRecDepth 100000 in
theorem mC_387 : (Cond.code ({ cls := "KindRounds$Line", name := "put", desc := "(I)V" } : Jvm.MethodName) prog_5_method_3_code (2 : Nat) (Option.none : Option Jvm.ClassFile.FieldType)) ∈ lw_good := good_in (List.mem_append_right _ (List.mem_append_right _ (List.mem_append_right _ (List.mem_append_right _ (List.mem_append_right _ (List.mem_append_left _ (List.mem_of_getElem? (i := 35) (l := tables_1_5) rfl))))))) rfl
set_option maxHeartbeats 4000000 in
set_option maxRecDepth 100000 in
theorem mC_388 : (Cond.instanceMethod ({ cls := "KindRounds$Line", name := "put", desc := "(I)V" } : Jvm.MethodName)) ∈ lw_good := good_in (List.mem_append_right _ (List.mem_append_right _ (List.mem_append_right _ (List.mem_append_right _ (List.mem_append_right _ (List.mem_append_left _ (List.mem_of_getElem? (i := 34) (l := tables_1_5) rfl))))))) rfl
set_option maxHeartbeats 4000000 in
set_option maxRecDepth 100000 in
theorem mC_389 : Cond.selects "KindRounds$Line" ⟨"KindRounds$Line", "put", "(I)V"⟩ ⟨"KindRounds$Line", "put", "(I)V"⟩ ∈ lw_good := good_in (List.mem_append_left _ (List.mem_of_getElem? (i := 88) (l := k2_sels lw_privs) (by decide +kernel))) rfl
set_option maxHeartbeats 4000000 in
set_option maxRecDepth 100000 in
theorem mC_390 : (Cond.code ({ cls := "KindRounds$Line", name := "putArrow", desc := "()V" } : Jvm.MethodName) prog_5_method_4_code (1 : Nat) (Option.none : Option Jvm.ClassFile.FieldType)) ∈ lw_good := good_in (List.mem_append_right _ (List.mem_append_right _ (List.mem_append_right _ (List.mem_append_right _ (List.mem_append_right _ (List.mem_append_left _ (List.mem_of_getElem? (i := 39) (l := tables_1_5) rfl))))))) rfl
set_option maxHeartbeats 4000000 in
set_option maxRecDepth 100000 in
theorem mC_391 : (Cond.instanceMethod ({ cls := "KindRounds$Line", name := "putArrow", desc := "()V" } : Jvm.MethodName)) ∈ lw_good := good_in (List.mem_append_right _ (List.mem_append_right _ (List.mem_append_right _ (List.mem_append_right _ (List.mem_append_right _ (List.mem_append_left _ (List.mem_of_getElem? (i := 38) (l := tables_1_5) rfl))))))) rfl
set_option maxHeartbeats 4000000 in
set_option maxRecDepth 100000 in
theorem mC_392 : Cond.selects "KindRounds$Line" ⟨"KindRounds$Line", "putArrow", "()V"⟩ ⟨"KindRounds$Line", "putArrow", "()V"⟩ ∈ lw_good := good_in (List.mem_append_left _ (List.mem_of_getElem? (i := 89) (l := k2_sels lw_privs) (by decide +kernel))) rfl
set_option maxHeartbeats 4000000 in
set_option maxRecDepth 100000 in
theorem mC_393 : (Cond.code ({ cls := "KindRounds$Line", name := "putName", desc := "(J)V" } : Jvm.MethodName) prog_5_method_5_code (5 : Nat) (Option.none : Option Jvm.ClassFile.FieldType)) ∈ lw_good := good_in (List.mem_append_right _ (List.mem_append_right _ (List.mem_append_right _ (List.mem_append_right _ (List.mem_append_right _ (List.mem_append_left _ (List.mem_of_getElem? (i := 182) (l := tables_1_5) rfl))))))) rfl
set_option maxHeartbeats 4000000 in
set_option maxRecDepth 100000 in
theorem mC_394 : (Cond.instanceMethod ({ cls := "KindRounds$Line", name := "putName", desc := "(J)V" } : Jvm.MethodName)) ∈ lw_good := good_in (List.mem_append_right _ (List.mem_append_right _ (List.mem_append_right _ (List.mem_append_right _ (List.mem_append_right _ (List.mem_append_left _ (List.mem_of_getElem? (i := 181) (l := tables_1_5) rfl))))))) rfl
set_option maxHeartbeats 4000000 in
set_option maxRecDepth 100000 in
theorem mC_395 : Cond.selects "KindRounds$Line" ⟨"KindRounds$Line", "putName", "(J)V"⟩ ⟨"KindRounds$Line", "putName", "(J)V"⟩ ∈ lw_good := good_in (List.mem_append_left _ (List.mem_of_getElem? (i := 111) (l := k2_sels lw_privs) (by decide +kernel))) rfl
set_option maxHeartbeats 4000000 in
set_option maxRecDepth 100000 in
theorem mC_396 : (Cond.code ({ cls := "KindRounds$Line", name := "copy", desc := "(LKindRounds$Line;)V" } : Jvm.MethodName) prog_5_method_6_code (2 : Nat) (Option.none : Option Jvm.ClassFile.FieldType)) ∈ lw_good := good_in (List.mem_append_right _ (List.mem_append_right _ (List.mem_append_right _ (List.mem_append_right _ (List.mem_append_right _ (List.mem_append_left _ (List.mem_of_getElem? (i := 64) (l := tables_1_5) rfl))))))) rfl
set_option maxHeartbeats 4000000 in
set_option maxRecDepth 100000 in
theorem mC_397 : (Cond.instanceMethod ({ cls := "KindRounds$Line", name := "copy", desc := "(LKindRounds$Line;)V" } : Jvm.MethodName)) ∈ lw_good := good_in (List.mem_append_right _ (List.mem_append_right _ (List.mem_append_right _ (List.mem_append_right _ (List.mem_append_right _ (List.mem_append_left _ (List.mem_of_getElem? (i := 63) (l := tables_1_5) rfl))))))) rfl
set_option maxHeartbeats 4000000 in
set_option maxRecDepth 100000 in
theorem mC_398 : Cond.selects "KindRounds$Line" ⟨"KindRounds$Line", "copy", "(LKindRounds$Line;)V"⟩ ⟨"KindRounds$Line", "copy", "(LKindRounds$Line;)V"⟩ ∈ lw_good := good_in (List.mem_append_left _ (List.mem_of_getElem? (i := 93) (l := k2_sels lw_privs) (by decide +kernel))) rfl
set_option maxHeartbeats 4000000 in
set_option maxRecDepth 100000 in
theorem mC_399 : (Cond.code ({ cls := "KindRounds$Fault", name := "clear", desc := "()V" } : Jvm.MethodName) prog_3_method_2_code (1 : Nat) (Option.none : Option Jvm.ClassFile.FieldType)) ∈ lw_good := good_in (List.mem_append_right _ (List.mem_append_right _ (List.mem_append_right _ (List.mem_append_left _ (List.mem_of_getElem? (i := 40) (l := tables_1_3) rfl))))) rfl
set_option maxHeartbeats 4000000 in
set_option maxRecDepth 100000 in
theorem mC_400 : (Cond.initialized "KindRounds$Fault") ∈ lw_good := good_in (List.mem_append_right _ (List.mem_append_left _ (List.mem_of_getElem? (i := 3) (l := tables_1_1) rfl))) rfl
set_option maxHeartbeats 4000000 in
set_option maxRecDepth 100000 in
theorem mC_401 : (Cond.instanceMethod ({ cls := "KindRounds$Fault", name := "clear", desc := "()V" } : Jvm.MethodName)) ∈ lw_good := good_in (List.mem_append_right _ (List.mem_append_right _ (List.mem_append_right _ (List.mem_append_left _ (List.mem_of_getElem? (i := 39) (l := tables_1_3) rfl))))) rfl
set_option maxHeartbeats 4000000 in
set_option maxRecDepth 100000 in
theorem mC_402 : Cond.selects "KindRounds$Fault" ⟨"KindRounds$Fault", "clear", "()V"⟩ ⟨"KindRounds$Fault", "clear", "()V"⟩ ∈ lw_good := good_in (List.mem_append_left _ (List.mem_of_getElem? (i := 2) (l := k2_sels lw_privs) (by decide +kernel))) rfl
set_option maxHeartbeats 4000000 in
set_option maxRecDepth 100000 in
theorem mC_403 : (Cond.code ({ cls := "KindRounds$Fault", name := "isThere", desc := "()Z" } : Jvm.MethodName) prog_3_method_3_code (1 : Nat) (Option.some Jvm.ClassFile.FieldType.boolean)) ∈ lw_good := good_in (List.mem_append_right _ (List.mem_append_right _ (List.mem_append_right _ (List.mem_append_right _ (List.mem_append_left _ (List.mem_of_getElem? (i := 73) (l := tables_1_4) rfl)))))) rfl
set_option maxHeartbeats 4000000 in
set_option maxRecDepth 100000 in
theorem mC_404 : (Cond.instanceMethod ({ cls := "KindRounds$Fault", name := "isThere", desc := "()Z" } : Jvm.MethodName)) ∈ lw_good := good_in (List.mem_append_right _ (List.mem_append_right _ (List.mem_append_right _ (List.mem_append_right _ (List.mem_append_left _ (List.mem_of_getElem? (i := 72) (l := tables_1_4) rfl)))))) rfl
set_option maxHeartbeats 4000000 in
set_option maxRecDepth 100000 in
theorem mC_405 : Cond.selects "KindRounds$Fault" ⟨"KindRounds$Fault", "isThere", "()Z"⟩ ⟨"KindRounds$Fault", "isThere", "()Z"⟩ ∈ lw_good := good_in (List.mem_append_left _ (List.mem_of_getElem? (i := 43) (l := k2_sels lw_privs) (by decide +kernel))) rfl
set_option maxHeartbeats 4000000 in
set_option maxRecDepth 100000 in
theorem mC_406 : (Cond.code ({ cls := "KindRounds$Fault", name := "raise", desc := "(II)V" } : Jvm.MethodName) prog_3_method_4_code (3 : Nat) (Option.none : Option Jvm.ClassFile.FieldType)) ∈ lw_good := good_in (List.mem_append_right _ (List.mem_append_right _ (List.mem_append_right _ (List.mem_append_left _ (List.mem_of_getElem? (i := 203) (l := tables_1_3) rfl))))) rfl
set_option maxHeartbeats 4000000 in
set_option maxRecDepth 100000 in
theorem mC_407 : (Cond.instanceMethod ({ cls := "KindRounds$Fault", name := "raise", desc := "(II)V" } : Jvm.MethodName)) ∈ lw_good := good_in (List.mem_append_right _ (List.mem_append_right _ (List.mem_append_right _ (List.mem_append_left _ (List.mem_of_getElem? (i := 202) (l := tables_1_3) rfl))))) rfl
set_option maxHeartbeats 4000000 in
set_option maxRecDepth 100000 in
theorem mC_408 : Cond.selects "KindRounds$Fault" ⟨"KindRounds$Fault", "raise", "(II)V"⟩ ⟨"KindRounds$Fault", "raise", "(II)V"⟩ ∈ lw_good := good_in (List.mem_append_left _ (List.mem_of_getElem? (i := 17) (l := k2_sels lw_privs) (by decide +kernel))) rfl
set_option maxHeartbeats 4000000 in
set_option maxRecDepth 100000 in
theorem mC_409 : (Cond.code ({ cls := "KindRounds$Kinds", name := "clear", desc := "()V" } : Jvm.MethodName) prog_4_method_2_code (1 : Nat) (Option.none : Option Jvm.ClassFile.FieldType)) ∈ lw_good := good_in (List.mem_append_right _ (List.mem_append_right _ (List.mem_append_right _ (List.mem_append_left _ (List.mem_of_getElem? (i := 48) (l := tables_1_3) rfl))))) rfl
set_option maxHeartbeats 4000000 in
set_option maxRecDepth 100000 in
theorem mC_410 : (Cond.initialized "KindRounds$Kinds") ∈ lw_good := good_in (List.mem_append_right _ (List.mem_append_left _ (List.mem_of_getElem? (i := 5) (l := tables_1_1) rfl))) rfl
set_option maxHeartbeats 4000000 in
set_option maxRecDepth 100000 in
theorem mC_411 : (Cond.instanceMethod ({ cls := "KindRounds$Kinds", name := "clear", desc := "()V" } : Jvm.MethodName)) ∈ lw_good := good_in (List.mem_append_right _ (List.mem_append_right _ (List.mem_append_right _ (List.mem_append_left _ (List.mem_of_getElem? (i := 47) (l := tables_1_3) rfl))))) rfl
set_option maxHeartbeats 4000000 in
set_option maxRecDepth 100000 in
theorem mC_412 : Cond.selects "KindRounds$Kinds" ⟨"KindRounds$Kinds", "clear", "()V"⟩ ⟨"KindRounds$Kinds", "clear", "()V"⟩ ∈ lw_good := good_in (List.mem_append_left _ (List.mem_of_getElem? (i := 4) (l := k2_sels lw_privs) (by decide +kernel))) rfl
set_option maxHeartbeats 4000000 in
set_option maxRecDepth 100000 in
theorem mC_413 : (Cond.code ({ cls := "KindRounds$Kinds", name := "makeOpen", desc := "()I" } : Jvm.MethodName) prog_4_method_3_code (1 : Nat) (Option.some Jvm.ClassFile.FieldType.int)) ∈ lw_good := good_in (List.mem_append_right _ (List.mem_append_right _ (List.mem_append_right _ (List.mem_append_right _ (List.mem_append_left _ (List.mem_of_getElem? (i := 152) (l := tables_1_4) rfl)))))) rfl
set_option maxHeartbeats 4000000 in
set_option maxRecDepth 100000 in
theorem mC_414 : (Cond.instanceMethod ({ cls := "KindRounds$Kinds", name := "makeOpen", desc := "()I" } : Jvm.MethodName)) ∈ lw_good := good_in (List.mem_append_right _ (List.mem_append_right _ (List.mem_append_right _ (List.mem_append_right _ (List.mem_append_left _ (List.mem_of_getElem? (i := 151) (l := tables_1_4) rfl)))))) rfl
set_option maxHeartbeats 4000000 in
set_option maxRecDepth 100000 in
theorem mC_415 : Cond.selects "KindRounds$Kinds" ⟨"KindRounds$Kinds", "makeOpen", "()I"⟩ ⟨"KindRounds$Kinds", "makeOpen", "()I"⟩ ∈ lw_good := good_in (List.mem_append_left _ (List.mem_of_getElem? (i := 61) (l := k2_sels lw_privs) (by decide +kernel))) rfl
set_option maxHeartbeats 4000000 in
set_option maxRecDepth 100000 in
theorem mC_416 : (Cond.code ({ cls := "KindRounds$Kinds", name := "makeArrow", desc := "(II)I" } : Jvm.MethodName) prog_4_method_4_code (3 : Nat) (Option.some Jvm.ClassFile.FieldType.int)) ∈ lw_good := good_in (List.mem_append_right _ (List.mem_append_right _ (List.mem_append_right _ (List.mem_append_right _ (List.mem_append_left _ (List.mem_of_getElem? (i := 61) (l := tables_1_4) rfl)))))) rfl
set_option maxHeartbeats 4000000 in
set_option maxRecDepth 100000 in
theorem mC_417 : (Cond.instanceMethod ({ cls := "KindRounds$Kinds", name := "makeArrow", desc := "(II)I" } : Jvm.MethodName)) ∈ lw_good := good_in (List.mem_append_right _ (List.mem_append_right _ (List.mem_append_right _ (List.mem_append_right _ (List.mem_append_left _ (List.mem_of_getElem? (i := 60) (l := tables_1_4) rfl)))))) rfl
set_option maxHeartbeats 4000000 in
set_option maxRecDepth 100000 in
theorem mC_418 : Cond.selects "KindRounds$Kinds" ⟨"KindRounds$Kinds", "makeArrow", "(II)I"⟩ ⟨"KindRounds$Kinds", "makeArrow", "(II)I"⟩ ∈ lw_good := good_in (List.mem_append_left _ (List.mem_of_getElem? (i := 40) (l := k2_sels lw_privs) (by decide +kernel))) rfl
set_option maxHeartbeats 4000000 in
set_option maxRecDepth 100000 in
theorem mC_419 : (Cond.code ({ cls := "KindRounds$Kinds", name := "find", desc := "(I)I" } : Jvm.MethodName) prog_4_method_5_code (4 : Nat) (Option.some Jvm.ClassFile.FieldType.int)) ∈ lw_good := good_in (List.mem_append_right _ (List.mem_append_right _ (List.mem_append_right _ (List.mem_append_right _ (List.mem_append_left _ (List.mem_of_getElem? (i := 222) (l := tables_1_4) rfl)))))) rfl
set_option maxHeartbeats 4000000 in
set_option maxRecDepth 100000 in
theorem mC_420 : (Cond.instanceMethod ({ cls := "KindRounds$Kinds", name := "find", desc := "(I)I" } : Jvm.MethodName)) ∈ lw_good := good_in (List.mem_append_right _ (List.mem_append_right _ (List.mem_append_right _ (List.mem_append_right _ (List.mem_append_left _ (List.mem_of_getElem? (i := 221) (l := tables_1_4) rfl)))))) rfl
set_option maxHeartbeats 4000000 in
set_option maxRecDepth 100000 in
theorem mC_421 : Cond.selects "KindRounds$Kinds" ⟨"KindRounds$Kinds", "find", "(I)I"⟩ ⟨"KindRounds$Kinds", "find", "(I)I"⟩ ∈ lw_good := good_in (List.mem_append_left _ (List.mem_of_getElem? (i := 77) (l := k2_sels lw_privs) (by decide +kernel))) rfl
set_option maxHeartbeats 4000000 in
set_option maxRecDepth 100000 in
theorem mC_422 : (Cond.code ({ cls := "KindRounds$Kinds", name := "isOpen", desc := "(I)Z" } : Jvm.MethodName) prog_4_method_6_code (2 : Nat) (Option.some Jvm.ClassFile.FieldType.boolean)) ∈ lw_good := good_in (List.mem_append_right _ (List.mem_append_right _ (List.mem_append_right _ (List.mem_append_right _ (List.mem_append_left _ (List.mem_of_getElem? (i := 232) (l := tables_1_4) rfl)))))) rfl
set_option maxHeartbeats 4000000 in
set_option maxRecDepth 100000 in
theorem mC_423 : (Cond.instanceMethod ({ cls := "KindRounds$Kinds", name := "isOpen", desc := "(I)Z" } : Jvm.MethodName)) ∈ lw_good := good_in (List.mem_append_right _ (List.mem_append_right _ (List.mem_append_right _ (List.mem_append_right _ (List.mem_append_left _ (List.mem_of_getElem? (i := 231) (l := tables_1_4) rfl)))))) rfl
set_option maxHeartbeats 4000000 in
set_option maxRecDepth 100000 in
theorem mC_424 : Cond.selects "KindRounds$Kinds" ⟨"KindRounds$Kinds", "isOpen", "(I)Z"⟩ ⟨"KindRounds$Kinds", "isOpen", "(I)Z"⟩ ∈ lw_good := good_in (List.mem_append_left _ (List.mem_of_getElem? (i := 79) (l := k2_sels lw_privs) (by decide +kernel))) rfl
set_option maxHeartbeats 4000000 in
set_option maxRecDepth 100000 in
theorem mC_425 : (Cond.code ({ cls := "KindRounds$Kinds", name := "isArrow", desc := "(I)Z" } : Jvm.MethodName) prog_4_method_7_code (2 : Nat) (Option.some Jvm.ClassFile.FieldType.boolean)) ∈ lw_good := good_in (List.mem_append_right _ (List.mem_append_right _ (List.mem_append_right _ (List.mem_append_right _ (List.mem_append_right _ (List.mem_append_left _ (List.mem_of_getElem? (i := 0) (l := tables_1_5) rfl))))))) rfl
set_option maxHeartbeats 4000000 in
set_option maxRecDepth 100000 in
theorem mC_426 : (Cond.instanceMethod ({ cls := "KindRounds$Kinds", name := "isArrow", desc := "(I)Z" } : Jvm.MethodName)) ∈ lw_good := good_in (List.mem_append_right _ (List.mem_append_right _ (List.mem_append_right _ (List.mem_append_right _ (List.mem_append_left _ (List.mem_of_getElem? (i := 239) (l := tables_1_4) rfl)))))) rfl
set_option maxHeartbeats 4000000 in
set_option maxRecDepth 100000 in
theorem mC_427 : Cond.selects "KindRounds$Kinds" ⟨"KindRounds$Kinds", "isArrow", "(I)Z"⟩ ⟨"KindRounds$Kinds", "isArrow", "(I)Z"⟩ ∈ lw_good := good_in (List.mem_append_left _ (List.mem_of_getElem? (i := 81) (l := k2_sels lw_privs) (by decide +kernel))) rfl
set_option maxHeartbeats 4000000 in
set_option maxRecDepth 100000 in
theorem mC_428 : (Cond.code ({ cls := "KindRounds$Kinds", name := "push", desc := "(I)V" } : Jvm.MethodName) prog_4_method_8_code (2 : Nat) (Option.none : Option Jvm.ClassFile.FieldType)) ∈ lw_good := good_in (List.mem_append_right _ (List.mem_append_right _ (List.mem_append_right _ (List.mem_append_right _ (List.mem_append_left _ (List.mem_of_getElem? (i := 213) (l := tables_1_4) rfl)))))) rfl
set_option maxHeartbeats 4000000 in
set_option maxRecDepth 100000 in
theorem mC_429 : (Cond.instanceMethod ({ cls := "KindRounds$Kinds", name := "push", desc := "(I)V" } : Jvm.MethodName)) ∈ lw_good := good_in (List.mem_append_right _ (List.mem_append_right _ (List.mem_append_right _ (List.mem_append_right _ (List.mem_append_left _ (List.mem_of_getElem? (i := 212) (l := tables_1_4) rfl)))))) rfl
set_option maxHeartbeats 4000000 in
set_option maxRecDepth 100000 in
theorem mC_430 : Cond.selects "KindRounds$Kinds" ⟨"KindRounds$Kinds", "push", "(I)V"⟩ ⟨"KindRounds$Kinds", "push", "(I)V"⟩ ∈ lw_good := good_in (List.mem_append_left _ (List.mem_of_getElem? (i := 75) (l := k2_sels lw_privs) (by decide +kernel))) rfl
set_option maxHeartbeats 4000000 in
set_option maxRecDepth 100000 in
theorem mC_431 : (Cond.code ({ cls := "KindRounds$Kinds", name := "pop", desc := "()I" } : Jvm.MethodName) prog_4_method_9_code (1 : Nat) (Option.some Jvm.ClassFile.FieldType.int)) ∈ lw_good := good_in (List.mem_append_right _ (List.mem_append_right _ (List.mem_append_right _ (List.mem_append_right _ (List.mem_append_left _ (List.mem_of_getElem? (i := 218) (l := tables_1_4) rfl)))))) rfl
set_option maxHeartbeats 4000000 in
set_option maxRecDepth 100000 in
theorem mC_432 : (Cond.instanceMethod ({ cls := "KindRounds$Kinds", name := "pop", desc := "()I" } : Jvm.MethodName)) ∈ lw_good := good_in (List.mem_append_right _ (List.mem_append_right _ (List.mem_append_right _ (List.mem_append_right _ (List.mem_append_left _ (List.mem_of_getElem? (i := 217) (l := tables_1_4) rfl)))))) rfl
set_option maxHeartbeats 4000000 in
set_option maxRecDepth 100000 in
theorem mC_433 : Cond.selects "KindRounds$Kinds" ⟨"KindRounds$Kinds", "pop", "()I"⟩ ⟨"KindRounds$Kinds", "pop", "()I"⟩ ∈ lw_good := good_in (List.mem_append_left _ (List.mem_of_getElem? (i := 76) (l := k2_sels lw_privs) (by decide +kernel))) rfl
set_option maxHeartbeats 4000000 in
set_option maxRecDepth 100000 in
theorem mC_434 : (Cond.code ({ cls := "KindRounds$Kinds", name := "unify", desc := "(II)Z" } : Jvm.MethodName) prog_4_method_10_code (7 : Nat) (Option.some Jvm.ClassFile.FieldType.boolean)) ∈ lw_good := good_in (List.mem_append_right _ (List.mem_append_right _ (List.mem_append_right _ (List.mem_append_right _ (List.mem_append_left _ (List.mem_of_getElem? (i := 209) (l := tables_1_4) rfl)))))) rfl
set_option maxHeartbeats 4000000 in
set_option maxRecDepth 100000 in
theorem mC_435 : (Cond.instanceMethod ({ cls := "KindRounds$Kinds", name := "unify", desc := "(II)Z" } : Jvm.MethodName)) ∈ lw_good := good_in (List.mem_append_right _ (List.mem_append_right _ (List.mem_append_right _ (List.mem_append_right _ (List.mem_append_left _ (List.mem_of_getElem? (i := 208) (l := tables_1_4) rfl)))))) rfl
set_option maxHeartbeats 4000000 in
set_option maxRecDepth 100000 in
theorem mC_436 : Cond.selects "KindRounds$Kinds" ⟨"KindRounds$Kinds", "unify", "(II)Z"⟩ ⟨"KindRounds$Kinds", "unify", "(II)Z"⟩ ∈ lw_good := good_in (List.mem_append_left _ (List.mem_of_getElem? (i := 74) (l := k2_sels lw_privs) (by decide +kernel))) rfl
set_option maxHeartbeats 4000000 in
set_option maxRecDepth 100000 in
theorem mC_437 : (Cond.code ({ cls := "KindRounds$Kinds", name := "merge", desc := "(II)Z" } : Jvm.MethodName) prog_4_method_11_code (3 : Nat) (Option.some Jvm.ClassFile.FieldType.boolean)) ∈ lw_good := good_in (List.mem_append_right _ (List.mem_append_right _ (List.mem_append_right _ (List.mem_append_right _ (List.mem_append_left _ (List.mem_of_getElem? (i := 228) (l := tables_1_4) rfl)))))) rfl
set_option maxHeartbeats 4000000 in
set_option maxRecDepth 100000 in
theorem mC_438 : (Cond.instanceMethod ({ cls := "KindRounds$Kinds", name := "merge", desc := "(II)Z" } : Jvm.MethodName)) ∈ lw_good := good_in (List.mem_append_right _ (List.mem_append_right _ (List.mem_append_right _ (List.mem_append_right _ (List.mem_append_left _ (List.mem_of_getElem? (i := 227) (l := tables_1_4) rfl)))))) rfl
set_option maxHeartbeats 4000000 in
set_option maxRecDepth 100000 in
theorem mC_439 : Cond.selects "KindRounds$Kinds" ⟨"KindRounds$Kinds", "merge", "(II)Z"⟩ ⟨"KindRounds$Kinds", "merge", "(II)Z"⟩ ∈ lw_good := good_in (List.mem_append_left _ (List.mem_of_getElem? (i := 78) (l := k2_sels lw_privs) (by decide +kernel))) rfl
set_option maxHeartbeats 4000000 in
set_option maxRecDepth 100000 in
theorem mC_440 : (Cond.code ({ cls := "KindRounds$Kinds", name := "join", desc := "(II)V" } : Jvm.MethodName) prog_4_method_12_code (3 : Nat) (Option.none : Option Jvm.ClassFile.FieldType)) ∈ lw_good := good_in (List.mem_append_right _ (List.mem_append_right _ (List.mem_append_right _ (List.mem_append_right _ (List.mem_append_left _ (List.mem_of_getElem? (i := 236) (l := tables_1_4) rfl)))))) rfl
set_option maxHeartbeats 4000000 in
set_option maxRecDepth 100000 in
theorem mC_441 : (Cond.instanceMethod ({ cls := "KindRounds$Kinds", name := "join", desc := "(II)V" } : Jvm.MethodName)) ∈ lw_good := good_in (List.mem_append_right _ (List.mem_append_right _ (List.mem_append_right _ (List.mem_append_right _ (List.mem_append_left _ (List.mem_of_getElem? (i := 235) (l := tables_1_4) rfl)))))) rfl
set_option maxHeartbeats 4000000 in
set_option maxRecDepth 100000 in
theorem mC_442 : Cond.selects "KindRounds$Kinds" ⟨"KindRounds$Kinds", "join", "(II)V"⟩ ⟨"KindRounds$Kinds", "join", "(II)V"⟩ ∈ lw_good := good_in (List.mem_append_left _ (List.mem_of_getElem? (i := 80) (l := k2_sels lw_privs) (by decide +kernel))) rfl
set_option maxHeartbeats 4000000 in
set_option maxRecDepth 100000 in
theorem mC_443 : (Cond.code ({ cls := "KindRounds$Kinds", name := "clearMarks", desc := "()V" } : Jvm.MethodName) prog_4_method_13_code (1 : Nat) (Option.none : Option Jvm.ClassFile.FieldType)) ∈ lw_good := good_in (List.mem_append_right _ (List.mem_append_right _ (List.mem_append_right _ (List.mem_append_right _ (List.mem_append_right _ (List.mem_append_left _ (List.mem_of_getElem? (i := 8) (l := tables_1_5) rfl))))))) rfl
set_option maxHeartbeats 4000000 in
set_option maxRecDepth 100000 in
theorem mC_444 : (Cond.instanceMethod ({ cls := "KindRounds$Kinds", name := "clearMarks", desc := "()V" } : Jvm.MethodName)) ∈ lw_good := good_in (List.mem_append_right _ (List.mem_append_right _ (List.mem_append_right _ (List.mem_append_right _ (List.mem_append_right _ (List.mem_append_left _ (List.mem_of_getElem? (i := 7) (l := tables_1_5) rfl))))))) rfl
set_option maxHeartbeats 4000000 in
set_option maxRecDepth 100000 in
theorem mC_445 : Cond.selects "KindRounds$Kinds" ⟨"KindRounds$Kinds", "clearMarks", "()V"⟩ ⟨"KindRounds$Kinds", "clearMarks", "()V"⟩ ∈ lw_good := good_in (List.mem_append_left _ (List.mem_of_getElem? (i := 83) (l := k2_sels lw_privs) (by decide +kernel))) rfl
set_option maxHeartbeats 4000000 in
set_option maxRecDepth 100000 in
theorem mC_446 : (Cond.code ({ cls := "KindRounds$Kinds", name := "hasRing", desc := "(I)Z" } : Jvm.MethodName) prog_4_method_14_code (6 : Nat) (Option.some Jvm.ClassFile.FieldType.boolean)) ∈ lw_good := good_in (List.mem_append_right _ (List.mem_append_right _ (List.mem_append_right _ (List.mem_append_right _ (List.mem_append_right _ (List.mem_append_left _ (List.mem_of_getElem? (i := 4) (l := tables_1_5) rfl))))))) rfl
set_option maxHeartbeats 4000000 in
set_option maxRecDepth 100000 in
theorem mC_447 : (Cond.instanceMethod ({ cls := "KindRounds$Kinds", name := "hasRing", desc := "(I)Z" } : Jvm.MethodName)) ∈ lw_good := good_in (List.mem_append_right _ (List.mem_append_right _ (List.mem_append_right _ (List.mem_append_right _ (List.mem_append_right _ (List.mem_append_left _ (List.mem_of_getElem? (i := 3) (l := tables_1_5) rfl))))))) rfl
set_option maxHeartbeats 4000000 in
set_option maxRecDepth 100000 in
theorem mC_448 : Cond.selects "KindRounds$Kinds" ⟨"KindRounds$Kinds", "hasRing", "(I)Z"⟩ ⟨"KindRounds$Kinds", "hasRing", "(I)Z"⟩ ∈ lw_good := good_in (List.mem_append_left _ (List.mem_of_getElem? (i := 82) (l := k2_sels lw_privs) (by decide +kernel))) rfl
set_option maxHeartbeats 4000000 in
set_option maxRecDepth 100000 in
theorem mC_449 : (Cond.code ({ cls := "KindRounds$Kinds", name := "letter", desc := "(I)I" } : Jvm.MethodName) prog_4_method_15_code (5 : Nat) (Option.some Jvm.ClassFile.FieldType.int)) ∈ lw_good := good_in (List.mem_append_right _ (List.mem_append_right _ (List.mem_append_right _ (List.mem_append_right _ (List.mem_append_right _ (List.mem_append_left _ (List.mem_of_getElem? (i := 23) (l := tables_1_5) rfl))))))) rfl
set_option maxHeartbeats 4000000 in
set_option maxRecDepth 100000 in
theorem mC_450 : (Cond.instanceMethod ({ cls := "KindRounds$Kinds", name := "letter", desc := "(I)I" } : Jvm.MethodName)) ∈ lw_good := good_in (List.mem_append_right _ (List.mem_append_right _ (List.mem_append_right _ (List.mem_append_right _ (List.mem_append_right _ (List.mem_append_left _ (List.mem_of_getElem? (i := 22) (l := tables_1_5) rfl))))))) rfl
set_option maxHeartbeats 4000000 in
set_option maxRecDepth 100000 in
theorem mC_451 : Cond.selects "KindRounds$Kinds" ⟨"KindRounds$Kinds", "letter", "(I)I"⟩ ⟨"KindRounds$Kinds", "letter", "(I)I"⟩ ∈ lw_good := good_in (List.mem_append_left _ (List.mem_of_getElem? (i := 85) (l := k2_sels lw_privs) (by decide +kernel))) rfl
set_option maxHeartbeats 4000000 in
set_option maxRecDepth 100000 in
theorem mC_452 : (Cond.code ({ cls := "KindRounds$Kinds", name := "hasOpen", desc := "(I)Z" } : Jvm.MethodName) prog_4_method_16_code (2 : Nat) (Option.some Jvm.ClassFile.FieldType.boolean)) ∈ lw_good := good_in (List.mem_append_right _ (List.mem_append_right _ (List.mem_append_right _ (List.mem_append_right _ (List.mem_append_right _ (List.mem_append_left _ (List.mem_of_getElem? (i := 48) (l := tables_1_5) rfl))))))) rfl
set_option maxHeartbeats 4000000 in
set_option maxRecDepth 100000 in
theorem mC_453 : (Cond.instanceMethod ({ cls := "KindRounds$Kinds", name := "hasOpen", desc := "(I)Z" } : Jvm.MethodName)) ∈ lw_good := good_in (List.mem_append_right _ (List.mem_append_right _ (List.mem_append_right _ (List.mem_append_right _ (List.mem_append_right _ (List.mem_append_left _ (List.mem_of_getElem? (i := 47) (l := tables_1_5) rfl))))))) rfl
set_option maxHeartbeats 4000000 in
set_option maxRecDepth 100000 in
theorem mC_454 : Cond.selects "KindRounds$Kinds" ⟨"KindRounds$Kinds", "hasOpen", "(I)Z"⟩ ⟨"KindRounds$Kinds", "hasOpen", "(I)Z"⟩ ∈ lw_good := good_in (List.mem_append_left _ (List.mem_of_getElem? (i := 91) (l := k2_sels lw_privs) (by decide +kernel))) rfl
set_option maxHeartbeats 4000000 in
set_option maxRecDepth 100000 in
theorem mC_455 : (Cond.code ({ cls := "KindRounds$Kinds", name := "showSides", desc := "(IILKindRounds$Fault;)V" } : Jvm.MethodName) prog_4_method_17_code (4 : Nat) (Option.none : Option Jvm.ClassFile.FieldType)) ∈ lw_good := good_in (List.mem_append_right _ (List.mem_append_right _ (List.mem_append_right _ (List.mem_append_right _ (List.mem_append_right _ (List.mem_append_left _ (List.mem_of_getElem? (i := 19) (l := tables_1_5) rfl))))))) rfl
set_option maxHeartbeats 4000000 in
set_option maxRecDepth 100000 in
theorem mC_456 : (Cond.instanceMethod ({ cls := "KindRounds$Kinds", name := "showSides", desc := "(IILKindRounds$Fault;)V" } : Jvm.MethodName)) ∈ lw_good := good_in (List.mem_append_right _ (List.mem_append_right _ (List.mem_append_right _ (List.mem_append_right _ (List.mem_append_right _ (List.mem_append_left _ (List.mem_of_getElem? (i := 18) (l := tables_1_5) rfl))))))) rfl
set_option maxHeartbeats 4000000 in
set_option maxRecDepth 100000 in
theorem mC_457 : Cond.selects "KindRounds$Kinds" ⟨"KindRounds$Kinds", "showSides", "(IILKindRounds$Fault;)V"⟩ ⟨"KindRounds$Kinds", "showSides", "(IILKindRounds$Fault;)V"⟩ ∈ lw_good := good_in (List.mem_append_left _ (List.mem_of_getElem? (i := 84) (l := k2_sels lw_privs) (by decide +kernel))) rfl
set_option maxHeartbeats 4000000 in
set_option maxRecDepth 100000 in
theorem mC_458 : (Cond.code ({ cls := "KindRounds$Kinds", name := "show", desc := "(ILKindRounds$Line;Z)V" } : Jvm.MethodName) prog_4_method_18_code (8 : Nat) (Option.none : Option Jvm.ClassFile.FieldType)) ∈ lw_good := good_in (List.mem_append_right _ (List.mem_append_right _ (List.mem_append_right _ (List.mem_append_right _ (List.mem_append_right _ (List.mem_append_left _ (List.mem_of_getElem? (i := 31) (l := tables_1_5) rfl))))))) rfl
set_option maxHeartbeats 4000000 in
set_option maxRecDepth 100000 in
theorem mC_459 : (Cond.instanceMethod ({ cls := "KindRounds$Kinds", name := "show", desc := "(ILKindRounds$Line;Z)V" } : Jvm.MethodName)) ∈ lw_good := good_in (List.mem_append_right _ (List.mem_append_right _ (List.mem_append_right _ (List.mem_append_right _ (List.mem_append_right _ (List.mem_append_left _ (List.mem_of_getElem? (i := 30) (l := tables_1_5) rfl))))))) rfl
set_option maxHeartbeats 4000000 in
set_option maxRecDepth 100000 in
theorem mC_460 : Cond.selects "KindRounds$Kinds" ⟨"KindRounds$Kinds", "show", "(ILKindRounds$Line;Z)V"⟩ ⟨"KindRounds$Kinds", "show", "(ILKindRounds$Line;Z)V"⟩ ∈ lw_good := good_in (List.mem_append_left _ (List.mem_of_getElem? (i := 87) (l := k2_sels lw_privs) (by decide +kernel))) rfl
set_option maxHeartbeats 4000000 in
set_option maxRecDepth 100000 in
theorem mC_461 : (Cond.code ({ cls := "KindRounds$Kinds", name := "closeGroup", desc := "()V" } : Jvm.MethodName) prog_4_method_19_code (2 : Nat) (Option.none : Option Jvm.ClassFile.FieldType)) ∈ lw_good := good_in (List.mem_append_right _ (List.mem_append_right _ (List.mem_append_right _ (List.mem_append_right _ (List.mem_append_right _ (List.mem_append_left _ (List.mem_of_getElem? (i := 52) (l := tables_1_5) rfl))))))) rfl
set_option maxHeartbeats 4000000 in
set_option maxRecDepth 100000 in
theorem mC_462 : (Cond.instanceMethod ({ cls := "KindRounds$Kinds", name := "closeGroup", desc := "()V" } : Jvm.MethodName)) ∈ lw_good := good_in (List.mem_append_right _ (List.mem_append_right _ (List.mem_append_right _ (List.mem_append_right _ (List.mem_append_right _ (List.mem_append_left _ (List.mem_of_getElem? (i := 51) (l := tables_1_5) rfl))))))) rfl
set_option maxHeartbeats 4000000 in
set_option maxRecDepth 100000 in
theorem mC_463 : Cond.selects "KindRounds$Kinds" ⟨"KindRounds$Kinds", "closeGroup", "()V"⟩ ⟨"KindRounds$Kinds", "closeGroup", "()V"⟩ ∈ lw_good := good_in (List.mem_append_left _ (List.mem_of_getElem? (i := 92) (l := k2_sels lw_privs) (by decide +kernel))) rfl
set_option maxHeartbeats 4000000 in
set_option maxRecDepth 100000 in
theorem mC_464 : (Cond.code ({ cls := "KindRounds$Kinds", name := "dropAsked", desc := "()V" } : Jvm.MethodName) prog_4_method_20_code (1 : Nat) (Option.none : Option Jvm.ClassFile.FieldType)) ∈ lw_good := good_in (List.mem_append_right _ (List.mem_append_right _ (List.mem_append_right _ (List.mem_append_right _ (List.mem_append_right _ (List.mem_append_left _ (List.mem_of_getElem? (i := 117) (l := tables_1_5) rfl))))))) rfl
set_option maxHeartbeats 4000000 in
set_option maxRecDepth 100000 in
theorem mC_465 : (Cond.instanceMethod ({ cls := "KindRounds$Kinds", name := "dropAsked", desc := "()V" } : Jvm.MethodName)) ∈ lw_good := good_in (List.mem_append_right _ (List.mem_append_right _ (List.mem_append_right _ (List.mem_append_right _ (List.mem_append_right _ (List.mem_append_left _ (List.mem_of_getElem? (i := 116) (l := tables_1_5) rfl))))))) rfl
set_option maxHeartbeats 4000000 in
set_option maxRecDepth 100000 in
theorem mC_466 : Cond.selects "KindRounds$Kinds" ⟨"KindRounds$Kinds", "dropAsked", "()V"⟩ ⟨"KindRounds$Kinds", "dropAsked", "()V"⟩ ∈ lw_good := good_in (List.mem_append_left _ (List.mem_of_getElem? (i := 98) (l := k2_sels lw_privs) (by decide +kernel))) rfl
set_option maxHeartbeats 4000000 in
set_option maxRecDepth 100000 in
theorem mC_467 : (Cond.code ({ cls := "KindRounds$Row", name := "clear", desc := "()V" } : Jvm.MethodName) prog_9_method_2_code (1 : Nat) (Option.none : Option Jvm.ClassFile.FieldType)) ∈ lw_good := good_in (List.mem_append_right _ (List.mem_append_right _ (List.mem_append_right _ (List.mem_append_left _ (List.mem_of_getElem? (i := 56) (l := tables_1_3) rfl))))) rfl
set_option maxHeartbeats 4000000 in
set_option maxRecDepth 100000 in
theorem mC_468 : (Cond.initialized "KindRounds$Row") ∈ lw_good := good_in (List.mem_append_right _ (List.mem_append_left _ (List.mem_of_getElem? (i := 7) (l := tables_1_1) rfl))) rfl
set_option maxHeartbeats 4000000 in
set_option maxRecDepth 100000 in
theorem mC_469 : (Cond.instanceMethod ({ cls := "KindRounds$Row", name := "clear", desc := "()V" } : Jvm.MethodName)) ∈ lw_good := good_in (List.mem_append_right _ (List.mem_append_right _ (List.mem_append_right _ (List.mem_append_left _ (List.mem_of_getElem? (i := 55) (l := tables_1_3) rfl))))) rfl
set_option maxHeartbeats 4000000 in
set_option maxRecDepth 100000 in
theorem mC_470 : Cond.selects "KindRounds$Row" ⟨"KindRounds$Row", "clear", "()V"⟩ ⟨"KindRounds$Row", "clear", "()V"⟩ ∈ lw_good := good_in (List.mem_append_left _ (List.mem_of_getElem? (i := 6) (l := k2_sels lw_privs) (by decide +kernel))) rfl
set_option maxHeartbeats 4000000 in
set_option maxRecDepth 100000 in
theorem mC_471 : (Cond.code ({ cls := "KindRounds$Row", name := "isFull", desc := "()Z" } : Jvm.MethodName) prog_9_method_3_code (1 : Nat) (Option.some Jvm.ClassFile.FieldType.boolean)) ∈ lw_good := good_in (List.mem_append_right _ (List.mem_append_right _ (List.mem_append_right _ (List.mem_append_right _ (List.mem_append_left _ (List.mem_of_getElem? (i := 33) (l := tables_1_4) rfl)))))) rfl
set_option maxHeartbeats 4000000 in
set_option maxRecDepth 100000 in
theorem mC_472 : (Cond.instanceMethod ({ cls := "KindRounds$Row", name := "isFull", desc := "()Z" } : Jvm.MethodName)) ∈ lw_good := good_in (List.mem_append_right _ (List.mem_append_right _ (List.mem_append_right _ (List.mem_append_right _ (List.mem_append_left _ (List.mem_of_getElem? (i := 32) (l := tables_1_4) rfl)))))) rfl
set_option maxHeartbeats 4000000 in
set_option maxRecDepth 100000 in
theorem mC_473 : Cond.selects "KindRounds$Row" ⟨"KindRounds$Row", "isFull", "()Z"⟩ ⟨"KindRounds$Row", "isFull", "()Z"⟩ ∈ lw_good := good_in (List.mem_append_left _ (List.mem_of_getElem? (i := 34) (l := k2_sels lw_privs) (by decide +kernel))) rfl
set_option maxHeartbeats 4000000 in
set_option maxRecDepth 100000 in
theorem mC_474 : (Cond.code ({ cls := "KindRounds$Row", name := "beginTerm", desc := "(I)Z" } : Jvm.MethodName) prog_9_method_4_code (2 : Nat) (Option.some Jvm.ClassFile.FieldType.boolean)) ∈ lw_good := good_in (List.mem_append_right _ (List.mem_append_right _ (List.mem_append_right _ (List.mem_append_right _ (List.mem_append_left _ (List.mem_of_getElem? (i := 9) (l := tables_1_4) rfl)))))) rfl
set_option maxHeartbeats 4000000 in
set_option maxRecDepth 100000 in
theorem mC_475 : (Cond.instanceMethod ({ cls := "KindRounds$Row", name := "beginTerm", desc := "(I)Z" } : Jvm.MethodName)) ∈ lw_good := good_in (List.mem_append_right _ (List.mem_append_right _ (List.mem_append_right _ (List.mem_append_right _ (List.mem_append_left _ (List.mem_of_getElem? (i := 8) (l := tables_1_4) rfl)))))) rfl
set_option maxHeartbeats 4000000 in
set_option maxRecDepth 100000 in
theorem mC_476 : Cond.selects "KindRounds$Row" ⟨"KindRounds$Row", "beginTerm", "(I)Z"⟩ ⟨"KindRounds$Row", "beginTerm", "(I)Z"⟩ ∈ lw_good := good_in (List.mem_append_left _ (List.mem_of_getElem? (i := 28) (l := k2_sels lw_privs) (by decide +kernel))) rfl
set_option maxHeartbeats 4000000 in
set_option maxRecDepth 100000 in
theorem mC_477 : (Cond.code ({ cls := "KindRounds$Row", name := "termEnd", desc := "(I)I" } : Jvm.MethodName) prog_9_method_5_code (2 : Nat) (Option.some Jvm.ClassFile.FieldType.int)) ∈ lw_good := good_in (List.mem_append_right _ (List.mem_append_right _ (List.mem_append_right _ (List.mem_append_right _ (List.mem_append_left _ (List.mem_of_getElem? (i := 179) (l := tables_1_4) rfl)))))) rfl
set_option maxHeartbeats 4000000 in
set_option maxRecDepth 100000 in
theorem mC_478 : (Cond.instanceMethod ({ cls := "KindRounds$Row", name := "termEnd", desc := "(I)I" } : Jvm.MethodName)) ∈ lw_good := good_in (List.mem_append_right _ (List.mem_append_right _ (List.mem_append_right _ (List.mem_append_right _ (List.mem_append_left _ (List.mem_of_getElem? (i := 178) (l := tables_1_4) rfl)))))) rfl
set_option maxHeartbeats 4000000 in
set_option maxRecDepth 100000 in
theorem mC_479 : Cond.selects "KindRounds$Row" ⟨"KindRounds$Row", "termEnd", "(I)I"⟩ ⟨"KindRounds$Row", "termEnd", "(I)I"⟩ ∈ lw_good := good_in (List.mem_append_left _ (List.mem_of_getElem? (i := 67) (l := k2_sels lw_privs) (by decide +kernel))) rfl
set_option maxHeartbeats 4000000 in
set_option maxRecDepth 100000 in
theorem mC_480 : (Cond.code ({ cls := "KindRounds$Row", name := "termOf", desc := "(I)I" } : Jvm.MethodName) prog_9_method_6_code (3 : Nat) (Option.some Jvm.ClassFile.FieldType.int)) ∈ lw_good := good_in (List.mem_append_right _ (List.mem_append_right _ (List.mem_append_right _ (List.mem_append_right _ (List.mem_append_right _ (List.mem_append_left _ (List.mem_of_getElem? (i := 161) (l := tables_1_5) rfl))))))) rfl
set_option maxHeartbeats 4000000 in
set_option maxRecDepth 100000 in
theorem mC_481 : (Cond.instanceMethod ({ cls := "KindRounds$Row", name := "termOf", desc := "(I)I" } : Jvm.MethodName)) ∈ lw_good := good_in (List.mem_append_right _ (List.mem_append_right _ (List.mem_append_right _ (List.mem_append_right _ (List.mem_append_right _ (List.mem_append_left _ (List.mem_of_getElem? (i := 160) (l := tables_1_5) rfl))))))) rfl
set_option maxHeartbeats 4000000 in
set_option maxRecDepth 100000 in
theorem mC_482 : Cond.selects "KindRounds$Row" ⟨"KindRounds$Row", "termOf", "(I)I"⟩ ⟨"KindRounds$Row", "termOf", "(I)I"⟩ ∈ lw_good := good_in (List.mem_append_left _ (List.mem_of_getElem? (i := 107) (l := k2_sels lw_privs) (by decide +kernel))) rfl
set_option maxHeartbeats 4000000 in
set_option maxRecDepth 100000 in
theorem mC_483 : (Cond.code ({ cls := "KindRounds$Row", name := "add", desc := "(IJII)Z" } : Jvm.MethodName) prog_9_method_7_code (6 : Nat) (Option.some Jvm.ClassFile.FieldType.boolean)) ∈ lw_good := good_in (List.mem_append_right _ (List.mem_append_right _ (List.mem_append_right _ (List.mem_append_right _ (List.mem_append_left _ (List.mem_of_getElem? (i := 17) (l := tables_1_4) rfl)))))) rfl
set_option maxHeartbeats 4000000 in
set_option maxRecDepth 100000 in
theorem mC_484 : (Cond.instanceMethod ({ cls := "KindRounds$Row", name := "add", desc := "(IJII)Z" } : Jvm.MethodName)) ∈ lw_good := good_in (List.mem_append_right _ (List.mem_append_right _ (List.mem_append_right _ (List.mem_append_right _ (List.mem_append_left _ (List.mem_of_getElem? (i := 16) (l := tables_1_4) rfl)))))) rfl
set_option maxHeartbeats 4000000 in
set_option maxRecDepth 100000 in
theorem mC_485 : Cond.selects "KindRounds$Row" ⟨"KindRounds$Row", "add", "(IJII)Z"⟩ ⟨"KindRounds$Row", "add", "(IJII)Z"⟩ ∈ lw_good := good_in (List.mem_append_left _ (List.mem_of_getElem? (i := 30) (l := k2_sels lw_privs) (by decide +kernel))) rfl
set_option maxHeartbeats 4000000 in
set_option maxRecDepth 100000 in
theorem mC_486 : (Cond.code ({ cls := "KindRounds$Row", name := "insertArrow", desc := "(I)V" } : Jvm.MethodName) prog_9_method_8_code (3 : Nat) (Option.none : Option Jvm.ClassFile.FieldType)) ∈ lw_good := good_in (List.mem_append_right _ (List.mem_append_right _ (List.mem_append_right _ (List.mem_append_right _ (List.mem_append_left _ (List.mem_of_getElem? (i := 37) (l := tables_1_4) rfl)))))) rfl
set_option maxHeartbeats 4000000 in
set_option maxRecDepth 100000 in
theorem mC_487 : (Cond.instanceMethod ({ cls := "KindRounds$Row", name := "insertArrow", desc := "(I)V" } : Jvm.MethodName)) ∈ lw_good := good_in (List.mem_append_right _ (List.mem_append_right _ (List.mem_append_right _ (List.mem_append_right _ (List.mem_append_left _ (List.mem_of_getElem? (i := 36) (l := tables_1_4) rfl)))))) rfl
set_option maxHeartbeats 4000000 in
set_option maxRecDepth 100000 in
theorem mC_488 : Cond.selects "KindRounds$Row" ⟨"KindRounds$Row", "insertArrow", "(I)V"⟩ ⟨"KindRounds$Row", "insertArrow", "(I)V"⟩ ∈ lw_good := good_in (List.mem_append_left _ (List.mem_of_getElem? (i := 35) (l := k2_sels lw_privs) (by decide +kernel))) rfl
set_option maxHeartbeats 4000000 in
set_option maxRecDepth 100000 in
theorem mC_489 : (Cond.code ({ cls := "KindRounds$Row", name := "fixedOf", desc := "(I)I" } : Jvm.MethodName) prog_9_method_9_code (2 : Nat) (Option.some Jvm.ClassFile.FieldType.int)) ∈ lw_good := good_in (List.mem_append_right _ (List.mem_append_right _ (List.mem_append_right _ (List.mem_append_right _ (List.mem_append_left _ (List.mem_of_getElem? (i := 201) (l := tables_1_4) rfl)))))) rfl
set_option maxHeartbeats 4000000 in
set_option maxRecDepth 100000 in
theorem mC_490 : (Cond.instanceMethod ({ cls := "KindRounds$Row", name := "fixedOf", desc := "(I)I" } : Jvm.MethodName)) ∈ lw_good := good_in (List.mem_append_right _ (List.mem_append_right _ (List.mem_append_right _ (List.mem_append_right _ (List.mem_append_left _ (List.mem_of_getElem? (i := 200) (l := tables_1_4) rfl)))))) rfl
set_option maxHeartbeats 4000000 in
set_option maxRecDepth 100000 in
theorem mC_491 : Cond.selects "KindRounds$Row" ⟨"KindRounds$Row", "fixedOf", "(I)I"⟩ ⟨"KindRounds$Row", "fixedOf", "(I)I"⟩ ∈ lw_good := good_in (List.mem_append_left _ (List.mem_of_getElem? (i := 72) (l := k2_sels lw_privs) (by decide +kernel))) rfl
set_option maxHeartbeats 4000000 in
set_option maxRecDepth 100000 in
theorem mC_492 : (Cond.code ({ cls := "KindRounds$Row", name := "endOf", desc := "(I)I" } : Jvm.MethodName) prog_9_method_10_code (4 : Nat) (Option.some Jvm.ClassFile.FieldType.int)) ∈ lw_good := good_in (List.mem_append_right _ (List.mem_append_right _ (List.mem_append_right _ (List.mem_append_right _ (List.mem_append_right _ (List.mem_append_left _ (List.mem_of_getElem? (i := 153) (l := tables_1_5) rfl))))))) rfl
set_option maxHeartbeats 4000000 in
set_option maxRecDepth 100000 in
theorem mC_493 : (Cond.instanceMethod ({ cls := "KindRounds$Row", name := "endOf", desc := "(I)I" } : Jvm.MethodName)) ∈ lw_good := good_in (List.mem_append_right _ (List.mem_append_right _ (List.mem_append_right _ (List.mem_append_right _ (List.mem_append_right _ (List.mem_append_left _ (List.mem_of_getElem? (i := 152) (l := tables_1_5) rfl))))))) rfl
set_option maxHeartbeats 4000000 in
set_option maxRecDepth 100000 in
theorem mC_494 : Cond.selects "KindRounds$Row" ⟨"KindRounds$Row", "endOf", "(I)I"⟩ ⟨"KindRounds$Row", "endOf", "(I)I"⟩ ∈ lw_good := good_in (List.mem_append_left _ (List.mem_of_getElem? (i := 105) (l := k2_sels lw_privs) (by decide +kernel))) rfl
set_option maxHeartbeats 4000000 in
set_option maxRecDepth 100000 in
theorem mC_495 : (Cond.code ({ cls := "KindRounds$Row", name := "isLike", desc := "(LKindRounds$Row;)Z" } : Jvm.MethodName) prog_9_method_11_code (3 : Nat) (Option.some Jvm.ClassFile.FieldType.boolean)) ∈ lw_good := good_in (List.mem_append_right _ (List.mem_append_right _ (List.mem_append_right _ (List.mem_append_right _ (List.mem_append_right _ (List.mem_append_left _ (List.mem_of_getElem? (i := 202) (l := tables_1_5) rfl))))))) rfl
set_option maxHeartbeats 4000000 in
set_option maxRecDepth 100000 in
theorem mC_496 : (Cond.instanceMethod ({ cls := "KindRounds$Row", name := "isLike", desc := "(LKindRounds$Row;)Z" } : Jvm.MethodName)) ∈ lw_good := good_in (List.mem_append_right _ (List.mem_append_right _ (List.mem_append_right _ (List.mem_append_right _ (List.mem_append_right _ (List.mem_append_left _ (List.mem_of_getElem? (i := 201) (l := tables_1_5) rfl))))))) rfl
set_option maxHeartbeats 4000000 in
set_option maxRecDepth 100000 in
theorem mC_497 : Cond.selects "KindRounds$Row" ⟨"KindRounds$Row", "isLike", "(LKindRounds$Row;)Z"⟩ ⟨"KindRounds$Row", "isLike", "(LKindRounds$Row;)Z"⟩ ∈ lw_good := good_in (List.mem_append_left _ (List.mem_of_getElem? (i := 115) (l := k2_sels lw_privs) (by decide +kernel))) rfl
set_option maxHeartbeats 4000000 in
set_option maxRecDepth 100000 in
theorem mC_498 : (Cond.code ({ cls := "KindRounds$Mentions", name := "clear", desc := "()V" } : Jvm.MethodName) prog_6_method_2_code (1 : Nat) (Option.none : Option Jvm.ClassFile.FieldType)) ∈ lw_good := good_in (List.mem_append_right _ (List.mem_append_right _ (List.mem_append_right _ (List.mem_append_left _ (List.mem_of_getElem? (i := 44) (l := tables_1_3) rfl))))) rfl
set_option maxHeartbeats 4000000 in
set_option maxRecDepth 100000 in
theorem mC_499 : (Cond.initialized "KindRounds$Mentions") ∈ lw_good := good_in (List.mem_append_right _ (List.mem_append_left _ (List.mem_of_getElem? (i := 8) (l := tables_1_1) rfl))) rfl
set_option maxHeartbeats 4000000 in
set_option maxRecDepth 100000 in
theorem mC_500 : (Cond.instanceMethod ({ cls := "KindRounds$Mentions", name := "clear", desc := "()V" } : Jvm.MethodName)) ∈ lw_good := good_in (List.mem_append_right _ (List.mem_append_right _ (List.mem_append_right _ (List.mem_append_left _ (List.mem_of_getElem? (i := 43) (l := tables_1_3) rfl))))) rfl
set_option maxHeartbeats 4000000 in
set_option maxRecDepth 100000 in
theorem mC_501 : Cond.selects "KindRounds$Mentions" ⟨"KindRounds$Mentions", "clear", "()V"⟩ ⟨"KindRounds$Mentions", "clear", "()V"⟩ ∈ lw_good := good_in (List.mem_append_left _ (List.mem_of_getElem? (i := 3) (l := k2_sels lw_privs) (by decide +kernel))) rfl
set_option maxHeartbeats 4000000 in
set_option maxRecDepth 100000 in
theorem mC_502 : (Cond.code ({ cls := "KindRounds$Mentions", name := "add", desc := "(IILKindRounds$Tape;)V" } : Jvm.MethodName) prog_6_method_3_code (4 : Nat) (Option.none : Option Jvm.ClassFile.FieldType)) ∈ lw_good := good_in (List.mem_append_right _ (List.mem_append_right _ (List.mem_append_right _ (List.mem_append_left _ (List.mem_of_getElem? (i := 219) (l := tables_1_3) rfl))))) rfl
set_option maxHeartbeats 4000000 in
set_option maxRecDepth 100000 in
theorem mC_503 : (Cond.instanceMethod ({ cls := "KindRounds$Mentions", name := "add", desc := "(IILKindRounds$Tape;)V" } : Jvm.MethodName)) ∈ lw_good := good_in (List.mem_append_right _ (List.mem_append_right _ (List.mem_append_right _ (List.mem_append_left _ (List.mem_of_getElem? (i := 218) (l := tables_1_3) rfl))))) rfl
set_option maxHeartbeats 4000000 in
set_option maxRecDepth 100000 in
theorem mC_504 : Cond.selects "KindRounds$Mentions" ⟨"KindRounds$Mentions", "add", "(IILKindRounds$Tape;)V"⟩ ⟨"KindRounds$Mentions", "add", "(IILKindRounds$Tape;)V"⟩ ∈ lw_good := good_in (List.mem_append_left _ (List.mem_of_getElem? (i := 21) (l := k2_sels lw_privs) (by decide +kernel))) rfl
set_option maxHeartbeats 4000000 in
set_option maxRecDepth 100000 in
theorem mC_505 : (Cond.code ({ cls := "KindRounds$Mentions", name := "setValue", desc := "(II)V" } : Jvm.MethodName) prog_6_method_4_code (3 : Nat) (Option.none : Option Jvm.ClassFile.FieldType)) ∈ lw_good := good_in (List.mem_append_right _ (List.mem_append_right _ (List.mem_append_right _ (List.mem_append_right _ (List.mem_append_left _ (List.mem_of_getElem? (i := 29) (l := tables_1_4) rfl)))))) rfl
set_option maxHeartbeats 4000000 in
set_option maxRecDepth 100000 in
theorem mC_506 : (Cond.instanceMethod ({ cls := "KindRounds$Mentions", name := "setValue", desc := "(II)V" } : Jvm.MethodName)) ∈ lw_good := good_in (List.mem_append_right _ (List.mem_append_right _ (List.mem_append_right _ (List.mem_append_right _ (List.mem_append_left _ (List.mem_of_getElem? (i := 28) (l := tables_1_4) rfl)))))) rfl
set_option maxHeartbeats 4000000 in
set_option maxRecDepth 100000 in
theorem mC_507 : Cond.selects "KindRounds$Mentions" ⟨"KindRounds$Mentions", "setValue", "(II)V"⟩ ⟨"KindRounds$Mentions", "setValue", "(II)V"⟩ ∈ lw_good := good_in (List.mem_append_left _ (List.mem_of_getElem? (i := 33) (l := k2_sels lw_privs) (by decide +kernel))) rfl
set_option maxHeartbeats 4000000 in
set_option maxRecDepth 100000 in
theorem mC_508 : (Cond.code ({ cls := "KindRounds$Mentions", name := "wasTold", desc := "(I)Z" } : Jvm.MethodName) prog_6_method_5_code (4 : Nat) (Option.some Jvm.ClassFile.FieldType.boolean)) ∈ lw_good := good_in (List.mem_append_right _ (List.mem_append_right _ (List.mem_append_right _ (List.mem_append_right _ (List.mem_append_left _ (List.mem_of_getElem? (i := 82) (l := tables_1_4) rfl)))))) rfl
set_option maxHeartbeats 4000000 in
set_option maxRecDepth 100000 in
theorem mC_509 : (Cond.instanceMethod ({ cls := "KindRounds$Mentions", name := "wasTold", desc := "(I)Z" } : Jvm.MethodName)) ∈ lw_good := good_in (List.mem_append_right _ (List.mem_append_right _ (List.mem_append_right _ (List.mem_append_right _ (List.mem_append_left _ (List.mem_of_getElem? (i := 81) (l := tables_1_4) rfl)))))) rfl
set_option maxHeartbeats 4000000 in
set_option maxRecDepth 100000 in
theorem mC_510 : Cond.selects "KindRounds$Mentions" ⟨"KindRounds$Mentions", "wasTold", "(I)Z"⟩ ⟨"KindRounds$Mentions", "wasTold", "(I)Z"⟩ ∈ lw_good := good_in (List.mem_append_left _ (List.mem_of_getElem? (i := 45) (l := k2_sels lw_privs) (by decide +kernel))) rfl
set_option maxHeartbeats 4000000 in
set_option maxRecDepth 100000 in
theorem mC_511 : (Cond.code ({ cls := "KindRounds$Text", name := "clear", desc := "()V" } : Jvm.MethodName) prog_12_method_2_code (1 : Nat) (Option.none : Option Jvm.ClassFile.FieldType)) ∈ lw_good := good_in (List.mem_append_right _ (List.mem_append_right _ (List.mem_append_right _ (List.mem_append_left _ (List.mem_of_getElem? (i := 52) (l := tables_1_3) rfl))))) rfl
set_option maxHeartbeats 4000000 in
set_option maxRecDepth 100000 in
theorem mC_512 : (Cond.initialized "KindRounds$Text") ∈ lw_good := good_in (List.mem_append_right _ (List.mem_append_left _ (List.mem_of_getElem? (i := 6) (l := tables_1_1) rfl))) rfl
set_option maxHeartbeats 4000000 in
set_option maxRecDepth 100000 in
theorem mC_513 : (Cond.instanceMethod ({ cls := "KindRounds$Text", name := "clear", desc := "()V" } : Jvm.MethodName)) ∈ lw_good := good_in (List.mem_append_right _ (List.mem_append_right _ (List.mem_append_right _ (List.mem_append_left _ (List.mem_of_getElem? (i := 51) (l := tables_1_3) rfl))))) rfl
set_option maxHeartbeats 4000000 in
set_option maxRecDepth 100000 in
theorem mC_514 : Cond.selects "KindRounds$Text" ⟨"KindRounds$Text", "clear", "()V"⟩ ⟨"KindRounds$Text", "clear", "()V"⟩ ∈ lw_good := good_in (List.mem_append_left _ (List.mem_of_getElem? (i := 5) (l := k2_sels lw_privs) (by decide +kernel))) rfl
set_option maxHeartbeats 4000000 in
set_option maxRecDepth 100000 in
theorem mC_515 : (Cond.code ({ cls := "KindRounds$Text", name := "has", desc := "(I)Z" } : Jvm.MethodName) prog_12_method_3_code (2 : Nat) (Option.some Jvm.ClassFile.FieldType.boolean)) ∈ lw_good := good_in (List.mem_append_right _ (List.mem_append_right _ (List.mem_append_right _ (List.mem_append_right _ (List.mem_append_left _ (List.mem_of_getElem? (i := 98) (l := tables_1_4) rfl)))))) rfl
set_option maxHeartbeats 4000000 in
set_option maxRecDepth 100000 in
theorem mC_516 : (Cond.instanceMethod ({ cls := "KindRounds$Text", name := "has", desc := "(I)Z" } : Jvm.MethodName)) ∈ lw_good := good_in (List.mem_append_right _ (List.mem_append_right _ (List.mem_append_right _ (List.mem_append_right _ (List.mem_append_left _ (List.mem_of_getElem? (i := 97) (l := tables_1_4) rfl)))))) rfl
set_option maxHeartbeats 4000000 in
set_option maxRecDepth 100000 in
theorem mC_517 : Cond.selects "KindRounds$Text" ⟨"KindRounds$Text", "has", "(I)Z"⟩ ⟨"KindRounds$Text", "has", "(I)Z"⟩ ∈ lw_good := good_in (List.mem_append_left _ (List.mem_of_getElem? (i := 49) (l := k2_sels lw_privs) (by decide +kernel))) rfl
set_option maxHeartbeats 4000000 in
set_option maxRecDepth 100000 in
theorem mC_518 : (Cond.code ({ cls := "KindRounds$Text", name := "declare", desc := "(IJI)V" } : Jvm.MethodName) prog_12_method_4_code (5 : Nat) (Option.none : Option Jvm.ClassFile.FieldType)) ∈ lw_good := good_in (List.mem_append_right _ (List.mem_append_right _ (List.mem_append_right _ (List.mem_append_left _ (List.mem_of_getElem? (i := 215) (l := tables_1_3) rfl))))) rfl
set_option maxHeartbeats 4000000 in
set_option maxRecDepth 100000 in
theorem mC_519 : (Cond.instanceMethod ({ cls := "KindRounds$Text", name := "declare", desc := "(IJI)V" } : Jvm.MethodName)) ∈ lw_good := good_in (List.mem_append_right _ (List.mem_append_right _ (List.mem_append_right _ (List.mem_append_left _ (List.mem_of_getElem? (i := 214) (l := tables_1_3) rfl))))) rfl
set_option maxHeartbeats 4000000 in
set_option maxRecDepth 100000 in
theorem mC_520 : Cond.selects "KindRounds$Text" ⟨"KindRounds$Text", "declare", "(IJI)V"⟩ ⟨"KindRounds$Text", "declare", "(IJI)V"⟩ ∈ lw_good := good_in (List.mem_append_left _ (List.mem_of_getElem? (i := 20) (l := k2_sels lw_privs) (by decide +kernel))) rfl
set_option maxHeartbeats 4000000 in
set_option maxRecDepth 100000 in
theorem mC_521 : (Cond.code ({ cls := "KindRounds$Text", name := "addParam", desc := "(IJ)V" } : Jvm.MethodName) prog_12_method_5_code (4 : Nat) (Option.none : Option Jvm.ClassFile.FieldType)) ∈ lw_good := good_in (List.mem_append_right _ (List.mem_append_right _ (List.mem_append_right _ (List.mem_append_left _ (List.mem_of_getElem? (i := 233) (l := tables_1_3) rfl))))) rfl
set_option maxHeartbeats 4000000 in
set_option maxRecDepth 100000 in
theorem mC_522 : (Cond.instanceMethod ({ cls := "KindRounds$Text", name := "addParam", desc := "(IJ)V" } : Jvm.MethodName)) ∈ lw_good := good_in (List.mem_append_right _ (List.mem_append_right _ (List.mem_append_right _ (List.mem_append_left _ (List.mem_of_getElem? (i := 232) (l := tables_1_3) rfl))))) rfl
set_option maxHeartbeats 4000000 in
set_option maxRecDepth 100000 in
theorem mC_523 : Cond.selects "KindRounds$Text" ⟨"KindRounds$Text", "addParam", "(IJ)V"⟩ ⟨"KindRounds$Text", "addParam", "(IJ)V"⟩ ∈ lw_good := good_in (List.mem_append_left _ (List.mem_of_getElem? (i := 24) (l := k2_sels lw_privs) (by decide +kernel))) rfl
set_option maxHeartbeats 4000000 in
set_option maxRecDepth 100000 in
theorem mC_524 : (Cond.code ({ cls := "KindRounds$Text", name := "findType", desc := "(J)I" } : Jvm.MethodName) prog_12_method_6_code (4 : Nat) (Option.some Jvm.ClassFile.FieldType.int)) ∈ lw_good := good_in (List.mem_append_right _ (List.mem_append_right _ (List.mem_append_right _ (List.mem_append_right _ (List.mem_append_left _ (List.mem_of_getElem? (i := 90) (l := tables_1_4) rfl)))))) rfl
set_option maxHeartbeats 4000000 in
set_option maxRecDepth 100000 in
theorem mC_525 : (Cond.instanceMethod ({ cls := "KindRounds$Text", name := "findType", desc := "(J)I" } : Jvm.MethodName)) ∈ lw_good := good_in (List.mem_append_right _ (List.mem_append_right _ (List.mem_append_right _ (List.mem_append_right _ (List.mem_append_left _ (List.mem_of_getElem? (i := 89) (l := tables_1_4) rfl)))))) rfl
set_option maxHeartbeats 4000000 in
set_option maxRecDepth 100000 in
theorem mC_526 : Cond.selects "KindRounds$Text" ⟨"KindRounds$Text", "findType", "(J)I"⟩ ⟨"KindRounds$Text", "findType", "(J)I"⟩ ∈ lw_good := good_in (List.mem_append_left _ (List.mem_of_getElem? (i := 47) (l := k2_sels lw_privs) (by decide +kernel))) rfl
set_option maxHeartbeats 4000000 in
set_option maxRecDepth 100000 in
theorem mC_527 : (Cond.code ({ cls := "KindRounds$Text", name := "findDeclared", desc := "(J)I" } : Jvm.MethodName) prog_12_method_7_code (4 : Nat) (Option.some Jvm.ClassFile.FieldType.int)) ∈ lw_good := good_in (List.mem_append_right _ (List.mem_append_right _ (List.mem_append_right _ (List.mem_append_right _ (List.mem_append_left _ (List.mem_of_getElem? (i := 86) (l := tables_1_4) rfl)))))) rfl
set_option maxHeartbeats 4000000 in
set_option maxRecDepth 100000 in
theorem mC_528 : (Cond.instanceMethod ({ cls := "KindRounds$Text", name := "findDeclared", desc := "(J)I" } : Jvm.MethodName)) ∈ lw_good := good_in (List.mem_append_right _ (List.mem_append_right _ (List.mem_append_right _ (List.mem_append_right _ (List.mem_append_left _ (List.mem_of_getElem? (i := 85) (l := tables_1_4) rfl)))))) rfl
set_option maxHeartbeats 4000000 in
set_option maxRecDepth 100000 in
theorem mC_529 : Cond.selects "KindRounds$Text" ⟨"KindRounds$Text", "findDeclared", "(J)I"⟩ ⟨"KindRounds$Text", "findDeclared", "(J)I"⟩ ∈ lw_good := good_in (List.mem_append_left _ (List.mem_of_getElem? (i := 46) (l := k2_sels lw_privs) (by decide +kernel))) rfl
set_option maxHeartbeats 4000000 in
set_option maxRecDepth 100000 in
theorem mC_530 : (Cond.code ({ cls := "KindRounds$Text", name := "findParam", desc := "(IJ)I" } : Jvm.MethodName) prog_12_method_8_code (5 : Nat) (Option.some Jvm.ClassFile.FieldType.int)) ∈ lw_good := good_in (List.mem_append_right _ (List.mem_append_right _ (List.mem_append_right _ (List.mem_append_right _ (List.mem_append_left _ (List.mem_of_getElem? (i := 102) (l := tables_1_4) rfl)))))) rfl
set_option maxHeartbeats 4000000 in
set_option maxRecDepth 100000 in
theorem mC_531 : (Cond.instanceMethod ({ cls := "KindRounds$Text", name := "findParam", desc := "(IJ)I" } : Jvm.MethodName)) ∈ lw_good := good_in (List.mem_append_right _ (List.mem_append_right _ (List.mem_append_right _ (List.mem_append_right _ (List.mem_append_left _ (List.mem_of_getElem? (i := 101) (l := tables_1_4) rfl)))))) rfl
set_option maxHeartbeats 4000000 in
set_option maxRecDepth 100000 in
theorem mC_532 : Cond.selects "KindRounds$Text" ⟨"KindRounds$Text", "findParam", "(IJ)I"⟩ ⟨"KindRounds$Text", "findParam", "(IJ)I"⟩ ∈ lw_good := good_in (List.mem_append_left _ (List.mem_of_getElem? (i := 50) (l := k2_sels lw_privs) (by decide +kernel))) rfl
set_option maxHeartbeats 4000000 in
set_option maxRecDepth 100000 in
theorem mC_533 : (Cond.code ({ cls := "KindRounds$Text", name := "findSynonym", desc := "(IJ)I" } : Jvm.MethodName) prog_12_method_9_code (5 : Nat) (Option.some Jvm.ClassFile.FieldType.int)) ∈ lw_good := good_in (List.mem_append_right _ (List.mem_append_right _ (List.mem_append_right _ (List.mem_append_right _ (List.mem_append_left _ (List.mem_of_getElem? (i := 123) (l := tables_1_4) rfl)))))) rfl
set_option maxHeartbeats 4000000 in
set_option maxRecDepth 100000 in
theorem mC_534 : (Cond.instanceMethod ({ cls := "KindRounds$Text", name := "findSynonym", desc := "(IJ)I" } : Jvm.MethodName)) ∈ lw_good := good_in (List.mem_append_right _ (List.mem_append_right _ (List.mem_append_right _ (List.mem_append_right _ (List.mem_append_left _ (List.mem_of_getElem? (i := 122) (l := tables_1_4) rfl)))))) rfl
set_option maxHeartbeats 4000000 in
set_option maxRecDepth 100000 in
theorem mC_535 : Cond.selects "KindRounds$Text" ⟨"KindRounds$Text", "findSynonym", "(IJ)I"⟩ ⟨"KindRounds$Text", "findSynonym", "(IJ)I"⟩ ∈ lw_good := good_in (List.mem_append_left _ (List.mem_of_getElem? (i := 55) (l := k2_sels lw_privs) (by decide +kernel))) rfl
set_option maxHeartbeats 4000000 in
set_option maxRecDepth 100000 in
theorem mC_536 : (Cond.code ({ cls := "KindRounds$Text", name := "closeMasks", desc := "([I)V" } : Jvm.MethodName) prog_12_method_10_code (4 : Nat) (Option.none : Option Jvm.ClassFile.FieldType)) ∈ lw_good := good_in (List.mem_append_right _ (List.mem_append_right _ (List.mem_append_right _ (List.mem_append_right _ (List.mem_append_left _ (List.mem_of_getElem? (i := 115) (l := tables_1_4) rfl)))))) rfl
set_option maxHeartbeats 4000000 in
set_option maxRecDepth 100000 in
theorem mC_537 : (Cond.instanceMethod ({ cls := "KindRounds$Text", name := "closeMasks", desc := "([I)V" } : Jvm.MethodName)) ∈ lw_good := good_in (List.mem_append_right _ (List.mem_append_right _ (List.mem_append_right _ (List.mem_append_right _ (List.mem_append_left _ (List.mem_of_getElem? (i := 114) (l := tables_1_4) rfl)))))) rfl
set_option maxHeartbeats 4000000 in
set_option maxRecDepth 100000 in
theorem mC_538 : Cond.selects "KindRounds$Text" ⟨"KindRounds$Text", "closeMasks", "([I)V"⟩ ⟨"KindRounds$Text", "closeMasks", "([I)V"⟩ ∈ lw_good := good_in (List.mem_append_left _ (List.mem_of_getElem? (i := 53) (l := k2_sels lw_privs) (by decide +kernel))) rfl
set_option maxHeartbeats 4000000 in
set_option maxRecDepth 100000 in
theorem mC_539 : (Cond.code ({ cls := "KindRounds$Text", name := "formGroups", desc := "()V" } : Jvm.MethodName) prog_12_method_11_code (6 : Nat) (Option.none : Option Jvm.ClassFile.FieldType)) ∈ lw_good := good_in (List.mem_append_right _ (List.mem_append_right _ (List.mem_append_right _ (List.mem_append_right _ (List.mem_append_left _ (List.mem_of_getElem? (i := 129) (l := tables_1_4) rfl)))))) rfl
set_option maxHeartbeats 4000000 in
set_option maxRecDepth 100000 in
theorem mC_540 : (Cond.instanceMethod ({ cls := "KindRounds$Text", name := "formGroups", desc := "()V" } : Jvm.MethodName)) ∈ lw_good := good_in (List.mem_append_right _ (List.mem_append_right _ (List.mem_append_right _ (List.mem_append_right _ (List.mem_append_left _ (List.mem_of_getElem? (i := 128) (l := tables_1_4) rfl)))))) rfl
set_option maxHeartbeats 4000000 in
set_option maxRecDepth 100000 in
theorem mC_541 : Cond.selects "KindRounds$Text" ⟨"KindRounds$Text", "formGroups", "()V"⟩ ⟨"KindRounds$Text", "formGroups", "()V"⟩ ∈ lw_good := good_in (List.mem_append_left _ (List.mem_of_getElem? (i := 56) (l := k2_sels lw_privs) (by decide +kernel))) rfl
set_option maxHeartbeats 4000000 in
set_option maxRecDepth 100000 in
theorem mC_542 : (Cond.code ({ cls := "KindRounds$Text", name := "nextOf", desc := "(I)I" } : Jvm.MethodName) prog_12_method_12_code (4 : Nat) (Option.some Jvm.ClassFile.FieldType.int)) ∈ lw_good := good_in (List.mem_append_right _ (List.mem_append_right _ (List.mem_append_right _ (List.mem_append_right _ (List.mem_append_left _ (List.mem_of_getElem? (i := 135) (l := tables_1_4) rfl)))))) rfl
set_option maxHeartbeats 4000000 in
set_option maxRecDepth 100000 in
theorem mC_543 : (Cond.instanceMethod ({ cls := "KindRounds$Text", name := "nextOf", desc := "(I)I" } : Jvm.MethodName)) ∈ lw_good := good_in (List.mem_append_right _ (List.mem_append_right _ (List.mem_append_right _ (List.mem_append_right _ (List.mem_append_left _ (List.mem_of_getElem? (i := 134) (l := tables_1_4) rfl)))))) rfl
set_option maxHeartbeats 4000000 in
set_option maxRecDepth 100000 in
theorem mC_544 : Cond.selects "KindRounds$Text" ⟨"KindRounds$Text", "nextOf", "(I)I"⟩ ⟨"KindRounds$Text", "nextOf", "(I)I"⟩ ∈ lw_good := good_in (List.mem_append_left _ (List.mem_of_getElem? (i := 57) (l := k2_sels lw_privs) (by decide +kernel))) rfl
set_option maxHeartbeats 4000000 in
set_option maxRecDepth 100000 in
theorem mC_545 : (Cond.code ({ cls := "KindRounds$Text", name := "ringOf", desc := "(I)I" } : Jvm.MethodName) prog_12_method_13_code (4 : Nat) (Option.some Jvm.ClassFile.FieldType.int)) ∈ lw_good := good_in (List.mem_append_right _ (List.mem_append_right _ (List.mem_append_right _ (List.mem_append_right _ (List.mem_append_left _ (List.mem_of_getElem? (i := 139) (l := tables_1_4) rfl)))))) rfl
set_option maxHeartbeats 4000000 in
set_option maxRecDepth 100000 in
theorem mC_546 : (Cond.instanceMethod ({ cls := "KindRounds$Text", name := "ringOf", desc := "(I)I" } : Jvm.MethodName)) ∈ lw_good := good_in (List.mem_append_right _ (List.mem_append_right _ (List.mem_append_right _ (List.mem_append_right _ (List.mem_append_left _ (List.mem_of_getElem? (i := 138) (l := tables_1_4) rfl)))))) rfl
set_option maxHeartbeats 4000000 in
set_option maxRecDepth 100000 in
theorem mC_547 : Cond.selects "KindRounds$Text" ⟨"KindRounds$Text", "ringOf", "(I)I"⟩ ⟨"KindRounds$Text", "ringOf", "(I)I"⟩ ∈ lw_good := good_in (List.mem_append_left _ (List.mem_of_getElem? (i := 58) (l := k2_sels lw_privs) (by decide +kernel))) rfl
set_option maxHeartbeats 4000000 in
set_option maxRecDepth 100000 in
theorem mC_548 : (Cond.code ({ cls := "KindRounds$Text", name := "findMember", desc := "(II)I" } : Jvm.MethodName) prog_12_method_14_code (5 : Nat) (Option.some Jvm.ClassFile.FieldType.int)) ∈ lw_good := good_in (List.mem_append_right _ (List.mem_append_right _ (List.mem_append_right _ (List.mem_append_right _ (List.mem_append_right _ (List.mem_append_left _ (List.mem_of_getElem? (i := 100) (l := tables_1_5) rfl))))))) rfl
set_option maxHeartbeats 4000000 in
set_option maxRecDepth 100000 in
theorem mC_549 : (Cond.instanceMethod ({ cls := "KindRounds$Text", name := "findMember", desc := "(II)I" } : Jvm.MethodName)) ∈ lw_good := good_in (List.mem_append_right _ (List.mem_append_right _ (List.mem_append_right _ (List.mem_append_right _ (List.mem_append_right _ (List.mem_append_left _ (List.mem_of_getElem? (i := 99) (l := tables_1_5) rfl))))))) rfl
set_option maxHeartbeats 4000000 in
set_option maxRecDepth 100000 in
theorem mC_550 : Cond.selects "KindRounds$Text" ⟨"KindRounds$Text", "findMember", "(II)I"⟩ ⟨"KindRounds$Text", "findMember", "(II)I"⟩ ∈ lw_good := good_in (List.mem_append_left _ (List.mem_of_getElem? (i := 96) (l := k2_sels lw_privs) (by decide +kernel))) rfl
set_option maxHeartbeats 4000000 in
set_option maxRecDepth 100000 in
theorem mC_551 : (Cond.code ({ cls := "KindRounds$Parser", name := "parseText", desc := "()V" } : Jvm.MethodName) prog_7_method_2_code (4 : Nat) (Option.none : Option Jvm.ClassFile.FieldType)) ∈ lw_good := good_in (List.mem_append_right _ (List.mem_append_right _ (List.mem_append_right _ (List.mem_append_left _ (List.mem_of_getElem? (i := 179) (l := tables_1_3) rfl))))) rfl
set_option maxHeartbeats 4000000 in
set_option maxRecDepth 100000 in
theorem mC_552 : (Cond.initialized "KindRounds$Parser") ∈ lw_good := good_in (List.mem_append_right _ (List.mem_append_left _ (List.mem_of_getElem? (i := 9) (l := tables_1_1) rfl))) rfl
set_option maxHeartbeats 4000000 in
set_option maxRecDepth 100000 in
theorem mC_553 : (Cond.instanceMethod ({ cls := "KindRounds$Parser", name := "parseText", desc := "()V" } : Jvm.MethodName)) ∈ lw_good := good_in (List.mem_append_right _ (List.mem_append_right _ (List.mem_append_right _ (List.mem_append_left _ (List.mem_of_getElem? (i := 178) (l := tables_1_3) rfl))))) rfl
set_option maxHeartbeats 4000000 in
set_option maxRecDepth 100000 in
theorem mC_554 : Cond.selects "KindRounds$Parser" ⟨"KindRounds$Parser", "parseText", "()V"⟩ ⟨"KindRounds$Parser", "parseText", "()V"⟩ ∈ lw_good := good_in (List.mem_append_left _ (List.mem_of_getElem? (i := 11) (l := k2_sels lw_privs) (by decide +kernel))) rfl
set_option maxHeartbeats 4000000 in
set_option maxRecDepth 100000 in
theorem mC_555 : (Cond.code ({ cls := "KindRounds$Parser", name := "parseTypes", desc := "(LKindRounds$Row;I)V" } : Jvm.MethodName) prog_7_method_3_code (5 : Nat) (Option.none : Option Jvm.ClassFile.FieldType)) ∈ lw_good := good_in (List.mem_append_right _ (List.mem_append_right _ (List.mem_append_right _ (List.mem_append_right _ (List.mem_append_right _ (List.mem_append_left _ (List.mem_of_getElem? (i := 121) (l := tables_1_5) rfl))))))) rfl
set_option maxHeartbeats 4000000 in
set_option maxRecDepth 100000 in
theorem mC_556 : (Cond.instanceMethod ({ cls := "KindRounds$Parser", name := "parseTypes", desc := "(LKindRounds$Row;I)V" } : Jvm.MethodName)) ∈ lw_good := good_in (List.mem_append_right _ (List.mem_append_right _ (List.mem_append_right _ (List.mem_append_right _ (List.mem_append_right _ (List.mem_append_left _ (List.mem_of_getElem? (i := 120) (l := tables_1_5) rfl))))))) rfl
set_option maxHeartbeats 4000000 in
set_option maxRecDepth 100000 in
theorem mC_557 : Cond.selects "KindRounds$Parser" ⟨"KindRounds$Parser", "parseTypes", "(LKindRounds$Row;I)V"⟩ ⟨"KindRounds$Parser", "parseTypes", "(LKindRounds$Row;I)V"⟩ ∈ lw_good := good_in (List.mem_append_left _ (List.mem_of_getElem? (i := 99) (l := k2_sels lw_privs) (by decide +kernel))) rfl
set_option maxHeartbeats 4000000 in
set_option maxRecDepth 100000 in
theorem mC_558 : (Cond.code ({ cls := "KindRounds$Parser", name := "misfit", desc := "()Z" } : Jvm.MethodName) prog_7_method_4_code (1 : Nat) (Option.some Jvm.ClassFile.FieldType.boolean)) ∈ lw_good := good_in (List.mem_append_right _ (List.mem_append_right _ (List.mem_append_right _ (List.mem_append_left _ (List.mem_of_getElem? (i := 195) (l := tables_1_3) rfl))))) rfl
set_option maxHeartbeats 4000000 in
set_option maxRecDepth 100000 in
theorem mC_559 : (Cond.instanceMethod ({ cls := "KindRounds$Parser", name := "misfit", desc := "()Z" } : Jvm.MethodName)) ∈ lw_good := good_in (List.mem_append_right _ (List.mem_append_right _ (List.mem_append_right _ (List.mem_append_left _ (List.mem_of_getElem? (i := 194) (l := tables_1_3) rfl))))) rfl
set_option maxHeartbeats 4000000 in
set_option maxRecDepth 100000 in
theorem mC_560 : Cond.selects "KindRounds$Parser" ⟨"KindRounds$Parser", "misfit", "()Z"⟩ ⟨"KindRounds$Parser", "misfit", "()Z"⟩ ∈ lw_good := good_in (List.mem_append_left _ (List.mem_of_getElem? (i := 15) (l := k2_sels lw_privs) (by decide +kernel))) rfl
set_option maxHeartbeats 4000000 in
set_option maxRecDepth 100000 in
theorem mC_561 : (Cond.code ({ cls := "KindRounds$Parser", name := "tooMuch", desc := "()Z" } : Jvm.MethodName) prog_7_method_5_code (1 : Nat) (Option.some Jvm.ClassFile.FieldType.boolean)) ∈ lw_good := good_in (List.mem_append_right _ (List.mem_append_right _ (List.mem_append_right _ (List.mem_append_left _ (List.mem_of_getElem? (i := 207) (l := tables_1_3) rfl))))) rfl
set_option maxHeartbeats 4000000 in
set_option maxRecDepth 100000 in
theorem mC_562 : (Cond.instanceMethod ({ cls := "KindRounds$Parser", name := "tooMuch", desc := "()Z" } : Jvm.MethodName)) ∈ lw_good := good_in (List.mem_append_right _ (List.mem_append_right _ (List.mem_append_right _ (List.mem_append_left _ (List.mem_of_getElem? (i := 206) (l := tables_1_3) rfl))))) rfl
set_option maxHeartbeats 4000000 in
set_option maxRecDepth 100000 in
theorem mC_563 : Cond.selects "KindRounds$Parser" ⟨"KindRounds$Parser", "tooMuch", "()Z"⟩ ⟨"KindRounds$Parser", "tooMuch", "()Z"⟩ ∈ lw_good := good_in (List.mem_append_left _ (List.mem_of_getElem? (i := 18) (l := k2_sels lw_privs) (by decide +kernel))) rfl
set_option maxHeartbeats 4000000 in
set_option maxRecDepth 100000 in
theorem mC_564 : (Cond.code ({ cls := "KindRounds$Parser", name := "expect", desc := "(I)Z" } : Jvm.MethodName) prog_7_method_6_code (2 : Nat) (Option.some Jvm.ClassFile.FieldType.boolean)) ∈ lw_good := good_in (List.mem_append_right _ (List.mem_append_right _ (List.mem_append_right _ (List.mem_append_left _ (List.mem_of_getElem? (i := 237) (l := tables_1_3) rfl))))) rfl
set_option maxHeartbeats 4000000 in
set_option maxRecDepth 100000 in
theorem mC_565 : (Cond.instanceMethod ({ cls := "KindRounds$Parser", name := "expect", desc := "(I)Z" } : Jvm.MethodName)) ∈ lw_good := good_in (List.mem_append_right _ (List.mem_append_right _ (List.mem_append_right _ (List.mem_append_left _ (List.mem_of_getElem? (i := 236) (l := tables_1_3) rfl))))) rfl
set_option maxHeartbeats 4000000 in
set_option maxRecDepth 100000 in
theorem mC_566 : Cond.selects "KindRounds$Parser" ⟨"KindRounds$Parser", "expect", "(I)Z"⟩ ⟨"KindRounds$Parser", "expect", "(I)Z"⟩ ∈ lw_good := good_in (List.mem_append_left _ (List.mem_of_getElem? (i := 25) (l := k2_sels lw_privs) (by decide +kernel))) rfl
set_option maxHeartbeats 4000000 in
set_option maxRecDepth 100000 in
theorem mC_567 : (Cond.code ({ cls := "KindRounds$Parser", name := "parseHead", desc := "(I)Z" } : Jvm.MethodName) prog_7_method_7_code (2 : Nat) (Option.some Jvm.ClassFile.FieldType.boolean)) ∈ lw_good := good_in (List.mem_append_right _ (List.mem_append_right _ (List.mem_append_right _ (List.mem_append_left _ (List.mem_of_getElem? (i := 187) (l := tables_1_3) rfl))))) rfl
set_option maxHeartbeats 4000000 in
set_option maxRecDepth 100000 in
theorem mC_568 : (Cond.instanceMethod ({ cls := "KindRounds$Parser", name := "parseHead", desc := "(I)Z" } : Jvm.MethodName)) ∈ lw_good := good_in (List.mem_append_right _ (List.mem_append_right _ (List.mem_append_right _ (List.mem_append_left _ (List.mem_of_getElem? (i := 186) (l := tables_1_3) rfl))))) rfl
set_option maxHeartbeats 4000000 in
set_option maxRecDepth 100000 in
theorem mC_569 : Cond.selects "KindRounds$Parser" ⟨"KindRounds$Parser", "parseHead", "(I)Z"⟩ ⟨"KindRounds$Parser", "parseHead", "(I)Z"⟩ ∈ lw_good := good_in (List.mem_append_left _ (List.mem_of_getElem? (i := 13) (l := k2_sels lw_privs) (by decide +kernel))) rfl
set_option maxHeartbeats 4000000 in
set_option maxRecDepth 100000 in
theorem mC_570 : (Cond.code ({ cls := "KindRounds$Parser", name := "parseParams", desc := "()Z" } : Jvm.MethodName) prog_7_method_8_code (3 : Nat) (Option.some Jvm.ClassFile.FieldType.boolean)) ∈ lw_good := good_in (List.mem_append_right _ (List.mem_append_right _ (List.mem_append_right _ (List.mem_append_left _ (List.mem_of_getElem? (i := 225) (l := tables_1_3) rfl))))) rfl
set_option maxHeartbeats 4000000 in
set_option maxRecDepth 100000 in
theorem mC_571 : (Cond.instanceMethod ({ cls := "KindRounds$Parser", name := "parseParams", desc := "()Z" } : Jvm.MethodName)) ∈ lw_good := good_in (List.mem_append_right _ (List.mem_append_right _ (List.mem_append_right _ (List.mem_append_left _ (List.mem_of_getElem? (i := 224) (l := tables_1_3) rfl))))) rfl
set_option maxHeartbeats 4000000 in
set_option maxRecDepth 100000 in
theorem mC_572 : Cond.selects "KindRounds$Parser" ⟨"KindRounds$Parser", "parseParams", "()Z"⟩ ⟨"KindRounds$Parser", "parseParams", "()Z"⟩ ∈ lw_good := good_in (List.mem_append_left _ (List.mem_of_getElem? (i := 22) (l := k2_sels lw_privs) (by decide +kernel))) rfl
set_option maxHeartbeats 4000000 in
set_option maxRecDepth 100000 in
theorem mC_573 : (Cond.code ({ cls := "KindRounds$Parser", name := "parseParam", desc := "()Z" } : Jvm.MethodName) prog_7_method_9_code (1 : Nat) (Option.some Jvm.ClassFile.FieldType.boolean)) ∈ lw_good := good_in (List.mem_append_right _ (List.mem_append_right _ (List.mem_append_right _ (List.mem_append_left _ (List.mem_of_getElem? (i := 229) (l := tables_1_3) rfl))))) rfl
set_option maxHeartbeats 4000000 in
set_option maxRecDepth 100000 in
theorem mC_574 : (Cond.instanceMethod ({ cls := "KindRounds$Parser", name := "parseParam", desc := "()Z" } : Jvm.MethodName)) ∈ lw_good := good_in (List.mem_append_right _ (List.mem_append_right _ (List.mem_append_right _ (List.mem_append_left _ (List.mem_of_getElem? (i := 228) (l := tables_1_3) rfl))))) rfl
set_option maxHeartbeats 4000000 in
set_option maxRecDepth 100000 in
theorem mC_575 : Cond.selects "KindRounds$Parser" ⟨"KindRounds$Parser", "parseParam", "()Z"⟩ ⟨"KindRounds$Parser", "parseParam", "()Z"⟩ ∈ lw_good := good_in (List.mem_append_left _ (List.mem_of_getElem? (i := 23) (l := k2_sels lw_privs) (by decide +kernel))) rfl
set_option maxHeartbeats 4000000 in
set_option maxRecDepth 100000 in
theorem mC_576 : (Cond.code ({ cls := "KindRounds$Parser", name := "parseCons", desc := "()Z" } : Jvm.MethodName) prog_7_method_10_code (3 : Nat) (Option.some Jvm.ClassFile.FieldType.boolean)) ∈ lw_good := good_in (List.mem_append_right _ (List.mem_append_right _ (List.mem_append_right _ (List.mem_append_right _ (List.mem_append_left _ (List.mem_of_getElem? (i := 1) (l := tables_1_4) rfl)))))) rfl
set_option maxHeartbeats 4000000 in
set_option maxRecDepth 100000 in
theorem mC_577 : (Cond.instanceMethod ({ cls := "KindRounds$Parser", name := "parseCons", desc := "()Z" } : Jvm.MethodName)) ∈ lw_good := good_in (List.mem_append_right _ (List.mem_append_right _ (List.mem_append_right _ (List.mem_append_right _ (List.mem_append_left _ (List.mem_of_getElem? (i := 0) (l := tables_1_4) rfl)))))) rfl
set_option maxHeartbeats 4000000 in
set_option maxRecDepth 100000 in
theorem mC_578 : Cond.selects "KindRounds$Parser" ⟨"KindRounds$Parser", "parseCons", "()Z"⟩ ⟨"KindRounds$Parser", "parseCons", "()Z"⟩ ∈ lw_good := good_in (List.mem_append_left _ (List.mem_of_getElem? (i := 26) (l := k2_sels lw_privs) (by decide +kernel))) rfl
set_option maxHeartbeats 4000000 in
set_option maxRecDepth 100000 in
theorem mC_579 : (Cond.code ({ cls := "KindRounds$Parser", name := "parseMethods", desc := "()Z" } : Jvm.MethodName) prog_7_method_11_code (3 : Nat) (Option.some Jvm.ClassFile.FieldType.boolean)) ∈ lw_good := good_in (List.mem_append_right _ (List.mem_append_right _ (List.mem_append_right _ (List.mem_append_right _ (List.mem_append_left _ (List.mem_of_getElem? (i := 45) (l := tables_1_4) rfl)))))) rfl
set_option maxHeartbeats 4000000 in
set_option maxRecDepth 100000 in
theorem mC_580 : (Cond.instanceMethod ({ cls := "KindRounds$Parser", name := "parseMethods", desc := "()Z" } : Jvm.MethodName)) ∈ lw_good := good_in (List.mem_append_right _ (List.mem_append_right _ (List.mem_append_right _ (List.mem_append_right _ (List.mem_append_left _ (List.mem_of_getElem? (i := 44) (l := tables_1_4) rfl)))))) rfl
set_option maxHeartbeats 4000000 in
set_option maxRecDepth 100000 in
theorem mC_581 : Cond.selects "KindRounds$Parser" ⟨"KindRounds$Parser", "parseMethods", "()Z"⟩ ⟨"KindRounds$Parser", "parseMethods", "()Z"⟩ ∈ lw_good := good_in (List.mem_append_left _ (List.mem_of_getElem? (i := 36) (l := k2_sels lw_privs) (by decide +kernel))) rfl
set_option maxHeartbeats 4000000 in
set_option maxRecDepth 100000 in
theorem mC_582 : (Cond.code ({ cls := "KindRounds$Parser", name := "parseTold", desc := "()Z" } : Jvm.MethodName) prog_7_method_12_code (3 : Nat) (Option.some Jvm.ClassFile.FieldType.boolean)) ∈ lw_good := good_in (List.mem_append_right _ (List.mem_append_right _ (List.mem_append_right _ (List.mem_append_right _ (List.mem_append_left _ (List.mem_of_getElem? (i := 49) (l := tables_1_4) rfl)))))) rfl
set_option maxHeartbeats 4000000 in
set_option maxRecDepth 100000 in
theorem mC_583 : (Cond.instanceMethod ({ cls := "KindRounds$Parser", name := "parseTold", desc := "()Z" } : Jvm.MethodName)) ∈ lw_good := good_in (List.mem_append_right _ (List.mem_append_right _ (List.mem_append_right _ (List.mem_append_right _ (List.mem_append_left _ (List.mem_of_getElem? (i := 48) (l := tables_1_4) rfl)))))) rfl
set_option maxHeartbeats 4000000 in
set_option maxRecDepth 100000 in
theorem mC_584 : Cond.selects "KindRounds$Parser" ⟨"KindRounds$Parser", "parseTold", "()Z"⟩ ⟨"KindRounds$Parser", "parseTold", "()Z"⟩ ∈ lw_good := good_in (List.mem_append_left _ (List.mem_of_getElem? (i := 37) (l := k2_sels lw_privs) (by decide +kernel))) rfl
set_option maxHeartbeats 4000000 in
set_option maxRecDepth 100000 in
theorem mC_585 : (Cond.code ({ cls := "KindRounds$Parser", name := "parseKind", desc := "(I)I" } : Jvm.MethodName) prog_7_method_13_code (7 : Nat) (Option.some Jvm.ClassFile.FieldType.int)) ∈ lw_good := good_in (List.mem_append_right _ (List.mem_append_right _ (List.mem_append_right _ (List.mem_append_right _ (List.mem_append_left _ (List.mem_of_getElem? (i := 53) (l := tables_1_4) rfl)))))) rfl
set_option maxHeartbeats 4000000 in
set_option maxRecDepth 100000 in
theorem mC_586 : (Cond.instanceMethod ({ cls := "KindRounds$Parser", name := "parseKind", desc := "(I)I" } : Jvm.MethodName)) ∈ lw_good := good_in (List.mem_append_right _ (List.mem_append_right _ (List.mem_append_right _ (List.mem_append_right _ (List.mem_append_left _ (List.mem_of_getElem? (i := 52) (l := tables_1_4) rfl)))))) rfl
set_option maxHeartbeats 4000000 in
set_option maxRecDepth 100000 in
theorem mC_587 : Cond.selects "KindRounds$Parser" ⟨"KindRounds$Parser", "parseKind", "(I)I"⟩ ⟨"KindRounds$Parser", "parseKind", "(I)I"⟩ ∈ lw_good := good_in (List.mem_append_left _ (List.mem_of_getElem? (i := 38) (l := k2_sels lw_privs) (by decide +kernel))) rfl
set_option maxHeartbeats 4000000 in
set_option maxRecDepth 100000 in
theorem mC_588 : (Cond.code ({ cls := "KindRounds$Parser", name := "parsePart", desc := "(I)I" } : Jvm.MethodName) prog_7_method_14_code (4 : Nat) (Option.some Jvm.ClassFile.FieldType.int)) ∈ lw_good := good_in (List.mem_append_right _ (List.mem_append_right _ (List.mem_append_right _ (List.mem_append_right _ (List.mem_append_left _ (List.mem_of_getElem? (i := 57) (l := tables_1_4) rfl)))))) rfl
set_option maxHeartbeats 4000000 in
set_option maxRecDepth 100000 in
theorem mC_589 : (Cond.instanceMethod ({ cls := "KindRounds$Parser", name := "parsePart", desc := "(I)I" } : Jvm.MethodName)) ∈ lw_good := good_in (List.mem_append_right _ (List.mem_append_right _ (List.mem_append_right _ (List.mem_append_right _ (List.mem_append_left _ (List.mem_of_getElem? (i := 56) (l := tables_1_4) rfl)))))) rfl
set_option maxHeartbeats 4000000 in
set_option maxRecDepth 100000 in
theorem mC_590 : Cond.selects "KindRounds$Parser" ⟨"KindRounds$Parser", "parsePart", "(I)I"⟩ ⟨"KindRounds$Parser", "parsePart", "(I)I"⟩ ∈ lw_good := good_in (List.mem_append_left _ (List.mem_of_getElem? (i := 39) (l := k2_sels lw_privs) (by decide +kernel))) rfl
set_option maxHeartbeats 4000000 in
set_option maxRecDepth 100000 in
theorem mC_591 : (Cond.code ({ cls := "KindRounds$Parser", name := "parseType", desc := "(I)Z" } : Jvm.MethodName) prog_7_method_15_code (4 : Nat) (Option.some Jvm.ClassFile.FieldType.boolean)) ∈ lw_good := good_in (List.mem_append_right _ (List.mem_append_right _ (List.mem_append_right _ (List.mem_append_right _ (List.mem_append_left _ (List.mem_of_getElem? (i := 21) (l := tables_1_4) rfl)))))) rfl
set_option maxHeartbeats 4000000 in
set_option maxRecDepth 100000 in
theorem mC_592 : (Cond.instanceMethod ({ cls := "KindRounds$Parser", name := "parseType", desc := "(I)Z" } : Jvm.MethodName)) ∈ lw_good := good_in (List.mem_append_right _ (List.mem_append_right _ (List.mem_append_right _ (List.mem_append_right _ (List.mem_append_left _ (List.mem_of_getElem? (i := 20) (l := tables_1_4) rfl)))))) rfl
set_option maxHeartbeats 4000000 in
set_option maxRecDepth 100000 in
theorem mC_593 : Cond.selects "KindRounds$Parser" ⟨"KindRounds$Parser", "parseType", "(I)Z"⟩ ⟨"KindRounds$Parser", "parseType", "(I)Z"⟩ ∈ lw_good := good_in (List.mem_append_left _ (List.mem_of_getElem? (i := 31) (l := k2_sels lw_privs) (by decide +kernel))) rfl
set_option maxHeartbeats 4000000 in
set_option maxRecDepth 100000 in
theorem mC_594 : (Cond.code ({ cls := "KindRounds$Parser", name := "parseSome", desc := "(I)Z" } : Jvm.MethodName) prog_7_method_16_code (7 : Nat) (Option.some Jvm.ClassFile.FieldType.boolean)) ∈ lw_good := good_in (List.mem_append_right _ (List.mem_append_right _ (List.mem_append_right _ (List.mem_append_right _ (List.mem_append_left _ (List.mem_of_getElem? (i := 25) (l := tables_1_4) rfl)))))) rfl
set_option maxHeartbeats 4000000 in
set_option maxRecDepth 100000 in
theorem mC_595 : (Cond.instanceMethod ({ cls := "KindRounds$Parser", name := "parseSome", desc := "(I)Z" } : Jvm.MethodName)) ∈ lw_good := good_in (List.mem_append_right _ (List.mem_append_right _ (List.mem_append_right _ (List.mem_append_right _ (List.mem_append_left _ (List.mem_of_getElem? (i := 24) (l := tables_1_4) rfl)))))) rfl
set_option maxHeartbeats 4000000 in
set_option maxRecDepth 100000 in
theorem mC_596 : Cond.selects "KindRounds$Parser" ⟨"KindRounds$Parser", "parseSome", "(I)Z"⟩ ⟨"KindRounds$Parser", "parseSome", "(I)Z"⟩ ∈ lw_good := good_in (List.mem_append_left _ (List.mem_of_getElem? (i := 32) (l := k2_sels lw_privs) (by decide +kernel))) rfl
set_option maxHeartbeats 4000000 in
set_option maxRecDepth 100000 in
theorem mC_597 : (Cond.code ({ cls := "KindRounds$Parser", name := "startsOne", desc := "()Z" } : Jvm.MethodName) prog_7_method_17_code (2 : Nat) (Option.some Jvm.ClassFile.FieldType.boolean)) ∈ lw_good := good_in (List.mem_append_right _ (List.mem_append_right _ (List.mem_append_right _ (List.mem_append_right _ (List.mem_append_left _ (List.mem_of_getElem? (i := 5) (l := tables_1_4) rfl)))))) rfl
set_option maxHeartbeats 4000000 in
set_option maxRecDepth 100000 in
theorem mC_598 : (Cond.instanceMethod ({ cls := "KindRounds$Parser", name := "startsOne", desc := "()Z" } : Jvm.MethodName)) ∈ lw_good := good_in (List.mem_append_right _ (List.mem_append_right _ (List.mem_append_right _ (List.mem_append_right _ (List.mem_append_left _ (List.mem_of_getElem? (i := 4) (l := tables_1_4) rfl)))))) rfl
set_option maxHeartbeats 4000000 in
set_option maxRecDepth 100000 in
theorem mC_599 : Cond.selects "KindRounds$Parser" ⟨"KindRounds$Parser", "startsOne", "()Z"⟩ ⟨"KindRounds$Parser", "startsOne", "()Z"⟩ ∈ lw_good := good_in (List.mem_append_left _ (List.mem_of_getElem? (i := 27) (l := k2_sels lw_privs) (by decide +kernel))) rfl
set_option maxHeartbeats 4000000 in
set_option maxRecDepth 100000 in
theorem mC_600 : (Cond.code ({ cls := "KindRounds$Parser", name := "parseOne", desc := "(I)Z" } : Jvm.MethodName) prog_7_method_18_code (5 : Nat) (Option.some Jvm.ClassFile.FieldType.boolean)) ∈ lw_good := good_in (List.mem_append_right _ (List.mem_append_right _ (List.mem_append_right _ (List.mem_append_right _ (List.mem_append_left _ (List.mem_of_getElem? (i := 13) (l := tables_1_4) rfl)))))) rfl
set_option maxHeartbeats 4000000 in
set_option maxRecDepth 100000 in
theorem mC_601 : (Cond.instanceMethod ({ cls := "KindRounds$Parser", name := "parseOne", desc := "(I)Z" } : Jvm.MethodName)) ∈ lw_good := good_in (List.mem_append_right _ (List.mem_append_right _ (List.mem_append_right _ (List.mem_append_right _ (List.mem_append_left _ (List.mem_of_getElem? (i := 12) (l := tables_1_4) rfl)))))) rfl
set_option maxHeartbeats 4000000 in
set_option maxRecDepth 100000 in
theorem mC_602 : Cond.selects "KindRounds$Parser" ⟨"KindRounds$Parser", "parseOne", "(I)Z"⟩ ⟨"KindRounds$Parser", "parseOne", "(I)Z"⟩ ∈ lw_good := good_in (List.mem_append_left _ (List.mem_of_getElem? (i := 29) (l := k2_sels lw_privs) (by decide +kernel))) rfl
set_option maxHeartbeats 4000000 in
set_option maxRecDepth 100000 in
theorem mC_603 : (Cond.code ({ cls := "KindRounds$Checker", name := "checkText", desc := "()V" } : Jvm.MethodName) prog_2_method_2_code (1 : Nat) (Option.none : Option Jvm.ClassFile.FieldType)) ∈ lw_good := good_in (List.mem_append_right _ (List.mem_append_right _ (List.mem_append_right _ (List.mem_append_right _ (List.mem_append_left _ (List.mem_of_getElem? (i := 65) (l := tables_1_4) rfl)))))) rfl
set_option maxHeartbeats 4000000 in
set_option maxRecDepth 100000 in
theorem mC_604 : (Cond.initialized "KindRounds$Checker") ∈ lw_good := good_in (List.mem_append_right _ (List.mem_append_left _ (List.mem_of_getElem? (i := 10) (l := tables_1_1) rfl))) rfl
set_option maxHeartbeats 4000000 in
set_option maxRecDepth 100000 in
theorem mC_605 : (Cond.instanceMethod ({ cls := "KindRounds$Checker", name := "checkText", desc := "()V" } : Jvm.MethodName)) ∈ lw_good := good_in (List.mem_append_right _ (List.mem_append_right _ (List.mem_append_right _ (List.mem_append_right _ (List.mem_append_left _ (List.mem_of_getElem? (i := 64) (l := tables_1_4) rfl)))))) rfl
set_option maxHeartbeats 4000000 in
set_option maxRecDepth 100000 in
theorem mC_606 : Cond.selects "KindRounds$Checker" ⟨"KindRounds$Checker", "checkText", "()V"⟩ ⟨"KindRounds$Checker", "checkText", "()V"⟩ ∈ lw_good := good_in (List.mem_append_left _ (List.mem_of_getElem? (i := 41) (l := k2_sels lw_privs) (by decide +kernel))) rfl
set_option maxHeartbeats 4000000 in
set_option maxRecDepth 100000 in
theorem mC_607 : (Cond.code ({ cls := "KindRounds$Checker", name := "checkTypes", desc := "()V" } : Jvm.MethodName) prog_2_method_3_code (1 : Nat) (Option.none : Option Jvm.ClassFile.FieldType)) ∈ lw_good := good_in (List.mem_append_right _ (List.mem_append_right _ (List.mem_append_right _ (List.mem_append_right _ (List.mem_append_right _ (List.mem_append_left _ (List.mem_of_getElem? (i := 125) (l := tables_1_5) rfl))))))) rfl
set_option maxHeartbeats 4000000 in
set_option maxRecDepth 100000 in
theorem mC_608 : (Cond.instanceMethod ({ cls := "KindRounds$Checker", name := "checkTypes", desc := "()V" } : Jvm.MethodName)) ∈ lw_good := good_in (List.mem_append_right _ (List.mem_append_right _ (List.mem_append_right _ (List.mem_append_right _ (List.mem_append_right _ (List.mem_append_left _ (List.mem_of_getElem? (i := 124) (l := tables_1_5) rfl))))))) rfl
set_option maxHeartbeats 4000000 in
set_option maxRecDepth 100000 in
theorem mC_609 : Cond.selects "KindRounds$Checker" ⟨"KindRounds$Checker", "checkTypes", "()V"⟩ ⟨"KindRounds$Checker", "checkTypes", "()V"⟩ ∈ lw_good := good_in (List.mem_append_left _ (List.mem_of_getElem? (i := 100) (l := k2_sels lw_privs) (by decide +kernel))) rfl
set_option maxHeartbeats 4000000 in
set_option maxRecDepth 100000 in
theorem mC_610 : (Cond.code ({ cls := "KindRounds$Checker", name := "checkNames", desc := "()V" } : Jvm.MethodName) prog_2_method_4_code (2 : Nat) (Option.none : Option Jvm.ClassFile.FieldType)) ∈ lw_good := good_in (List.mem_append_right _ (List.mem_append_right _ (List.mem_append_right _ (List.mem_append_right _ (List.mem_append_left _ (List.mem_of_getElem? (i := 69) (l := tables_1_4) rfl)))))) rfl
set_option maxHeartbeats 4000000 in
set_option maxRecDepth 100000 in
theorem mC_611 : (Cond.instanceMethod ({ cls := "KindRounds$Checker", name := "checkNames", desc := "()V" } : Jvm.MethodName)) ∈ lw_good := good_in (List.mem_append_right _ (List.mem_append_right _ (List.mem_append_right _ (List.mem_append_right _ (List.mem_append_left _ (List.mem_of_getElem? (i := 68) (l := tables_1_4) rfl)))))) rfl
set_option maxHeartbeats 4000000 in
set_option maxRecDepth 100000 in
theorem mC_612 : Cond.selects "KindRounds$Checker" ⟨"KindRounds$Checker", "checkNames", "()V"⟩ ⟨"KindRounds$Checker", "checkNames", "()V"⟩ ∈ lw_good := good_in (List.mem_append_left _ (List.mem_of_getElem? (i := 42) (l := k2_sels lw_privs) (by decide +kernel))) rfl
set_option maxHeartbeats 4000000 in
set_option maxRecDepth 100000 in
theorem mC_613 : (Cond.code ({ cls := "KindRounds$Checker", name := "isBadName", desc := "(I)Z" } : Jvm.MethodName) prog_2_method_5_code (4 : Nat) (Option.some Jvm.ClassFile.FieldType.boolean)) ∈ lw_good := good_in (List.mem_append_right _ (List.mem_append_right _ (List.mem_append_right _ (List.mem_append_right _ (List.mem_append_left _ (List.mem_of_getElem? (i := 77) (l := tables_1_4) rfl)))))) rfl
set_option maxHeartbeats 4000000 in
set_option maxRecDepth 100000 in
theorem mC_614 : (Cond.instanceMethod ({ cls := "KindRounds$Checker", name := "isBadName", desc := "(I)Z" } : Jvm.MethodName)) ∈ lw_good := good_in (List.mem_append_right _ (List.mem_append_right _ (List.mem_append_right _ (List.mem_append_right _ (List.mem_append_left _ (List.mem_of_getElem? (i := 76) (l := tables_1_4) rfl)))))) rfl
set_option maxHeartbeats 4000000 in
set_option maxRecDepth 100000 in
theorem mC_615 : Cond.selects "KindRounds$Checker" ⟨"KindRounds$Checker", "isBadName", "(I)Z"⟩ ⟨"KindRounds$Checker", "isBadName", "(I)Z"⟩ ∈ lw_good := good_in (List.mem_append_left _ (List.mem_of_getElem? (i := 44) (l := k2_sels lw_privs) (by decide +kernel))) rfl
set_option maxHeartbeats 4000000 in
set_option maxRecDepth 100000 in
theorem mC_616 : (Cond.code ({ cls := "KindRounds$Checker", name := "isStrange", desc := "(IJ)Z" } : Jvm.MethodName) prog_2_method_6_code (4 : Nat) (Option.some Jvm.ClassFile.FieldType.boolean)) ∈ lw_good := good_in (List.mem_append_right _ (List.mem_append_right _ (List.mem_append_right _ (List.mem_append_right _ (List.mem_append_left _ (List.mem_of_getElem? (i := 94) (l := tables_1_4) rfl)))))) rfl
set_option maxHeartbeats 4000000 in
set_option maxRecDepth 100000 in
theorem mC_617 : (Cond.instanceMethod ({ cls := "KindRounds$Checker", name := "isStrange", desc := "(IJ)Z" } : Jvm.MethodName)) ∈ lw_good := good_in (List.mem_append_right _ (List.mem_append_right _ (List.mem_append_right _ (List.mem_append_right _ (List.mem_append_left _ (List.mem_of_getElem? (i := 93) (l := tables_1_4) rfl)))))) rfl
set_option maxHeartbeats 4000000 in
set_option maxRecDepth 100000 in
theorem mC_618 : Cond.selects "KindRounds$Checker" ⟨"KindRounds$Checker", "isStrange", "(IJ)Z"⟩ ⟨"KindRounds$Checker", "isStrange", "(IJ)Z"⟩ ∈ lw_good := good_in (List.mem_append_left _ (List.mem_of_getElem? (i := 48) (l := k2_sels lw_privs) (by decide +kernel))) rfl
set_option maxHeartbeats 4000000 in
set_option maxRecDepth 100000 in
theorem mC_619 : (Cond.code ({ cls := "KindRounds$Checker", name := "noteNames", desc := "()V" } : Jvm.MethodName) prog_2_method_7_code (4 : Nat) (Option.none : Option Jvm.ClassFile.FieldType)) ∈ lw_good := good_in (List.mem_append_right _ (List.mem_append_right _ (List.mem_append_right _ (List.mem_append_right _ (List.mem_append_left _ (List.mem_of_getElem? (i := 107) (l := tables_1_4) rfl)))))) rfl
set_option maxHeartbeats 4000000 in
set_option maxRecDepth 100000 in
theorem mC_620 : (Cond.instanceMethod ({ cls := "KindRounds$Checker", name := "noteNames", desc := "()V" } : Jvm.MethodName)) ∈ lw_good := good_in (List.mem_append_right _ (List.mem_append_right _ (List.mem_append_right _ (List.mem_append_right _ (List.mem_append_left _ (List.mem_of_getElem? (i := 106) (l := tables_1_4) rfl)))))) rfl
set_option maxHeartbeats 4000000 in
set_option maxRecDepth 100000 in
theorem mC_621 : Cond.selects "KindRounds$Checker" ⟨"KindRounds$Checker", "noteNames", "()V"⟩ ⟨"KindRounds$Checker", "noteNames", "()V"⟩ ∈ lw_good := good_in (List.mem_append_left _ (List.mem_of_getElem? (i := 51) (l := k2_sels lw_privs) (by decide +kernel))) rfl
set_option maxHeartbeats 4000000 in
set_option maxRecDepth 100000 in
theorem mC_622 : (Cond.code ({ cls := "KindRounds$Checker", name := "checkRings", desc := "()V" } : Jvm.MethodName) prog_2_method_8_code (3 : Nat) (Option.none : Option Jvm.ClassFile.FieldType)) ∈ lw_good := good_in (List.mem_append_right _ (List.mem_append_right _ (List.mem_append_right _ (List.mem_append_right _ (List.mem_append_left _ (List.mem_of_getElem? (i := 111) (l := tables_1_4) rfl)))))) rfl
set_option maxHeartbeats 4000000 in
set_option maxRecDepth 100000 in
theorem mC_623 : (Cond.instanceMethod ({ cls := "KindRounds$Checker", name := "checkRings", desc := "()V" } : Jvm.MethodName)) ∈ lw_good := good_in (List.mem_append_right _ (List.mem_append_right _ (List.mem_append_right _ (List.mem_append_right _ (List.mem_append_left _ (List.mem_of_getElem? (i := 110) (l := tables_1_4) rfl)))))) rfl
set_option maxHeartbeats 4000000 in
set_option maxRecDepth 100000 in
theorem mC_624 : Cond.selects "KindRounds$Checker" ⟨"KindRounds$Checker", "checkRings", "()V"⟩ ⟨"KindRounds$Checker", "checkRings", "()V"⟩ ∈ lw_good := good_in (List.mem_append_left _ (List.mem_of_getElem? (i := 52) (l := k2_sels lw_privs) (by decide +kernel))) rfl
set_option maxHeartbeats 4000000 in
set_option maxRecDepth 100000 in
theorem mC_625 : (Cond.code ({ cls := "KindRounds$Checker", name := "checkLacks", desc := "()V" } : Jvm.MethodName) prog_2_method_9_code (4 : Nat) (Option.none : Option Jvm.ClassFile.FieldType)) ∈ lw_good := good_in (List.mem_append_right _ (List.mem_append_right _ (List.mem_append_right _ (List.mem_append_right _ (List.mem_append_left _ (List.mem_of_getElem? (i := 119) (l := tables_1_4) rfl)))))) rfl
set_option maxHeartbeats 4000000 in
set_option maxRecDepth 100000 in
theorem mC_626 : (Cond.instanceMethod ({ cls := "KindRounds$Checker", name := "checkLacks", desc := "()V" } : Jvm.MethodName)) ∈ lw_good := good_in (List.mem_append_right _ (List.mem_append_right _ (List.mem_append_right _ (List.mem_append_right _ (List.mem_append_left _ (List.mem_of_getElem? (i := 118) (l := tables_1_4) rfl)))))) rfl
set_option maxHeartbeats 4000000 in
set_option maxRecDepth 100000 in
theorem mC_627 : Cond.selects "KindRounds$Checker" ⟨"KindRounds$Checker", "checkLacks", "()V"⟩ ⟨"KindRounds$Checker", "checkLacks", "()V"⟩ ∈ lw_good := good_in (List.mem_append_left _ (List.mem_of_getElem? (i := 54) (l := k2_sels lw_privs) (by decide +kernel))) rfl
set_option maxHeartbeats 4000000 in
set_option maxRecDepth 100000 in
theorem mC_628 : (Cond.code ({ cls := "KindRounds$Solver", name := "solveText", desc := "()V" } : Jvm.MethodName) prog_10_method_2_code (3 : Nat) (Option.none : Option Jvm.ClassFile.FieldType)) ∈ lw_good := good_in (List.mem_append_right _ (List.mem_append_right _ (List.mem_append_right _ (List.mem_append_right _ (List.mem_append_left _ (List.mem_of_getElem? (i := 143) (l := tables_1_4) rfl)))))) rfl
set_option maxHeartbeats 4000000 in
set_option maxRecDepth 100000 in
theorem mC_629 : (Cond.initialized "KindRounds$Solver") ∈ lw_good := good_in (List.mem_append_right _ (List.mem_append_left _ (List.mem_of_getElem? (i := 11) (l := tables_1_1) rfl))) rfl
set_option maxHeartbeats 4000000 in
set_option maxRecDepth 100000 in
theorem mC_630 : (Cond.instanceMethod ({ cls := "KindRounds$Solver", name := "solveText", desc := "()V" } : Jvm.MethodName)) ∈ lw_good := good_in (List.mem_append_right _ (List.mem_append_right _ (List.mem_append_right _ (List.mem_append_right _ (List.mem_append_left _ (List.mem_of_getElem? (i := 142) (l := tables_1_4) rfl)))))) rfl
set_option maxHeartbeats 4000000 in
set_option maxRecDepth 100000 in
theorem mC_631 : Cond.selects "KindRounds$Solver" ⟨"KindRounds$Solver", "solveText", "()V"⟩ ⟨"KindRounds$Solver", "solveText", "()V"⟩ ∈ lw_good := good_in (List.mem_append_left _ (List.mem_of_getElem? (i := 59) (l := k2_sels lw_privs) (by decide +kernel))) rfl
set_option maxHeartbeats 4000000 in
set_option maxRecDepth 100000 in
theorem mC_632 : (Cond.code ({ cls := "KindRounds$Solver", name := "solveAsked", desc := "(LKindRounds$Row;I)V" } : Jvm.MethodName) prog_10_method_3_code (3 : Nat) (Option.none : Option Jvm.ClassFile.FieldType)) ∈ lw_good := good_in (List.mem_append_right _ (List.mem_append_right _ (List.mem_append_right _ (List.mem_append_right _ (List.mem_append_right _ (List.mem_append_left _ (List.mem_of_getElem? (i := 129) (l := tables_1_5) rfl))))))) rfl
set_option maxHeartbeats 4000000 in
set_option maxRecDepth 100000 in
theorem mC_633 : (Cond.instanceMethod ({ cls := "KindRounds$Solver", name := "solveAsked", desc := "(LKindRounds$Row;I)V" } : Jvm.MethodName)) ∈ lw_good := good_in (List.mem_append_right _ (List.mem_append_right _ (List.mem_append_right _ (List.mem_append_right _ (List.mem_append_right _ (List.mem_append_left _ (List.mem_of_getElem? (i := 128) (l := tables_1_5) rfl))))))) rfl
set_option maxHeartbeats 4000000 in
set_option maxRecDepth 100000 in
theorem mC_634 : Cond.selects "KindRounds$Solver" ⟨"KindRounds$Solver", "solveAsked", "(LKindRounds$Row;I)V"⟩ ⟨"KindRounds$Solver", "solveAsked", "(LKindRounds$Row;I)V"⟩ ∈ lw_good := good_in (List.mem_append_left _ (List.mem_of_getElem? (i := 101) (l := k2_sels lw_privs) (by decide +kernel))) rfl
set_option maxHeartbeats 4000000 in
set_option maxRecDepth 100000 in
theorem mC_635 : (Cond.code ({ cls := "KindRounds$Solver", name := "solveListed", desc := "()V" } : Jvm.MethodName) prog_10_method_4_code (2 : Nat) (Option.none : Option Jvm.ClassFile.FieldType)) ∈ lw_good := good_in (List.mem_append_right _ (List.mem_append_right _ (List.mem_append_right _ (List.mem_append_right _ (List.mem_append_left _ (List.mem_of_getElem? (i := 205) (l := tables_1_4) rfl)))))) rfl
set_option maxHeartbeats 4000000 in
set_option maxRecDepth 100000 in
theorem mC_636 : (Cond.instanceMethod ({ cls := "KindRounds$Solver", name := "solveListed", desc := "()V" } : Jvm.MethodName)) ∈ lw_good := good_in (List.mem_append_right _ (List.mem_append_right _ (List.mem_append_right _ (List.mem_append_right _ (List.mem_append_left _ (List.mem_of_getElem? (i := 204) (l := tables_1_4) rfl)))))) rfl
set_option maxHeartbeats 4000000 in
set_option maxRecDepth 100000 in
theorem mC_637 : Cond.selects "KindRounds$Solver" ⟨"KindRounds$Solver", "solveListed", "()V"⟩ ⟨"KindRounds$Solver", "solveListed", "()V"⟩ ∈ lw_good := good_in (List.mem_append_left _ (List.mem_of_getElem? (i := 73) (l := k2_sels lw_privs) (by decide +kernel))) rfl
set_option maxHeartbeats 4000000 in
set_option maxRecDepth 100000 in
theorem mC_638 : (Cond.code ({ cls := "KindRounds$Solver", name := "makeKinds", desc := "(I)V" } : Jvm.MethodName) prog_10_method_5_code (4 : Nat) (Option.none : Option Jvm.ClassFile.FieldType)) ∈ lw_good := good_in (List.mem_append_right _ (List.mem_append_right _ (List.mem_append_right _ (List.mem_append_right _ (List.mem_append_left _ (List.mem_of_getElem? (i := 148) (l := tables_1_4) rfl)))))) rfl
set_option maxHeartbeats 4000000 in
set_option maxRecDepth 100000 in
theorem mC_639 : (Cond.instanceMethod ({ cls := "KindRounds$Solver", name := "makeKinds", desc := "(I)V" } : Jvm.MethodName)) ∈ lw_good := good_in (List.mem_append_right _ (List.mem_append_right _ (List.mem_append_right _ (List.mem_append_right _ (List.mem_append_left _ (List.mem_of_getElem? (i := 147) (l := tables_1_4) rfl)))))) rfl
set_option maxHeartbeats 4000000 in
set_option maxRecDepth 100000 in
theorem mC_640 : Cond.selects "KindRounds$Solver" ⟨"KindRounds$Solver", "makeKinds", "(I)V"⟩ ⟨"KindRounds$Solver", "makeKinds", "(I)V"⟩ ∈ lw_good := good_in (List.mem_append_left _ (List.mem_of_getElem? (i := 60) (l := k2_sels lw_privs) (by decide +kernel))) rfl
set_option maxHeartbeats 4000000 in
set_option maxRecDepth 100000 in
theorem mC_641 : (Cond.code ({ cls := "KindRounds$Solver", name := "wholeKind", desc := "(I)I" } : Jvm.MethodName) prog_10_method_6_code (5 : Nat) (Option.some Jvm.ClassFile.FieldType.int)) ∈ lw_good := good_in (List.mem_append_right _ (List.mem_append_right _ (List.mem_append_right _ (List.mem_append_right _ (List.mem_append_left _ (List.mem_of_getElem? (i := 156) (l := tables_1_4) rfl)))))) rfl
set_option maxHeartbeats 4000000 in
set_option maxRecDepth 100000 in
theorem mC_642 : (Cond.instanceMethod ({ cls := "KindRounds$Solver", name := "wholeKind", desc := "(I)I" } : Jvm.MethodName)) ∈ lw_good := good_in (List.mem_append_right _ (List.mem_append_right _ (List.mem_append_right _ (List.mem_append_right _ (List.mem_append_left _ (List.mem_of_getElem? (i := 155) (l := tables_1_4) rfl)))))) rfl
set_option maxHeartbeats 4000000 in
set_option maxRecDepth 100000 in
theorem mC_643 : Cond.selects "KindRounds$Solver" ⟨"KindRounds$Solver", "wholeKind", "(I)I"⟩ ⟨"KindRounds$Solver", "wholeKind", "(I)I"⟩ ∈ lw_good := good_in (List.mem_append_left _ (List.mem_of_getElem? (i := 62) (l := k2_sels lw_privs) (by decide +kernel))) rfl
set_option maxHeartbeats 4000000 in
set_option maxRecDepth 100000 in
theorem mC_644 : (Cond.code ({ cls := "KindRounds$Solver", name := "countOpens", desc := "(I)V" } : Jvm.MethodName) prog_10_method_7_code (4 : Nat) (Option.none : Option Jvm.ClassFile.FieldType)) ∈ lw_good := good_in (List.mem_append_right _ (List.mem_append_right _ (List.mem_append_right _ (List.mem_append_right _ (List.mem_append_right _ (List.mem_append_left _ (List.mem_of_getElem? (i := 44) (l := tables_1_5) rfl))))))) rfl
set_option maxHeartbeats 4000000 in
set_option maxRecDepth 100000 in
theorem mC_645 : (Cond.instanceMethod ({ cls := "KindRounds$Solver", name := "countOpens", desc := "(I)V" } : Jvm.MethodName)) ∈ lw_good := good_in (List.mem_append_right _ (List.mem_append_right _ (List.mem_append_right _ (List.mem_append_right _ (List.mem_append_right _ (List.mem_append_left _ (List.mem_of_getElem? (i := 43) (l := tables_1_5) rfl))))))) rfl
set_option maxHeartbeats 4000000 in
set_option maxRecDepth 100000 in
theorem mC_646 : Cond.selects "KindRounds$Solver" ⟨"KindRounds$Solver", "countOpens", "(I)V"⟩ ⟨"KindRounds$Solver", "countOpens", "(I)V"⟩ ∈ lw_good := good_in (List.mem_append_left _ (List.mem_of_getElem? (i := 90) (l := k2_sels lw_privs) (by decide +kernel))) rfl
set_option maxHeartbeats 4000000 in
set_option maxRecDepth 100000 in
theorem mC_647 : (Cond.code ({ cls := "KindRounds$Solver", name := "listTold", desc := "(I)V" } : Jvm.MethodName) prog_10_method_8_code (4 : Nat) (Option.none : Option Jvm.ClassFile.FieldType)) ∈ lw_good := good_in (List.mem_append_right _ (List.mem_append_right _ (List.mem_append_right _ (List.mem_append_right _ (List.mem_append_left _ (List.mem_of_getElem? (i := 161) (l := tables_1_4) rfl)))))) rfl
set_option maxHeartbeats 4000000 in
set_option maxRecDepth 100000 in
theorem mC_648 : (Cond.instanceMethod ({ cls := "KindRounds$Solver", name := "listTold", desc := "(I)V" } : Jvm.MethodName)) ∈ lw_good := good_in (List.mem_append_right _ (List.mem_append_right _ (List.mem_append_right _ (List.mem_append_right _ (List.mem_append_left _ (List.mem_of_getElem? (i := 160) (l := tables_1_4) rfl)))))) rfl
set_option maxHeartbeats 4000000 in
set_option maxRecDepth 100000 in
theorem mC_649 : Cond.selects "KindRounds$Solver" ⟨"KindRounds$Solver", "listTold", "(I)V"⟩ ⟨"KindRounds$Solver", "listTold", "(I)V"⟩ ∈ lw_good := good_in (List.mem_append_left _ (List.mem_of_getElem? (i := 63) (l := k2_sels lw_privs) (by decide +kernel))) rfl
set_option maxHeartbeats 4000000 in
set_option maxRecDepth 100000 in
theorem mC_650 : (Cond.code ({ cls := "KindRounds$Solver", name := "listMembers", desc := "(I)V" } : Jvm.MethodName) prog_10_method_9_code (5 : Nat) (Option.none : Option Jvm.ClassFile.FieldType)) ∈ lw_good := good_in (List.mem_append_right _ (List.mem_append_right _ (List.mem_append_right _ (List.mem_append_right _ (List.mem_append_left _ (List.mem_of_getElem? (i := 170) (l := tables_1_4) rfl)))))) rfl
set_option maxHeartbeats 4000000 in
set_option maxRecDepth 100000 in
theorem mC_651 : (Cond.instanceMethod ({ cls := "KindRounds$Solver", name := "listMembers", desc := "(I)V" } : Jvm.MethodName)) ∈ lw_good := good_in (List.mem_append_right _ (List.mem_append_right _ (List.mem_append_right _ (List.mem_append_right _ (List.mem_append_left _ (List.mem_of_getElem? (i := 169) (l := tables_1_4) rfl)))))) rfl
set_option maxHeartbeats 4000000 in
set_option maxRecDepth 100000 in
theorem mC_652 : Cond.selects "KindRounds$Solver" ⟨"KindRounds$Solver", "listMembers", "(I)V"⟩ ⟨"KindRounds$Solver", "listMembers", "(I)V"⟩ ∈ lw_good := good_in (List.mem_append_left _ (List.mem_of_getElem? (i := 65) (l := k2_sels lw_privs) (by decide +kernel))) rfl
set_option maxHeartbeats 4000000 in
set_option maxRecDepth 100000 in
theorem mC_653 : (Cond.code ({ cls := "KindRounds$Solver", name := "equate", desc := "(III)V" } : Jvm.MethodName) prog_10_method_10_code (4 : Nat) (Option.none : Option Jvm.ClassFile.FieldType)) ∈ lw_good := good_in (List.mem_append_right _ (List.mem_append_right _ (List.mem_append_right _ (List.mem_append_right _ (List.mem_append_left _ (List.mem_of_getElem? (i := 166) (l := tables_1_4) rfl)))))) rfl
set_option maxHeartbeats 4000000 in
set_option maxRecDepth 100000 in
theorem mC_654 : (Cond.instanceMethod ({ cls := "KindRounds$Solver", name := "equate", desc := "(III)V" } : Jvm.MethodName)) ∈ lw_good := good_in (List.mem_append_right _ (List.mem_append_right _ (List.mem_append_right _ (List.mem_append_right _ (List.mem_append_left _ (List.mem_of_getElem? (i := 165) (l := tables_1_4) rfl)))))) rfl
set_option maxHeartbeats 4000000 in
set_option maxRecDepth 100000 in
theorem mC_655 : Cond.selects "KindRounds$Solver" ⟨"KindRounds$Solver", "equate", "(III)V"⟩ ⟨"KindRounds$Solver", "equate", "(III)V"⟩ ∈ lw_good := good_in (List.mem_append_left _ (List.mem_of_getElem? (i := 64) (l := k2_sels lw_privs) (by decide +kernel))) rfl
set_option maxHeartbeats 4000000 in
set_option maxRecDepth 100000 in
theorem mC_656 : (Cond.code ({ cls := "KindRounds$Solver", name := "listTerm", desc := "(LKindRounds$Row;I)V" } : Jvm.MethodName) prog_10_method_11_code (6 : Nat) (Option.none : Option Jvm.ClassFile.FieldType)) ∈ lw_good := good_in (List.mem_append_right _ (List.mem_append_right _ (List.mem_append_right _ (List.mem_append_right _ (List.mem_append_left _ (List.mem_of_getElem? (i := 175) (l := tables_1_4) rfl)))))) rfl
set_option maxHeartbeats 4000000 in
set_option maxRecDepth 100000 in
theorem mC_657 : (Cond.instanceMethod ({ cls := "KindRounds$Solver", name := "listTerm", desc := "(LKindRounds$Row;I)V" } : Jvm.MethodName)) ∈ lw_good := good_in (List.mem_append_right _ (List.mem_append_right _ (List.mem_append_right _ (List.mem_append_right _ (List.mem_append_left _ (List.mem_of_getElem? (i := 174) (l := tables_1_4) rfl)))))) rfl
set_option maxHeartbeats 4000000 in
set_option maxRecDepth 100000 in
theorem mC_658 : Cond.selects "KindRounds$Solver" ⟨"KindRounds$Solver", "listTerm", "(LKindRounds$Row;I)V"⟩ ⟨"KindRounds$Solver", "listTerm", "(LKindRounds$Row;I)V"⟩ ∈ lw_good := good_in (List.mem_append_left _ (List.mem_of_getElem? (i := 66) (l := k2_sels lw_privs) (by decide +kernel))) rfl
set_option maxHeartbeats 4000000 in
set_option maxRecDepth 100000 in
theorem mC_659 : (Cond.code ({ cls := "KindRounds$Solver", name := "closeFrames", desc := "(LKindRounds$Row;)V" } : Jvm.MethodName) prog_10_method_12_code (4 : Nat) (Option.none : Option Jvm.ClassFile.FieldType)) ∈ lw_good := good_in (List.mem_append_right _ (List.mem_append_right _ (List.mem_append_right _ (List.mem_append_right _ (List.mem_append_left _ (List.mem_of_getElem? (i := 193) (l := tables_1_4) rfl)))))) rfl
set_option maxHeartbeats 4000000 in
set_option maxRecDepth 100000 in
theorem mC_660 : (Cond.instanceMethod ({ cls := "KindRounds$Solver", name := "closeFrames", desc := "(LKindRounds$Row;)V" } : Jvm.MethodName)) ∈ lw_good := good_in (List.mem_append_right _ (List.mem_append_right _ (List.mem_append_right _ (List.mem_append_right _ (List.mem_append_left _ (List.mem_of_getElem? (i := 192) (l := tables_1_4) rfl)))))) rfl
set_option maxHeartbeats 4000000 in
set_option maxRecDepth 100000 in
theorem mC_661 : Cond.selects "KindRounds$Solver" ⟨"KindRounds$Solver", "closeFrames", "(LKindRounds$Row;)V"⟩ ⟨"KindRounds$Solver", "closeFrames", "(LKindRounds$Row;)V"⟩ ∈ lw_good := good_in (List.mem_append_left _ (List.mem_of_getElem? (i := 70) (l := k2_sels lw_privs) (by decide +kernel))) rfl
set_option maxHeartbeats 4000000 in
set_option maxRecDepth 100000 in
theorem mC_662 : (Cond.code ({ cls := "KindRounds$Solver", name := "joinFrame", desc := "(LKindRounds$Row;III)V" } : Jvm.MethodName) prog_10_method_13_code (6 : Nat) (Option.none : Option Jvm.ClassFile.FieldType)) ∈ lw_good := good_in (List.mem_append_right _ (List.mem_append_right _ (List.mem_append_right _ (List.mem_append_right _ (List.mem_append_left _ (List.mem_of_getElem? (i := 197) (l := tables_1_4) rfl)))))) rfl
set_option maxHeartbeats 4000000 in
set_option maxRecDepth 100000 in
theorem mC_663 : (Cond.instanceMethod ({ cls := "KindRounds$Solver", name := "joinFrame", desc := "(LKindRounds$Row;III)V" } : Jvm.MethodName)) ∈ lw_good := good_in (List.mem_append_right _ (List.mem_append_right _ (List.mem_append_right _ (List.mem_append_right _ (List.mem_append_left _ (List.mem_of_getElem? (i := 196) (l := tables_1_4) rfl)))))) rfl
set_option maxHeartbeats 4000000 in
set_option maxRecDepth 100000 in
theorem mC_664 : Cond.selects "KindRounds$Solver" ⟨"KindRounds$Solver", "joinFrame", "(LKindRounds$Row;III)V"⟩ ⟨"KindRounds$Solver", "joinFrame", "(LKindRounds$Row;III)V"⟩ ∈ lw_good := good_in (List.mem_append_left _ (List.mem_of_getElem? (i := 71) (l := k2_sels lw_privs) (by decide +kernel))) rfl
set_option maxHeartbeats 4000000 in
set_option maxRecDepth 100000 in
theorem mC_665 : (Cond.code ({ cls := "KindRounds$Solver", name := "startKind", desc := "(LKindRounds$Row;II)I" } : Jvm.MethodName) prog_10_method_14_code (7 : Nat) (Option.some Jvm.ClassFile.FieldType.int)) ∈ lw_good := good_in (List.mem_append_right _ (List.mem_append_right _ (List.mem_append_right _ (List.mem_append_right _ (List.mem_append_left _ (List.mem_of_getElem? (i := 183) (l := tables_1_4) rfl)))))) rfl
set_option maxHeartbeats 4000000 in
set_option maxRecDepth 100000 in
theorem mC_666 : (Cond.instanceMethod ({ cls := "KindRounds$Solver", name := "startKind", desc := "(LKindRounds$Row;II)I" } : Jvm.MethodName)) ∈ lw_good := good_in (List.mem_append_right _ (List.mem_append_right _ (List.mem_append_right _ (List.mem_append_right _ (List.mem_append_left _ (List.mem_of_getElem? (i := 182) (l := tables_1_4) rfl)))))) rfl
set_option maxHeartbeats 4000000 in
set_option maxRecDepth 100000 in
theorem mC_667 : Cond.selects "KindRounds$Solver" ⟨"KindRounds$Solver", "startKind", "(LKindRounds$Row;II)I"⟩ ⟨"KindRounds$Solver", "startKind", "(LKindRounds$Row;II)I"⟩ ∈ lw_good := good_in (List.mem_append_left _ (List.mem_of_getElem? (i := 68) (l := k2_sels lw_privs) (by decide +kernel))) rfl
set_option maxHeartbeats 4000000 in
set_option maxRecDepth 100000 in
theorem mC_668 : (Cond.code ({ cls := "KindRounds$Solver", name := "freeKind", desc := "(J)I" } : Jvm.MethodName) prog_10_method_15_code (4 : Nat) (Option.some Jvm.ClassFile.FieldType.int)) ∈ lw_good := good_in (List.mem_append_right _ (List.mem_append_right _ (List.mem_append_right _ (List.mem_append_right _ (List.mem_append_left _ (List.mem_of_getElem? (i := 189) (l := tables_1_4) rfl)))))) rfl
set_option maxHeartbeats 4000000 in
set_option maxRecDepth 100000 in
theorem mC_669 : (Cond.instanceMethod ({ cls := "KindRounds$Solver", name := "freeKind", desc := "(J)I" } : Jvm.MethodName)) ∈ lw_good := good_in (List.mem_append_right _ (List.mem_append_right _ (List.mem_append_right _ (List.mem_append_right _ (List.mem_append_left _ (List.mem_of_getElem? (i := 188) (l := tables_1_4) rfl)))))) rfl
set_option maxHeartbeats 4000000 in
set_option maxRecDepth 100000 in
theorem mC_670 : Cond.selects "KindRounds$Solver" ⟨"KindRounds$Solver", "freeKind", "(J)I"⟩ ⟨"KindRounds$Solver", "freeKind", "(J)I"⟩ ∈ lw_good := good_in (List.mem_append_left _ (List.mem_of_getElem? (i := 69) (l := k2_sels lw_privs) (by decide +kernel))) rfl
set_option maxHeartbeats 4000000 in
set_option maxRecDepth 100000 in
theorem mC_671 : (Cond.code ({ cls := "KindRounds$Plainer", name := "replaceAll", desc := "(LKindRounds$Row;I)Z" } : Jvm.MethodName) prog_8_method_2_code (7 : Nat) (Option.some Jvm.ClassFile.FieldType.boolean)) ∈ lw_good := good_in (List.mem_append_right _ (List.mem_append_right _ (List.mem_append_right _ (List.mem_append_right _ (List.mem_append_right _ (List.mem_append_left _ (List.mem_of_getElem? (i := 137) (l := tables_1_5) rfl))))))) rfl
set_option maxHeartbeats 4000000 in
set_option maxRecDepth 100000 in
theorem mC_672 : (Cond.initialized "KindRounds$Plainer") ∈ lw_good := good_in (List.mem_append_right _ (List.mem_append_left _ (List.mem_of_getElem? (i := 12) (l := tables_1_1) rfl))) rfl
set_option maxHeartbeats 4000000 in
set_option maxRecDepth 100000 in
theorem mC_673 : (Cond.instanceMethod ({ cls := "KindRounds$Plainer", name := "replaceAll", desc := "(LKindRounds$Row;I)Z" } : Jvm.MethodName)) ∈ lw_good := good_in (List.mem_append_right _ (List.mem_append_right _ (List.mem_append_right _ (List.mem_append_right _ (List.mem_append_right _ (List.mem_append_left _ (List.mem_of_getElem? (i := 136) (l := tables_1_5) rfl))))))) rfl
set_option maxHeartbeats 4000000 in
set_option maxRecDepth 100000 in
theorem mC_674 : Cond.selects "KindRounds$Plainer" ⟨"KindRounds$Plainer", "replaceAll", "(LKindRounds$Row;I)Z"⟩ ⟨"KindRounds$Plainer", "replaceAll", "(LKindRounds$Row;I)Z"⟩ ∈ lw_good := good_in (List.mem_append_left _ (List.mem_of_getElem? (i := 102) (l := k2_sels lw_privs) (by decide +kernel))) rfl
set_option maxHeartbeats 4000000 in
set_option maxRecDepth 100000 in
theorem mC_675 : (Cond.code ({ cls := "KindRounds$Plainer", name := "replace", desc := "(II)V" } : Jvm.MethodName) prog_8_method_3_code (6 : Nat) (Option.none : Option Jvm.ClassFile.FieldType)) ∈ lw_good := good_in (List.mem_append_right _ (List.mem_append_right _ (List.mem_append_right _ (List.mem_append_right _ (List.mem_append_right _ (List.mem_append_left _ (List.mem_of_getElem? (i := 149) (l := tables_1_5) rfl))))))) rfl
set_option maxHeartbeats 4000000 in
set_option maxRecDepth 100000 in
theorem mC_676 : (Cond.instanceMethod ({ cls := "KindRounds$Plainer", name := "replace", desc := "(II)V" } : Jvm.MethodName)) ∈ lw_good := good_in (List.mem_append_right _ (List.mem_append_right _ (List.mem_append_right _ (List.mem_append_right _ (List.mem_append_right _ (List.mem_append_left _ (List.mem_of_getElem? (i := 148) (l := tables_1_5) rfl))))))) rfl
set_option maxHeartbeats 4000000 in
set_option maxRecDepth 100000 in
theorem mC_677 : Cond.selects "KindRounds$Plainer" ⟨"KindRounds$Plainer", "replace", "(II)V"⟩ ⟨"KindRounds$Plainer", "replace", "(II)V"⟩ ∈ lw_good := good_in (List.mem_append_left _ (List.mem_of_getElem? (i := 104) (l := k2_sels lw_privs) (by decide +kernel))) rfl
set_option maxHeartbeats 4000000 in
set_option maxRecDepth 100000 in
theorem mC_678 : (Cond.code ({ cls := "KindRounds$Plainer", name := "copyRightSide", desc := "(I)V" } : Jvm.MethodName) prog_8_method_4_code (8 : Nat) (Option.none : Option Jvm.ClassFile.FieldType)) ∈ lw_good := good_in (List.mem_append_right _ (List.mem_append_right _ (List.mem_append_right _ (List.mem_append_right _ (List.mem_append_right _ (List.mem_append_left _ (List.mem_of_getElem? (i := 157) (l := tables_1_5) rfl))))))) rfl
set_option maxHeartbeats 4000000 in
set_option maxRecDepth 100000 in
theorem mC_679 : (Cond.instanceMethod ({ cls := "KindRounds$Plainer", name := "copyRightSide", desc := "(I)V" } : Jvm.MethodName)) ∈ lw_good := good_in (List.mem_append_right _ (List.mem_append_right _ (List.mem_append_right _ (List.mem_append_right _ (List.mem_append_right _ (List.mem_append_left _ (List.mem_of_getElem? (i := 156) (l := tables_1_5) rfl))))))) rfl
set_option maxHeartbeats 4000000 in
set_option maxRecDepth 100000 in
theorem mC_680 : Cond.selects "KindRounds$Plainer" ⟨"KindRounds$Plainer", "copyRightSide", "(I)V"⟩ ⟨"KindRounds$Plainer", "copyRightSide", "(I)V"⟩ ∈ lw_good := good_in (List.mem_append_left _ (List.mem_of_getElem? (i := 106) (l := k2_sels lw_privs) (by decide +kernel))) rfl
set_option maxHeartbeats 4000000 in
set_option maxRecDepth 100000 in
theorem mC_681 : (Cond.code ({ cls := "KindRounds$Plainer", name := "copyNodes", desc := "(LKindRounds$Row;IILKindRounds$Row;)V" } : Jvm.MethodName) prog_8_method_5_code (6 : Nat) (Option.none : Option Jvm.ClassFile.FieldType)) ∈ lw_good := good_in (List.mem_append_right _ (List.mem_append_right _ (List.mem_append_right _ (List.mem_append_right _ (List.mem_append_right _ (List.mem_append_left _ (List.mem_of_getElem? (i := 143) (l := tables_1_5) rfl))))))) rfl
set_option maxHeartbeats 4000000 in
set_option maxRecDepth 100000 in
theorem mC_682 : (Cond.instanceMethod ({ cls := "KindRounds$Plainer", name := "copyNodes", desc := "(LKindRounds$Row;IILKindRounds$Row;)V" } : Jvm.MethodName)) ∈ lw_good := good_in (List.mem_append_right _ (List.mem_append_right _ (List.mem_append_right _ (List.mem_append_right _ (List.mem_append_right _ (List.mem_append_left _ (List.mem_of_getElem? (i := 142) (l := tables_1_5) rfl))))))) rfl
set_option maxHeartbeats 4000000 in
set_option maxRecDepth 100000 in
theorem mC_683 : Cond.selects "KindRounds$Plainer" ⟨"KindRounds$Plainer", "copyNodes", "(LKindRounds$Row;IILKindRounds$Row;)V"⟩ ⟨"KindRounds$Plainer", "copyNodes", "(LKindRounds$Row;IILKindRounds$Row;)V"⟩ ∈ lw_good := good_in (List.mem_append_left _ (List.mem_of_getElem? (i := 103) (l := k2_sels lw_privs) (by decide +kernel))) rfl
set_option maxHeartbeats 4000000 in
set_option maxRecDepth 100000 in
theorem mC_684 : (Cond.code ({ cls := "KindRounds$Plainer", name := "keep", desc := "()V" } : Jvm.MethodName) prog_8_method_6_code (2 : Nat) (Option.none : Option Jvm.ClassFile.FieldType)) ∈ lw_good := good_in (List.mem_append_right _ (List.mem_append_right _ (List.mem_append_right _ (List.mem_append_right _ (List.mem_append_right _ (List.mem_append_left _ (List.mem_of_getElem? (i := 194) (l := tables_1_5) rfl))))))) rfl
set_option maxHeartbeats 4000000 in
set_option maxRecDepth 100000 in
theorem mC_685 : (Cond.instanceMethod ({ cls := "KindRounds$Plainer", name := "keep", desc := "()V" } : Jvm.MethodName)) ∈ lw_good := good_in (List.mem_append_right _ (List.mem_append_right _ (List.mem_append_right _ (List.mem_append_right _ (List.mem_append_right _ (List.mem_append_left _ (List.mem_of_getElem? (i := 193) (l := tables_1_5) rfl))))))) rfl
set_option maxHeartbeats 4000000 in
set_option maxRecDepth 100000 in
theorem mC_686 : Cond.selects "KindRounds$Plainer" ⟨"KindRounds$Plainer", "keep", "()V"⟩ ⟨"KindRounds$Plainer", "keep", "()V"⟩ ∈ lw_good := good_in (List.mem_append_left _ (List.mem_of_getElem? (i := 113) (l := k2_sels lw_privs) (by decide +kernel))) rfl
set_option maxHeartbeats 4000000 in
set_option maxRecDepth 100000 in
theorem mC_687 : (Cond.code ({ cls := "KindRounds$Plainer", name := "isAsKept", desc := "()Z" } : Jvm.MethodName) prog_8_method_7_code (1 : Nat) (Option.some Jvm.ClassFile.FieldType.boolean)) ∈ lw_good := good_in (List.mem_append_right _ (List.mem_append_right _ (List.mem_append_right _ (List.mem_append_right _ (List.mem_append_right _ (List.mem_append_left _ (List.mem_of_getElem? (i := 198) (l := tables_1_5) rfl))))))) rfl
set_option maxHeartbeats 4000000 in
set_option maxRecDepth 100000 in
theorem mC_688 : (Cond.instanceMethod ({ cls := "KindRounds$Plainer", name := "isAsKept", desc := "()Z" } : Jvm.MethodName)) ∈ lw_good := good_in (List.mem_append_right _ (List.mem_append_right _ (List.mem_append_right _ (List.mem_append_right _ (List.mem_append_right _ (List.mem_append_left _ (List.mem_of_getElem? (i := 197) (l := tables_1_5) rfl))))))) rfl
set_option maxHeartbeats 4000000 in
set_option maxRecDepth 100000 in
theorem mC_689 : Cond.selects "KindRounds$Plainer" ⟨"KindRounds$Plainer", "isAsKept", "()Z"⟩ ⟨"KindRounds$Plainer", "isAsKept", "()Z"⟩ ∈ lw_good := good_in (List.mem_append_left _ (List.mem_of_getElem? (i := 114) (l := k2_sels lw_privs) (by decide +kernel))) rfl
set_option maxHeartbeats 4000000 in
set_option maxRecDepth 100000 in
theorem mC_690 : (Cond.code ({ cls := "KindRounds$Plainer", name := "show", desc := "(LKindRounds$Line;)V" } : Jvm.MethodName) prog_8_method_8_code (3 : Nat) (Option.none : Option Jvm.ClassFile.FieldType)) ∈ lw_good := good_in (List.mem_append_right _ (List.mem_append_right _ (List.mem_append_right _ (List.mem_append_right _ (List.mem_append_right _ (List.mem_append_left _ (List.mem_of_getElem? (i := 166) (l := tables_1_5) rfl))))))) rfl
set_option maxHeartbeats 4000000 in
set_option maxRecDepth 100000 in
theorem mC_691 : (Cond.instanceMethod ({ cls := "KindRounds$Plainer", name := "show", desc := "(LKindRounds$Line;)V" } : Jvm.MethodName)) ∈ lw_good := good_in (List.mem_append_right _ (List.mem_append_right _ (List.mem_append_right _ (List.mem_append_right _ (List.mem_append_right _ (List.mem_append_left _ (List.mem_of_getElem? (i := 165) (l := tables_1_5) rfl))))))) rfl
set_option maxHeartbeats 4000000 in
set_option maxRecDepth 100000 in
theorem mC_692 : Cond.selects "KindRounds$Plainer" ⟨"KindRounds$Plainer", "show", "(LKindRounds$Line;)V"⟩ ⟨"KindRounds$Plainer", "show", "(LKindRounds$Line;)V"⟩ ∈ lw_good := good_in (List.mem_append_left _ (List.mem_of_getElem? (i := 108) (l := k2_sels lw_privs) (by decide +kernel))) rfl
set_option maxHeartbeats 4000000 in
set_option maxRecDepth 100000 in
theorem mC_693 : (Cond.code ({ cls := "KindRounds$Plainer", name := "beginNode", desc := "(ILKindRounds$Line;)V" } : Jvm.MethodName) prog_8_method_9_code (5 : Nat) (Option.none : Option Jvm.ClassFile.FieldType)) ∈ lw_good := good_in (List.mem_append_right _ (List.mem_append_right _ (List.mem_append_right _ (List.mem_append_right _ (List.mem_append_right _ (List.mem_append_left _ (List.mem_of_getElem? (i := 171) (l := tables_1_5) rfl))))))) rfl
set_option maxHeartbeats 4000000 in
set_option maxRecDepth 100000 in
theorem mC_694 : (Cond.instanceMethod ({ cls := "KindRounds$Plainer", name := "beginNode", desc := "(ILKindRounds$Line;)V" } : Jvm.MethodName)) ∈ lw_good := good_in (List.mem_append_right _ (List.mem_append_right _ (List.mem_append_right _ (List.mem_append_right _ (List.mem_append_right _ (List.mem_append_left _ (List.mem_of_getElem? (i := 170) (l := tables_1_5) rfl))))))) rfl
set_option maxHeartbeats 4000000 in
set_option maxRecDepth 100000 in
theorem mC_695 : Cond.selects "KindRounds$Plainer" ⟨"KindRounds$Plainer", "beginNode", "(ILKindRounds$Line;)V"⟩ ⟨"KindRounds$Plainer", "beginNode", "(ILKindRounds$Line;)V"⟩ ∈ lw_good := good_in (List.mem_append_left _ (List.mem_of_getElem? (i := 109) (l := k2_sels lw_privs) (by decide +kernel))) rfl
set_option maxHeartbeats 4000000 in
set_option maxRecDepth 100000 in
theorem mC_696 : (Cond.code ({ cls := "KindRounds$Plainer", name := "endNodes", desc := "(LKindRounds$Line;)V" } : Jvm.MethodName) prog_8_method_10_code (4 : Nat) (Option.none : Option Jvm.ClassFile.FieldType)) ∈ lw_good := good_in (List.mem_append_right _ (List.mem_append_right _ (List.mem_append_right _ (List.mem_append_right _ (List.mem_append_right _ (List.mem_append_left _ (List.mem_of_getElem? (i := 186) (l := tables_1_5) rfl))))))) rfl
set_option maxHeartbeats 4000000 in
set_option maxRecDepth 100000 in
theorem mC_697 : (Cond.instanceMethod ({ cls := "KindRounds$Plainer", name := "endNodes", desc := "(LKindRounds$Line;)V" } : Jvm.MethodName)) ∈ lw_good := good_in (List.mem_append_right _ (List.mem_append_right _ (List.mem_append_right _ (List.mem_append_right _ (List.mem_append_right _ (List.mem_append_left _ (List.mem_of_getElem? (i := 185) (l := tables_1_5) rfl))))))) rfl
set_option maxHeartbeats 4000000 in
set_option maxRecDepth 100000 in
theorem mC_698 : Cond.selects "KindRounds$Plainer" ⟨"KindRounds$Plainer", "endNodes", "(LKindRounds$Line;)V"⟩ ⟨"KindRounds$Plainer", "endNodes", "(LKindRounds$Line;)V"⟩ ∈ lw_good := good_in (List.mem_append_left _ (List.mem_of_getElem? (i := 112) (l := k2_sels lw_privs) (by decide +kernel))) rfl
set_option maxHeartbeats 4000000 in
set_option maxRecDepth 100000 in
theorem mC_699 : (Cond.code ({ cls := "KindRounds$Plainer", name := "isWrapped", desc := "(II)Z" } : Jvm.MethodName) prog_8_method_11_code (4 : Nat) (Option.some Jvm.ClassFile.FieldType.boolean)) ∈ lw_good := good_in (List.mem_append_right _ (List.mem_append_right _ (List.mem_append_right _ (List.mem_append_right _ (List.mem_append_right _ (List.mem_append_left _ (List.mem_of_getElem? (i := 178) (l := tables_1_5) rfl))))))) rfl
set_option maxHeartbeats 4000000 in
set_option maxRecDepth 100000 in
theorem mC_700 : (Cond.instanceMethod ({ cls := "KindRounds$Plainer", name := "isWrapped", desc := "(II)Z" } : Jvm.MethodName)) ∈ lw_good := good_in (List.mem_append_right _ (List.mem_append_right _ (List.mem_append_right _ (List.mem_append_right _ (List.mem_append_right _ (List.mem_append_left _ (List.mem_of_getElem? (i := 177) (l := tables_1_5) rfl))))))) rfl
set_option maxHeartbeats 4000000 in
set_option maxRecDepth 100000 in
theorem mC_701 : Cond.selects "KindRounds$Plainer" ⟨"KindRounds$Plainer", "isWrapped", "(II)Z"⟩ ⟨"KindRounds$Plainer", "isWrapped", "(II)Z"⟩ ∈ lw_good := good_in (List.mem_append_left _ (List.mem_of_getElem? (i := 110) (l := k2_sels lw_privs) (by decide +kernel))) rfl
set_option maxHeartbeats 4000000 in
set_option maxRecDepth 100000 in
theorem mC_702 : (Cond.code ({ cls := "KindRounds", name := "feed", desc := "(IIIII)I" } : Jvm.MethodName) prog_1_method_2_code (6 : Nat) (Option.some Jvm.ClassFile.FieldType.int)) ∈ lw_good := good_in (List.mem_append_right _ (List.mem_append_right _ (List.mem_append_right _ (List.mem_append_left _ (List.mem_of_getElem? (i := 20) (l := tables_1_3) rfl))))) rfl
set_option maxHeartbeats 4000000 in
set_option maxRecDepth 100000 in
theorem mC_703 : (Cond.initialized "KindRounds") ∈ lw_good := good_in (List.mem_append_right _ (List.mem_append_left _ (List.mem_of_getElem? (i := 1) (l := tables_1_1) rfl))) rfl
set_option maxHeartbeats 4000000 in
set_option maxRecDepth 100000 in
theorem mC_704 : (Cond.instanceMethod ({ cls := "KindRounds", name := "feed", desc := "(IIIII)I" } : Jvm.MethodName)) ∈ lw_good := good_in (List.mem_append_right _ (List.mem_append_right _ (List.mem_append_right _ (List.mem_append_left _ (List.mem_of_getElem? (i := 18) (l := tables_1_3) rfl))))) rfl
set_option maxHeartbeats 4000000 in
set_option maxRecDepth 100000 in
theorem mC_705 : (Cond.selects "KindRounds" ({ cls := "KindRounds", name := "feed", desc := "(IIIII)I" } : Jvm.MethodName) ({ cls := "KindRounds", name := "feed", desc := "(IIIII)I" } : Jvm.MethodName)) ∈ lw_good := good_in (List.mem_append_right _ (List.mem_append_right _ (List.mem_append_right _ (List.mem_append_left _ (List.mem_of_getElem? (i := 19) (l := tables_1_3) rfl))))) rfl
set_option maxHeartbeats 4000000 in
set_option maxRecDepth 100000 in
theorem mC_706 : (Cond.code ({ cls := "KindRounds", name := "cut", desc := "(I)I" } : Jvm.MethodName) prog_1_method_3_code (3 : Nat) (Option.some Jvm.ClassFile.FieldType.int)) ∈ lw_good := good_in (List.mem_append_right _ (List.mem_append_right _ (List.mem_append_right _ (List.mem_append_left _ (List.mem_of_getElem? (i := 32) (l := tables_1_3) rfl))))) rfl
set_option maxHeartbeats 4000000 in
set_option maxRecDepth 100000 in
theorem mC_707 : (Cond.instanceMethod ({ cls := "KindRounds", name := "cut", desc := "(I)I" } : Jvm.MethodName)) ∈ lw_good := good_in (List.mem_append_right _ (List.mem_append_right _ (List.mem_append_right _ (List.mem_append_left _ (List.mem_of_getElem? (i := 30) (l := tables_1_3) rfl))))) rfl
set_option maxHeartbeats 4000000 in
set_option maxRecDepth 100000 in
theorem mC_708 : (Cond.selects "KindRounds" ({ cls := "KindRounds", name := "cut", desc := "(I)I" } : Jvm.MethodName) ({ cls := "KindRounds", name := "cut", desc := "(I)I" } : Jvm.MethodName)) ∈ lw_good := good_in (List.mem_append_right _ (List.mem_append_right _ (List.mem_append_right _ (List.mem_append_left _ (List.mem_of_getElem? (i := 31) (l := tables_1_3) rfl))))) rfl
set_option maxHeartbeats 4000000 in
set_option maxRecDepth 100000 in
theorem mC_709 : (Cond.code ({ cls := "KindRounds", name := "read", desc := "()I" } : Jvm.MethodName) prog_1_method_4_code (1 : Nat) (Option.some Jvm.ClassFile.FieldType.int)) ∈ lw_good := good_in (List.mem_append_right _ (List.mem_append_right _ (List.mem_append_right _ (List.mem_append_left _ (List.mem_of_getElem? (i := 36) (l := tables_1_3) rfl))))) rfl
set_option maxHeartbeats 4000000 in
set_option maxRecDepth 100000 in
theorem mC_710 : (Cond.instanceMethod ({ cls := "KindRounds", name := "read", desc := "()I" } : Jvm.MethodName)) ∈ lw_good := good_in (List.mem_append_right _ (List.mem_append_right _ (List.mem_append_right _ (List.mem_append_left _ (List.mem_of_getElem? (i := 34) (l := tables_1_3) rfl))))) rfl
set_option maxHeartbeats 4000000 in
set_option maxRecDepth 100000 in
theorem mC_711 : (Cond.selects "KindRounds" ({ cls := "KindRounds", name := "read", desc := "()I" } : Jvm.MethodName) ({ cls := "KindRounds", name := "read", desc := "()I" } : Jvm.MethodName)) ∈ lw_good := good_in (List.mem_append_right _ (List.mem_append_right _ (List.mem_append_right _ (List.mem_append_left _ (List.mem_of_getElem? (i := 35) (l := tables_1_3) rfl))))) rfl
set_option maxHeartbeats 4000000 in
set_option maxRecDepth 100000 in
theorem mC_712 : (Cond.code ({ cls := "KindRounds", name := "place", desc := "()I" } : Jvm.MethodName) prog_1_method_5_code (1 : Nat) (Option.some Jvm.ClassFile.FieldType.int)) ∈ lw_good := good_in (List.mem_append_right _ (List.mem_append_right _ (List.mem_append_right _ (List.mem_append_right _ (List.mem_append_right _ (List.mem_append_left _ (List.mem_of_getElem? (i := 56) (l := tables_1_5) rfl))))))) rfl
set_option maxHeartbeats 4000000 in
set_option maxRecDepth 100000 in
theorem mC_713 : (Cond.instanceMethod ({ cls := "KindRounds", name := "place", desc := "()I" } : Jvm.MethodName)) ∈ lw_good := good_in (List.mem_append_right _ (List.mem_append_right _ (List.mem_append_right _ (List.mem_append_right _ (List.mem_append_right _ (List.mem_append_left _ (List.mem_of_getElem? (i := 54) (l := tables_1_5) rfl))))))) rfl
set_option maxHeartbeats 4000000 in
set_option maxRecDepth 100000 in
theorem mC_714 : (Cond.selects "KindRounds" ({ cls := "KindRounds", name := "place", desc := "()I" } : Jvm.MethodName) ({ cls := "KindRounds", name := "place", desc := "()I" } : Jvm.MethodName)) ∈ lw_good := good_in (List.mem_append_right _ (List.mem_append_right _ (List.mem_append_right _ (List.mem_append_right _ (List.mem_append_right _ (List.mem_append_left _ (List.mem_of_getElem? (i := 55) (l := tables_1_5) rfl))))))) rfl
set_option maxHeartbeats 4000000 in
set_option maxRecDepth 100000 in
theorem mC_715 : (Cond.code ({ cls := "KindRounds", name := "side", desc := "(I)I" } : Jvm.MethodName) prog_1_method_6_code (3 : Nat) (Option.some Jvm.ClassFile.FieldType.int)) ∈ lw_good := good_in (List.mem_append_right _ (List.mem_append_right _ (List.mem_append_right _ (List.mem_append_right _ (List.mem_append_right _ (List.mem_append_left _ (List.mem_of_getElem? (i := 60) (l := tables_1_5) rfl))))))) rfl
set_option maxHeartbeats 4000000 in
set_option maxRecDepth 100000 in
theorem mC_716 : (Cond.instanceMethod ({ cls := "KindRounds", name := "side", desc := "(I)I" } : Jvm.MethodName)) ∈ lw_good := good_in (List.mem_append_right _ (List.mem_append_right _ (List.mem_append_right _ (List.mem_append_right _ (List.mem_append_right _ (List.mem_append_left _ (List.mem_of_getElem? (i := 58) (l := tables_1_5) rfl))))))) rfl
set_option maxHeartbeats 4000000 in
set_option maxRecDepth 100000 in
theorem mC_717 : (Cond.selects "KindRounds" ({ cls := "KindRounds", name := "side", desc := "(I)I" } : Jvm.MethodName) ({ cls := "KindRounds", name := "side", desc := "(I)I" } : Jvm.MethodName)) ∈ lw_good := good_in (List.mem_append_right _ (List.mem_append_right _ (List.mem_append_right _ (List.mem_append_right _ (List.mem_append_right _ (List.mem_append_left _ (List.mem_of_getElem? (i := 59) (l := tables_1_5) rfl))))))) rfl
set_option maxHeartbeats 4000000 in
set_option maxRecDepth 100000 in
theorem mC_718 : (Cond.code ({ cls := "KindRounds", name := "out", desc := "(I)I" } : Jvm.MethodName) prog_1_method_7_code (2 : Nat) (Option.some Jvm.ClassFile.FieldType.int)) ∈ lw_good := good_in (List.mem_append_right _ (List.mem_append_right _ (List.mem_append_right _ (List.mem_append_right _ (List.mem_append_right _ (List.mem_append_left _ (List.mem_of_getElem? (i := 69) (l := tables_1_5) rfl))))))) rfl
set_option maxHeartbeats 4000000 in
set_option maxRecDepth 100000 in
theorem mC_719 : (Cond.instanceMethod ({ cls := "KindRounds", name := "out", desc := "(I)I" } : Jvm.MethodName)) ∈ lw_good := good_in (List.mem_append_right _ (List.mem_append_right _ (List.mem_append_right _ (List.mem_append_right _ (List.mem_append_right _ (List.mem_append_left _ (List.mem_of_getElem? (i := 67) (l := tables_1_5) rfl))))))) rfl
set_option maxHeartbeats 4000000 in
set_option maxRecDepth 100000 in
theorem mC_720 : (Cond.selects "KindRounds" ({ cls := "KindRounds", name := "out", desc := "(I)I" } : Jvm.MethodName) ({ cls := "KindRounds", name := "out", desc := "(I)I" } : Jvm.MethodName)) ∈ lw_good := good_in (List.mem_append_right _ (List.mem_append_right _ (List.mem_append_right _ (List.mem_append_right _ (List.mem_append_right _ (List.mem_append_left _ (List.mem_of_getElem? (i := 68) (l := tables_1_5) rfl))))))) rfl
set_option maxHeartbeats 4000000 in
set_option maxRecDepth 100000 in
theorem mC_721 : (Cond.code ({ cls := "KindRounds", name := "told", desc := "(II)I" } : Jvm.MethodName) prog_1_method_8_code (3 : Nat) (Option.some Jvm.ClassFile.FieldType.int)) ∈ lw_good := good_in (List.mem_append_right _ (List.mem_append_right _ (List.mem_append_right _ (List.mem_append_right _ (List.mem_append_right _ (List.mem_append_left _ (List.mem_of_getElem? (i := 73) (l := tables_1_5) rfl))))))) rfl
set_option maxHeartbeats 4000000 in
set_option maxRecDepth 100000 in
theorem mC_722 : (Cond.instanceMethod ({ cls := "KindRounds", name := "told", desc := "(II)I" } : Jvm.MethodName)) ∈ lw_good := good_in (List.mem_append_right _ (List.mem_append_right _ (List.mem_append_right _ (List.mem_append_right _ (List.mem_append_right _ (List.mem_append_left _ (List.mem_of_getElem? (i := 71) (l := tables_1_5) rfl))))))) rfl
set_option maxHeartbeats 4000000 in
set_option maxRecDepth 100000 in
theorem mC_723 : (Cond.selects "KindRounds" ({ cls := "KindRounds", name := "told", desc := "(II)I" } : Jvm.MethodName) ({ cls := "KindRounds", name := "told", desc := "(II)I" } : Jvm.MethodName)) ∈ lw_good := good_in (List.mem_append_right _ (List.mem_append_right _ (List.mem_append_right _ (List.mem_append_right _ (List.mem_append_right _ (List.mem_append_left _ (List.mem_of_getElem? (i := 72) (l := tables_1_5) rfl))))))) rfl
set_option maxHeartbeats 4000000 in
set_option maxRecDepth 100000 in
theorem mC_724 : (Cond.code ({ cls := "KindRounds", name := "kindOf", desc := "(II)I" } : Jvm.MethodName) prog_1_method_9_code (3 : Nat) (Option.some Jvm.ClassFile.FieldType.int)) ∈ lw_good := good_in (List.mem_append_right _ (List.mem_append_right _ (List.mem_append_right _ (List.mem_append_right _ (List.mem_append_right _ (List.mem_append_left _ (List.mem_of_getElem? (i := 78) (l := tables_1_5) rfl))))))) rfl
set_option maxHeartbeats 4000000 in
set_option maxRecDepth 100000 in
theorem mC_725 : (Cond.instanceMethod ({ cls := "KindRounds", name := "kindOf", desc := "(II)I" } : Jvm.MethodName)) ∈ lw_good := good_in (List.mem_append_right _ (List.mem_append_right _ (List.mem_append_right _ (List.mem_append_right _ (List.mem_append_right _ (List.mem_append_left _ (List.mem_of_getElem? (i := 76) (l := tables_1_5) rfl))))))) rfl
set_option maxHeartbeats 4000000 in
set_option maxRecDepth 100000 in
theorem mC_726 : (Cond.selects "KindRounds" ({ cls := "KindRounds", name := "kindOf", desc := "(II)I" } : Jvm.MethodName) ({ cls := "KindRounds", name := "kindOf", desc := "(II)I" } : Jvm.MethodName)) ∈ lw_good := good_in (List.mem_append_right _ (List.mem_append_right _ (List.mem_append_right _ (List.mem_append_right _ (List.mem_append_right _ (List.mem_append_left _ (List.mem_of_getElem? (i := 77) (l := tables_1_5) rfl))))))) rfl
set_option maxHeartbeats 4000000 in
set_option maxRecDepth 100000 in
theorem mC_727 : (Cond.code ({ cls := "KindRounds", name := "groups", desc := "()I" } : Jvm.MethodName) prog_1_method_10_code (1 : Nat) (Option.some Jvm.ClassFile.FieldType.int)) ∈ lw_good := good_in (List.mem_append_right _ (List.mem_append_right _ (List.mem_append_right _ (List.mem_append_right _ (List.mem_append_right _ (List.mem_append_left _ (List.mem_of_getElem? (i := 92) (l := tables_1_5) rfl))))))) rfl
set_option maxHeartbeats 4000000 in
set_option maxRecDepth 100000 in
theorem mC_728 : (Cond.instanceMethod ({ cls := "KindRounds", name := "groups", desc := "()I" } : Jvm.MethodName)) ∈ lw_good := good_in (List.mem_append_right _ (List.mem_append_right _ (List.mem_append_right _ (List.mem_append_right _ (List.mem_append_right _ (List.mem_append_left _ (List.mem_of_getElem? (i := 90) (l := tables_1_5) rfl))))))) rfl
set_option maxHeartbeats 4000000 in
set_option maxRecDepth 100000 in
theorem mC_729 : (Cond.selects "KindRounds" ({ cls := "KindRounds", name := "groups", desc := "()I" } : Jvm.MethodName) ({ cls := "KindRounds", name := "groups", desc := "()I" } : Jvm.MethodName)) ∈ lw_good := good_in (List.mem_append_right _ (List.mem_append_right _ (List.mem_append_right _ (List.mem_append_right _ (List.mem_append_right _ (List.mem_append_left _ (List.mem_of_getElem? (i := 91) (l := tables_1_5) rfl))))))) rfl
set_option maxHeartbeats 4000000 in
set_option maxRecDepth 100000 in
theorem mC_730 : (Cond.code ({ cls := "KindRounds", name := "member", desc := "(II)I" } : Jvm.MethodName) prog_1_method_11_code (3 : Nat) (Option.some Jvm.ClassFile.FieldType.int)) ∈ lw_good := good_in (List.mem_append_right _ (List.mem_append_right _ (List.mem_append_right _ (List.mem_append_right _ (List.mem_append_right _ (List.mem_append_left _ (List.mem_of_getElem? (i := 96) (l := tables_1_5) rfl))))))) rfl
set_option maxHeartbeats 4000000 in
set_option maxRecDepth 100000 in
theorem mC_731 : (Cond.instanceMethod ({ cls := "KindRounds", name := "member", desc := "(II)I" } : Jvm.MethodName)) ∈ lw_good := good_in (List.mem_append_right _ (List.mem_append_right _ (List.mem_append_right _ (List.mem_append_right _ (List.mem_append_right _ (List.mem_append_left _ (List.mem_of_getElem? (i := 94) (l := tables_1_5) rfl))))))) rfl
set_option maxHeartbeats 4000000 in
set_option maxRecDepth 100000 in
theorem mC_732 : (Cond.selects "KindRounds" ({ cls := "KindRounds", name := "member", desc := "(II)I" } : Jvm.MethodName) ({ cls := "KindRounds", name := "member", desc := "(II)I" } : Jvm.MethodName)) ∈ lw_good := good_in (List.mem_append_right _ (List.mem_append_right _ (List.mem_append_right _ (List.mem_append_right _ (List.mem_append_right _ (List.mem_append_left _ (List.mem_of_getElem? (i := 95) (l := tables_1_5) rfl))))))) rfl
set_option maxHeartbeats 4000000 in
set_option maxRecDepth 100000 in
theorem mC_733 : (Cond.code ({ cls := "KindRounds", name := "needs", desc := "(II)I" } : Jvm.MethodName) prog_1_method_12_code (3 : Nat) (Option.some Jvm.ClassFile.FieldType.int)) ∈ lw_good := good_in (List.mem_append_right _ (List.mem_append_right _ (List.mem_append_right _ (List.mem_append_right _ (List.mem_append_right _ (List.mem_append_left _ (List.mem_of_getElem? (i := 104) (l := tables_1_5) rfl))))))) rfl
set_option maxHeartbeats 4000000 in
set_option maxRecDepth 100000 in
theorem mC_734 : (Cond.instanceMethod ({ cls := "KindRounds", name := "needs", desc := "(II)I" } : Jvm.MethodName)) ∈ lw_good := good_in (List.mem_append_right _ (List.mem_append_right _ (List.mem_append_right _ (List.mem_append_right _ (List.mem_append_right _ (List.mem_append_left _ (List.mem_of_getElem? (i := 102) (l := tables_1_5) rfl))))))) rfl
set_option maxHeartbeats 4000000 in
set_option maxRecDepth 100000 in
theorem mC_735 : (Cond.selects "KindRounds" ({ cls := "KindRounds", name := "needs", desc := "(II)I" } : Jvm.MethodName) ({ cls := "KindRounds", name := "needs", desc := "(II)I" } : Jvm.MethodName)) ∈ lw_good := good_in (List.mem_append_right _ (List.mem_append_right _ (List.mem_append_right _ (List.mem_append_right _ (List.mem_append_right _ (List.mem_append_left _ (List.mem_of_getElem? (i := 103) (l := tables_1_5) rfl))))))) rfl
set_option maxHeartbeats 4000000 in
set_option maxRecDepth 100000 in
theorem mC_736 : (Cond.code ({ cls := "KindRounds", name := "kind", desc := "()I" } : Jvm.MethodName) prog_1_method_13_code (1 : Nat) (Option.some Jvm.ClassFile.FieldType.int)) ∈ lw_good := good_in (List.mem_append_right _ (List.mem_append_right _ (List.mem_append_right _ (List.mem_append_right _ (List.mem_append_right _ (List.mem_append_left _ (List.mem_of_getElem? (i := 108) (l := tables_1_5) rfl))))))) rfl
set_option maxHeartbeats 4000000 in
set_option maxRecDepth 100000 in
theorem mC_737 : (Cond.instanceMethod ({ cls := "KindRounds", name := "kind", desc := "()I" } : Jvm.MethodName)) ∈ lw_good := good_in (List.mem_append_right _ (List.mem_append_right _ (List.mem_append_right _ (List.mem_append_right _ (List.mem_append_right _ (List.mem_append_left _ (List.mem_of_getElem? (i := 106) (l := tables_1_5) rfl))))))) rfl
set_option maxHeartbeats 4000000 in
set_option maxRecDepth 100000 in
theorem mC_738 : (Cond.selects "KindRounds" ({ cls := "KindRounds", name := "kind", desc := "()I" } : Jvm.MethodName) ({ cls := "KindRounds", name := "kind", desc := "()I" } : Jvm.MethodName)) ∈ lw_good := good_in (List.mem_append_right _ (List.mem_append_right _ (List.mem_append_right _ (List.mem_append_right _ (List.mem_append_right _ (List.mem_append_left _ (List.mem_of_getElem? (i := 107) (l := tables_1_5) rfl))))))) rfl
set_option maxHeartbeats 4000000 in
set_option maxRecDepth 100000 in
theorem mC_739 : (Cond.code ({ cls := "KindRounds", name := "plain", desc := "()I" } : Jvm.MethodName) prog_1_method_14_code (1 : Nat) (Option.some Jvm.ClassFile.FieldType.int)) ∈ lw_good := good_in (List.mem_append_right _ (List.mem_append_right _ (List.mem_append_right _ (List.mem_append_right _ (List.mem_append_right _ (List.mem_append_left _ (List.mem_of_getElem? (i := 133) (l := tables_1_5) rfl))))))) rfl
set_option maxHeartbeats 4000000 in
set_option maxRecDepth 100000 in
theorem mC_740 : (Cond.instanceMethod ({ cls := "KindRounds", name := "plain", desc := "()I" } : Jvm.MethodName)) ∈ lw_good := good_in (List.mem_append_right _ (List.mem_append_right _ (List.mem_append_right _ (List.mem_append_right _ (List.mem_append_right _ (List.mem_append_left _ (List.mem_of_getElem? (i := 131) (l := tables_1_5) rfl))))))) rfl
set_option maxHeartbeats 4000000 in
set_option maxRecDepth 100000 in
theorem mC_741 : (Cond.selects "KindRounds" ({ cls := "KindRounds", name := "plain", desc := "()I" } : Jvm.MethodName) ({ cls := "KindRounds", name := "plain", desc := "()I" } : Jvm.MethodName)) ∈ lw_good := good_in (List.mem_append_right _ (List.mem_append_right _ (List.mem_append_right _ (List.mem_append_right _ (List.mem_append_right _ (List.mem_append_left _ (List.mem_of_getElem? (i := 132) (l := tables_1_5) rfl))))))) rfl
set_option maxHeartbeats 4000000 in
set_option maxRecDepth 100000 in
theorem mC_742 : (Cond.code ({ cls := "KindRounds", name := "same", desc := "()I" } : Jvm.MethodName) prog_1_method_15_code (1 : Nat) (Option.some Jvm.ClassFile.FieldType.int)) ∈ lw_good := good_in (List.mem_append_right _ (List.mem_append_right _ (List.mem_append_right _ (List.mem_append_right _ (List.mem_append_right _ (List.mem_append_left _ (List.mem_of_getElem? (i := 190) (l := tables_1_5) rfl))))))) rfl
set_option maxHeartbeats 4000000 in
set_option maxRecDepth 100000 in
theorem mC_743 : (Cond.instanceMethod ({ cls := "KindRounds", name := "same", desc := "()I" } : Jvm.MethodName)) ∈ lw_good := good_in (List.mem_append_right _ (List.mem_append_right _ (List.mem_append_right _ (List.mem_append_right _ (List.mem_append_right _ (List.mem_append_left _ (List.mem_of_getElem? (i := 188) (l := tables_1_5) rfl))))))) rfl
set_option maxHeartbeats 4000000 in
set_option maxRecDepth 100000 in
theorem mC_744 : (Cond.selects "KindRounds" ({ cls := "KindRounds", name := "same", desc := "()I" } : Jvm.MethodName) ({ cls := "KindRounds", name := "same", desc := "()I" } : Jvm.MethodName)) ∈ lw_good := good_in (List.mem_append_right _ (List.mem_append_right _ (List.mem_append_right _ (List.mem_append_right _ (List.mem_append_right _ (List.mem_append_left _ (List.mem_of_getElem? (i := 189) (l := tables_1_5) rfl))))))) rfl
set_option maxHeartbeats 4000000 in
set_option maxRecDepth 100000 in
theorem mC_745 : (Cond.code ({ cls := "KindRounds", name := "takeTypes", desc := "(I)Z" } : Jvm.MethodName) prog_1_method_16_code (3 : Nat) (Option.some Jvm.ClassFile.FieldType.boolean)) ∈ lw_good := good_in (List.mem_append_right _ (List.mem_append_right _ (List.mem_append_right _ (List.mem_append_right _ (List.mem_append_right _ (List.mem_append_left _ (List.mem_of_getElem? (i := 112) (l := tables_1_5) rfl))))))) rfl
set_option maxHeartbeats 4000000 in
set_option maxRecDepth 100000 in
theorem mC_746 : (Cond.instanceMethod ({ cls := "KindRounds", name := "takeTypes", desc := "(I)Z" } : Jvm.MethodName)) ∈ lw_good := good_in (List.mem_append_right _ (List.mem_append_right _ (List.mem_append_right _ (List.mem_append_right _ (List.mem_append_right _ (List.mem_append_left _ (List.mem_of_getElem? (i := 111) (l := tables_1_5) rfl))))))) rfl
set_option maxHeartbeats 4000000 in
set_option maxRecDepth 100000 in
theorem mC_747 : Cond.selects "KindRounds" ⟨"KindRounds", "takeTypes", "(I)Z"⟩ ⟨"KindRounds", "takeTypes", "(I)Z"⟩ ∈ lw_good := good_in (List.mem_append_left _ (List.mem_of_getElem? (i := 97) (l := k2_sels lw_privs) (by decide +kernel))) rfl
set_option maxHeartbeats 4000000 in
set_option maxRecDepth 100000 in
theorem mC_748 : (Cond.code ({ cls := "KindRounds", name := "showKind", desc := "(I)I" } : Jvm.MethodName) prog_1_method_17_code (2 : Nat) (Option.some Jvm.ClassFile.FieldType.int)) ∈ lw_good := good_in (List.mem_append_right _ (List.mem_append_right _ (List.mem_append_right _ (List.mem_append_right _ (List.mem_append_right _ (List.mem_append_left _ (List.mem_of_getElem? (i := 82) (l := tables_1_5) rfl))))))) rfl
set_option maxHeartbeats 4000000 in
set_option maxRecDepth 100000 in
theorem mC_749 : (Cond.instanceMethod ({ cls := "KindRounds", name := "showKind", desc := "(I)I" } : Jvm.MethodName)) ∈ lw_good := good_in (List.mem_append_right _ (List.mem_append_right _ (List.mem_append_right _ (List.mem_append_right _ (List.mem_append_right _ (List.mem_append_left _ (List.mem_of_getElem? (i := 81) (l := tables_1_5) rfl))))))) rfl
set_option maxHeartbeats 4000000 in
set_option maxRecDepth 100000 in
theorem mC_750 : Cond.selects "KindRounds" ⟨"KindRounds", "showKind", "(I)I"⟩ ⟨"KindRounds", "showKind", "(I)I"⟩ ∈ lw_good := good_in (List.mem_append_left _ (List.mem_of_getElem? (i := 94) (l := k2_sels lw_privs) (by decide +kernel))) rfl
set_option maxHeartbeats 4000000 in
set_option maxRecDepth 100000 in
theorem mC_751 : (Cond.code ({ cls := "KindRounds", name := "swapLines", desc := "()V" } : Jvm.MethodName) prog_1_method_18_code (2 : Nat) (Option.none : Option Jvm.ClassFile.FieldType)) ∈ lw_good := good_in (List.mem_append_right _ (List.mem_append_right _ (List.mem_append_right _ (List.mem_append_right _ (List.mem_append_right _ (List.mem_append_left _ (List.mem_of_getElem? (i := 88) (l := tables_1_5) rfl))))))) rfl
set_option maxHeartbeats 4000000 in
set_option maxRecDepth 100000 in
theorem mC_752 : (Cond.instanceMethod ({ cls := "KindRounds", name := "swapLines", desc := "()V" } : Jvm.MethodName)) ∈ lw_good := good_in (List.mem_append_right _ (List.mem_append_right _ (List.mem_append_right _ (List.mem_append_right _ (List.mem_append_right _ (List.mem_append_left _ (List.mem_of_getElem? (i := 87) (l := tables_1_5) rfl))))))) rfl
set_option maxHeartbeats 4000000 in
set_option maxRecDepth 100000 in
theorem mC_753 : Cond.selects "KindRounds" ⟨"KindRounds", "swapLines", "()V"⟩ ⟨"KindRounds", "swapLines", "()V"⟩ ∈ lw_good := good_in (List.mem_append_left _ (List.mem_of_getElem? (i := 95) (l := k2_sels lw_privs) (by decide +kernel))) rfl
theorem km_Ar_rangeCheck : kMs y_Ar_rangeCheck bc_Ar_rangeCheck 3 none 3 := ⟨⟨mC_339, mC_340, by decide, by decide, by decide⟩, mC_341⟩
theorem km_Ar_fill : kMs y_Ar_fill bc_Ar_fill 5 none 4 := ⟨⟨mC_342, mC_340, by decide, by decide, by decide⟩, mC_343⟩
theorem km_Ta_hasRoom : kMi y_Ta_hasRoom bc_Ta_hasRoom 1 (some .boolean) 0 := ⟨⟨mC_344, mC_345, by decide, by decide, by decide⟩, mC_346, mC_347⟩
theorem km_Ta_append : kMi y_Ta_append bc_Ta_append 3 none 1 := ⟨⟨mC_348, mC_345, by decide, by decide, by decide⟩, mC_349, mC_350⟩
theorem km_Ta_scan : kMi y_Ta_scan bc_Ta_scan 4 none 0 := ⟨⟨mC_351, mC_345, by decide, by decide, by decide⟩, mC_352, mC_353⟩
theorem km_Ta_scanName : kMi y_Ta_scanName bc_Ta_scanName 5 (some .int) 1 := ⟨⟨mC_354, mC_345, by decide, by decide, by decide⟩, mC_355, mC_356⟩
theorem km_Ta_scanSign : kMi y_Ta_scanSign bc_Ta_scanSign 4 (some .int) 1 := ⟨⟨mC_357, mC_345, by decide, by decide, by decide⟩, mC_358, mC_359⟩
theorem km_Ta_addToken : kMi y_Ta_addToken bc_Ta_addToken 5 none 3 := ⟨⟨mC_360, mC_345, by decide, by decide, by decide⟩, mC_361, mC_362⟩
theorem km_Ta_sort : kMi y_Ta_sort bc_Ta_sort 1 (some .int) 0 := ⟨⟨mC_363, mC_345, by decide, by decide, by decide⟩, mC_364, mC_365⟩
theorem km_Ta_name : kMi y_Ta_name bc_Ta_name 1 (some .long) 0 := ⟨⟨mC_366, mC_345, by decide, by decide, by decide⟩, mC_367, mC_368⟩
theorem km_Ta_start : kMi y_Ta_start bc_Ta_start 1 (some .int) 0 := ⟨⟨mC_369, mC_345, by decide, by decide, by decide⟩, mC_370, mC_371⟩
theorem km_Ta_step : kMi y_Ta_step bc_Ta_step 1 none 0 := ⟨⟨mC_372, mC_345, by decide, by decide, by decide⟩, mC_373, mC_374⟩
theorem km_Ta_sortOfSmall : kMs y_Ta_sortOfSmall bc_Ta_sortOfSmall 2 (some .int) 1 := ⟨⟨mC_375, mC_345, by decide, by decide, by decide⟩, mC_376⟩
theorem km_Ta_isBigLetter : kMs y_Ta_isBigLetter bc_Ta_isBigLetter 1 (some .boolean) 1 := ⟨⟨mC_377, mC_345, by decide, by decide, by decide⟩, mC_378⟩
theorem km_Ta_isSmallLetter : kMs y_Ta_isSmallLetter bc_Ta_isSmallLetter 1 (some .boolean) 1 := ⟨⟨mC_379, mC_345, by decide, by decide, by decide⟩, mC_380⟩
theorem km_Ta_isNameByte : kMs y_Ta_isNameByte bc_Ta_isNameByte 1 (some .boolean) 1 := ⟨⟨mC_381, mC_345, by decide, by decide, by decide⟩, mC_382⟩
theorem km_Li_clear : kMi y_Li_clear bc_Li_clear 1 none 0 := ⟨⟨mC_383, mC_384, by decide, by decide, by decide⟩, mC_385, mC_386⟩
theorem km_Li_put : kMi y_Li_put bc_Li_put 2 none 1 := ⟨⟨mC_387, mC_384, by decide, by decide, by decide⟩, mC_388, mC_389⟩
theorem km_Li_putArrow : kMi y_Li_putArrow bc_Li_putArrow 1 none 0 := ⟨⟨mC_390, mC_384, by decide, by decide, by decide⟩, mC_391, mC_392⟩
theorem km_Li_putName : kMi y_Li_putName bc_Li_putName 5 none 1 := ⟨⟨mC_393, mC_384, by decide, by decide, by decide⟩, mC_394, mC_395⟩
theorem km_Li_copy : kMi y_Li_copy bc_Li_copy 2 none 1 := ⟨⟨mC_396, mC_384, by decide, by decide, by decide⟩, mC_397, mC_398⟩
theorem km_Fa_clear : kMi y_Fa_clear bc_Fa_clear 1 none 0 := ⟨⟨mC_399, mC_400, by decide, by decide, by decide⟩, mC_401, mC_402⟩
theorem km_Fa_isThere : kMi y_Fa_isThere bc_Fa_isThere 1 (some .boolean) 0 := ⟨⟨mC_403, mC_400, by decide, by decide, by decide⟩, mC_404, mC_405⟩
theorem km_Fa_raise : kMi y_Fa_raise bc_Fa_raise 3 none 2 := ⟨⟨mC_406, mC_400, by decide, by decide, by decide⟩, mC_407, mC_408⟩
theorem km_Ki_clear : kMi y_Ki_clear bc_Ki_clear 1 none 0 := ⟨⟨mC_409, mC_410, by decide, by decide, by decide⟩, mC_411, mC_412⟩
theorem km_Ki_makeOpen : kMi y_Ki_makeOpen bc_Ki_makeOpen 1 (some .int) 0 := ⟨⟨mC_413, mC_410, by decide, by decide, by decide⟩, mC_414, mC_415⟩
theorem km_Ki_makeArrow : kMi y_Ki_makeArrow bc_Ki_makeArrow 3 (some .int) 2 := ⟨⟨mC_416, mC_410, by decide, by decide, by decide⟩, mC_417, mC_418⟩
theorem km_Ki_find : kMi y_Ki_find bc_Ki_find 4 (some .int) 1 := ⟨⟨mC_419, mC_410, by decide, by decide, by decide⟩, mC_420, mC_421⟩
theorem km_Ki_isOpen : kMi y_Ki_isOpen bc_Ki_isOpen 2 (some .boolean) 1 := ⟨⟨mC_422, mC_410, by decide, by decide, by decide⟩, mC_423, mC_424⟩
theorem km_Ki_isArrow : kMi y_Ki_isArrow bc_Ki_isArrow 2 (some .boolean) 1 := ⟨⟨mC_425, mC_410, by decide, by decide, by decide⟩, mC_426, mC_427⟩
theorem km_Ki_push : kMi y_Ki_push bc_Ki_push 2 none 1 := ⟨⟨mC_428, mC_410, by decide, by decide, by decide⟩, mC_429, mC_430⟩
theorem km_Ki_pop : kMi y_Ki_pop bc_Ki_pop 1 (some .int) 0 := ⟨⟨mC_431, mC_410, by decide, by decide, by decide⟩, mC_432, mC_433⟩
theorem km_Ki_unify : kMi y_Ki_unify bc_Ki_unify 7 (some .boolean) 2 := ⟨⟨mC_434, mC_410, by decide, by decide, by decide⟩, mC_435, mC_436⟩
theorem km_Ki_merge : kMi y_Ki_merge bc_Ki_merge 3 (some .boolean) 2 := ⟨⟨mC_437, mC_410, by decide, by decide, by decide⟩, mC_438, mC_439⟩
theorem km_Ki_join : kMi y_Ki_join bc_Ki_join 3 none 2 := ⟨⟨mC_440, mC_410, by decide, by decide, by decide⟩, mC_441, mC_442⟩
theorem km_Ki_clearMarks : kMi y_Ki_clearMarks bc_Ki_clearMarks 1 none 0 := ⟨⟨mC_443, mC_410, by decide, by decide, by decide⟩, mC_444, mC_445⟩
theorem km_Ki_hasRing : kMi y_Ki_hasRing bc_Ki_hasRing 6 (some .boolean) 1 := ⟨⟨mC_446, mC_410, by decide, by decide, by decide⟩, mC_447, mC_448⟩
theorem km_Ki_letter : kMi y_Ki_letter bc_Ki_letter 5 (some .int) 1 := ⟨⟨mC_449, mC_410, by decide, by decide, by decide⟩, mC_450, mC_451⟩
theorem km_Ki_hasOpen : kMi y_Ki_hasOpen bc_Ki_hasOpen 2 (some .boolean) 1 := ⟨⟨mC_452, mC_410, by decide, by decide, by decide⟩, mC_453, mC_454⟩
theorem km_Ki_showSides : kMi y_Ki_showSides bc_Ki_showSides 4 none 3 := ⟨⟨mC_455, mC_410, by decide, by decide, by decide⟩, mC_456, mC_457⟩
theorem km_Ki_show : kMi y_Ki_show bc_Ki_show 8 none 3 := ⟨⟨mC_458, mC_410, by decide, by decide, by decide⟩, mC_459, mC_460⟩
theorem km_Ki_closeGroup : kMi y_Ki_closeGroup bc_Ki_closeGroup 2 none 0 := ⟨⟨mC_461, mC_410, by decide, by decide, by decide⟩, mC_462, mC_463⟩
theorem km_Ki_dropAsked : kMi y_Ki_dropAsked bc_Ki_dropAsked 1 none 0 := ⟨⟨mC_464, mC_410, by decide, by decide, by decide⟩, mC_465, mC_466⟩
theorem km_Ro_clear : kMi y_Ro_clear bc_Ro_clear 1 none 0 := ⟨⟨mC_467, mC_468, by decide, by decide, by decide⟩, mC_469, mC_470⟩
theorem km_Ro_isFull : kMi y_Ro_isFull bc_Ro_isFull 1 (some .boolean) 0 := ⟨⟨mC_471, mC_468, by decide, by decide, by decide⟩, mC_472, mC_473⟩
theorem km_Ro_beginTerm : kMi y_Ro_beginTerm bc_Ro_beginTerm 2 (some .boolean) 1 := ⟨⟨mC_474, mC_468, by decide, by decide, by decide⟩, mC_475, mC_476⟩
theorem km_Ro_termEnd : kMi y_Ro_termEnd bc_Ro_termEnd 2 (some .int) 1 := ⟨⟨mC_477, mC_468, by decide, by decide, by decide⟩, mC_478, mC_479⟩
theorem km_Ro_termOf : kMi y_Ro_termOf bc_Ro_termOf 3 (some .int) 1 := ⟨⟨mC_480, mC_468, by decide, by decide, by decide⟩, mC_481, mC_482⟩
theorem km_Ro_add : kMi y_Ro_add bc_Ro_add 6 (some .boolean) 4 := ⟨⟨mC_483, mC_468, by decide, by decide, by decide⟩, mC_484, mC_485⟩
theorem km_Ro_insertArrow : kMi y_Ro_insertArrow bc_Ro_insertArrow 3 none 1 := ⟨⟨mC_486, mC_468, by decide, by decide, by decide⟩, mC_487, mC_488⟩
theorem km_Ro_fixedOf : kMi y_Ro_fixedOf bc_Ro_fixedOf 2 (some .int) 1 := ⟨⟨mC_489, mC_468, by decide, by decide, by decide⟩, mC_490, mC_491⟩
theorem km_Ro_endOf : kMi y_Ro_endOf bc_Ro_endOf 4 (some .int) 1 := ⟨⟨mC_492, mC_468, by decide, by decide, by decide⟩, mC_493, mC_494⟩
theorem km_Ro_isLike : kMi y_Ro_isLike bc_Ro_isLike 3 (some .boolean) 1 := ⟨⟨mC_495, mC_468, by decide, by decide, by decide⟩, mC_496, mC_497⟩
theorem km_Me_clear : kMi y_Me_clear bc_Me_clear 1 none 0 := ⟨⟨mC_498, mC_499, by decide, by decide, by decide⟩, mC_500, mC_501⟩
theorem km_Me_add : kMi y_Me_add bc_Me_add 4 none 3 := ⟨⟨mC_502, mC_499, by decide, by decide, by decide⟩, mC_503, mC_504⟩
theorem km_Me_setValue : kMi y_Me_setValue bc_Me_setValue 3 none 2 := ⟨⟨mC_505, mC_499, by decide, by decide, by decide⟩, mC_506, mC_507⟩
theorem km_Me_wasTold : kMi y_Me_wasTold bc_Me_wasTold 4 (some .boolean) 1 := ⟨⟨mC_508, mC_499, by decide, by decide, by decide⟩, mC_509, mC_510⟩
theorem km_Te_clear : kMi y_Te_clear bc_Te_clear 1 none 0 := ⟨⟨mC_511, mC_512, by decide, by decide, by decide⟩, mC_513, mC_514⟩
theorem km_Te_has : kMi y_Te_has bc_Te_has 2 (some .boolean) 1 := ⟨⟨mC_515, mC_512, by decide, by decide, by decide⟩, mC_516, mC_517⟩
theorem km_Te_declare : kMi y_Te_declare bc_Te_declare 5 none 3 := ⟨⟨mC_518, mC_512, by decide, by decide, by decide⟩, mC_519, mC_520⟩
theorem km_Te_addParam : kMi y_Te_addParam bc_Te_addParam 4 none 2 := ⟨⟨mC_521, mC_512, by decide, by decide, by decide⟩, mC_522, mC_523⟩
theorem km_Te_findType : kMi y_Te_findType bc_Te_findType 4 (some .int) 1 := ⟨⟨mC_524, mC_512, by decide, by decide, by decide⟩, mC_525, mC_526⟩
theorem km_Te_findDeclared : kMi y_Te_findDeclared bc_Te_findDeclared 4 (some .int) 1 := ⟨⟨mC_527, mC_512, by decide, by decide, by decide⟩, mC_528, mC_529⟩
theorem km_Te_findParam : kMi y_Te_findParam bc_Te_findParam 5 (some .int) 2 := ⟨⟨mC_530, mC_512, by decide, by decide, by decide⟩, mC_531, mC_532⟩
theorem km_Te_findSynonym : kMi y_Te_findSynonym bc_Te_findSynonym 5 (some .int) 2 := ⟨⟨mC_533, mC_512, by decide, by decide, by decide⟩, mC_534, mC_535⟩
theorem km_Te_closeMasks : kMi y_Te_closeMasks bc_Te_closeMasks 4 none 1 := ⟨⟨mC_536, mC_512, by decide, by decide, by decide⟩, mC_537, mC_538⟩
theorem km_Te_formGroups : kMi y_Te_formGroups bc_Te_formGroups 6 none 0 := ⟨⟨mC_539, mC_512, by decide, by decide, by decide⟩, mC_540, mC_541⟩
theorem km_Te_nextOf : kMi y_Te_nextOf bc_Te_nextOf 4 (some .int) 1 := ⟨⟨mC_542, mC_512, by decide, by decide, by decide⟩, mC_543, mC_544⟩
theorem km_Te_ringOf : kMi y_Te_ringOf bc_Te_ringOf 4 (some .int) 1 := ⟨⟨mC_545, mC_512, by decide, by decide, by decide⟩, mC_546, mC_547⟩
theorem km_Te_findMember : kMi y_Te_findMember bc_Te_findMember 5 (some .int) 2 := ⟨⟨mC_548, mC_512, by decide, by decide, by decide⟩, mC_549, mC_550⟩
theorem km_Pa_parseText : kMi y_Pa_parseText bc_Pa_parseText 4 none 0 := ⟨⟨mC_551, mC_552, by decide, by decide, by decide⟩, mC_553, mC_554⟩
theorem km_Pa_parseTypes : kMi y_Pa_parseTypes bc_Pa_parseTypes 5 none 2 := ⟨⟨mC_555, mC_552, by decide, by decide, by decide⟩, mC_556, mC_557⟩
theorem km_Pa_misfit : kMi y_Pa_misfit bc_Pa_misfit 1 (some .boolean) 0 := ⟨⟨mC_558, mC_552, by decide, by decide, by decide⟩, mC_559, mC_560⟩
theorem km_Pa_tooMuch : kMi y_Pa_tooMuch bc_Pa_tooMuch 1 (some .boolean) 0 := ⟨⟨mC_561, mC_552, by decide, by decide, by decide⟩, mC_562, mC_563⟩
theorem km_Pa_expect : kMi y_Pa_expect bc_Pa_expect 2 (some .boolean) 1 := ⟨⟨mC_564, mC_552, by decide, by decide, by decide⟩, mC_565, mC_566⟩
theorem km_Pa_parseHead : kMi y_Pa_parseHead bc_Pa_parseHead 2 (some .boolean) 1 := ⟨⟨mC_567, mC_552, by decide, by decide, by decide⟩, mC_568, mC_569⟩
theorem km_Pa_parseParams : kMi y_Pa_parseParams bc_Pa_parseParams 3 (some .boolean) 0 := ⟨⟨mC_570, mC_552, by decide, by decide, by decide⟩, mC_571, mC_572⟩
theorem km_Pa_parseParam : kMi y_Pa_parseParam bc_Pa_parseParam 1 (some .boolean) 0 := ⟨⟨mC_573, mC_552, by decide, by decide, by decide⟩, mC_574, mC_575⟩
theorem km_Pa_parseCons : kMi y_Pa_parseCons bc_Pa_parseCons 3 (some .boolean) 0 := ⟨⟨mC_576, mC_552, by decide, by decide, by decide⟩, mC_577, mC_578⟩
theorem km_Pa_parseMethods : kMi y_Pa_parseMethods bc_Pa_parseMethods 3 (some .boolean) 0 := ⟨⟨mC_579, mC_552, by decide, by decide, by decide⟩, mC_580, mC_581⟩
theorem km_Pa_parseTold : kMi y_Pa_parseTold bc_Pa_parseTold 3 (some .boolean) 0 := ⟨⟨mC_582, mC_552, by decide, by decide, by decide⟩, mC_583, mC_584⟩
theorem km_Pa_parseKind : kMi y_Pa_parseKind bc_Pa_parseKind 7 (some .int) 1 := ⟨⟨mC_585, mC_552, by decide, by decide, by decide⟩, mC_586, mC_587⟩
theorem km_Pa_parsePart : kMi y_Pa_parsePart bc_Pa_parsePart 4 (some .int) 1 := ⟨⟨mC_588, mC_552, by decide, by decide, by decide⟩, mC_589, mC_590⟩
theorem km_Pa_parseType : kMi y_Pa_parseType bc_Pa_parseType 4 (some .boolean) 1 := ⟨⟨mC_591, mC_552, by decide, by decide, by decide⟩, mC_592, mC_593⟩
theorem km_Pa_parseSome : kMi y_Pa_parseSome bc_Pa_parseSome 7 (some .boolean) 1 := ⟨⟨mC_594, mC_552, by decide, by decide, by decide⟩, mC_595, mC_596⟩
theorem km_Pa_startsOne : kMi y_Pa_startsOne bc_Pa_startsOne 2 (some .boolean) 0 := ⟨⟨mC_597, mC_552, by decide, by decide, by decide⟩, mC_598, mC_599⟩
theorem km_Pa_parseOne : kMi y_Pa_parseOne bc_Pa_parseOne 5 (some .boolean) 1 := ⟨⟨mC_600, mC_552, by decide, by decide, by decide⟩, mC_601, mC_602⟩
theorem km_Ch_checkText : kMi y_Ch_checkText bc_Ch_checkText 1 none 0 := ⟨⟨mC_603, mC_604, by decide, by decide, by decide⟩, mC_605, mC_606⟩
theorem km_Ch_checkTypes : kMi y_Ch_checkTypes bc_Ch_checkTypes 1 none 0 := ⟨⟨mC_607, mC_604, by decide, by decide, by decide⟩, mC_608, mC_609⟩
theorem km_Ch_checkNames : kMi y_Ch_checkNames bc_Ch_checkNames 2 none 0 := ⟨⟨mC_610, mC_604, by decide, by decide, by decide⟩, mC_611, mC_612⟩
theorem km_Ch_isBadName : kMi y_Ch_isBadName bc_Ch_isBadName 4 (some .boolean) 1 := ⟨⟨mC_613, mC_604, by decide, by decide, by decide⟩, mC_614, mC_615⟩
theorem km_Ch_isStrange : kMi y_Ch_isStrange bc_Ch_isStrange 4 (some .boolean) 2 := ⟨⟨mC_616, mC_604, by decide, by decide, by decide⟩, mC_617, mC_618⟩
theorem km_Ch_noteNames : kMi y_Ch_noteNames bc_Ch_noteNames 4 none 0 := ⟨⟨mC_619, mC_604, by decide, by decide, by decide⟩, mC_620, mC_621⟩
theorem km_Ch_checkRings : kMi y_Ch_checkRings bc_Ch_checkRings 3 none 0 := ⟨⟨mC_622, mC_604, by decide, by decide, by decide⟩, mC_623, mC_624⟩
theorem km_Ch_checkLacks : kMi y_Ch_checkLacks bc_Ch_checkLacks 4 none 0 := ⟨⟨mC_625, mC_604, by decide, by decide, by decide⟩, mC_626, mC_627⟩
theorem km_So_solveText : kMi y_So_solveText bc_So_solveText 3 none 0 := ⟨⟨mC_628, mC_629, by decide, by decide, by decide⟩, mC_630, mC_631⟩
theorem km_So_solveAsked : kMi y_So_solveAsked bc_So_solveAsked 3 none 2 := ⟨⟨mC_632, mC_629, by decide, by decide, by decide⟩, mC_633, mC_634⟩
theorem km_So_solveListed : kMi y_So_solveListed bc_So_solveListed 2 none 0 := ⟨⟨mC_635, mC_629, by decide, by decide, by decide⟩, mC_636, mC_637⟩
theorem km_So_makeKinds : kMi y_So_makeKinds bc_So_makeKinds 4 none 1 := ⟨⟨mC_638, mC_629, by decide, by decide, by decide⟩, mC_639, mC_640⟩
theorem km_So_wholeKind : kMi y_So_wholeKind bc_So_wholeKind 5 (some .int) 1 := ⟨⟨mC_641, mC_629, by decide, by decide, by decide⟩, mC_642, mC_643⟩
theorem km_So_countOpens : kMi y_So_countOpens bc_So_countOpens 4 none 1 := ⟨⟨mC_644, mC_629, by decide, by decide, by decide⟩, mC_645, mC_646⟩
theorem km_So_listTold : kMi y_So_listTold bc_So_listTold 4 none 1 := ⟨⟨mC_647, mC_629, by decide, by decide, by decide⟩, mC_648, mC_649⟩
theorem km_So_listMembers : kMi y_So_listMembers bc_So_listMembers 5 none 1 := ⟨⟨mC_650, mC_629, by decide, by decide, by decide⟩, mC_651, mC_652⟩
theorem km_So_equate : kMi y_So_equate bc_So_equate 4 none 3 := ⟨⟨mC_653, mC_629, by decide, by decide, by decide⟩, mC_654, mC_655⟩
theorem km_So_listTerm : kMi y_So_listTerm bc_So_listTerm 6 none 2 := ⟨⟨mC_656, mC_629, by decide, by decide, by decide⟩, mC_657, mC_658⟩
theorem km_So_closeFrames : kMi y_So_closeFrames bc_So_closeFrames 4 none 1 := ⟨⟨mC_659, mC_629, by decide, by decide, by decide⟩, mC_660, mC_661⟩
theorem km_So_joinFrame : kMi y_So_joinFrame bc_So_joinFrame 6 none 4 := ⟨⟨mC_662, mC_629, by decide, by decide, by decide⟩, mC_663, mC_664⟩
theorem km_So_startKind : kMi y_So_startKind bc_So_startKind 7 (some .int) 3 := ⟨⟨mC_665, mC_629, by decide, by decide, by decide⟩, mC_666, mC_667⟩
theorem km_So_freeKind : kMi y_So_freeKind bc_So_freeKind 4 (some .int) 1 := ⟨⟨mC_668, mC_629, by decide, by decide, by decide⟩, mC_669, mC_670⟩
theorem km_Pl_replaceAll : kMi y_Pl_replaceAll bc_Pl_replaceAll 7 (some .boolean) 2 := ⟨⟨mC_671, mC_672, by decide, by decide, by decide⟩, mC_673, mC_674⟩
theorem km_Pl_replace : kMi y_Pl_replace bc_Pl_replace 6 none 2 := ⟨⟨mC_675, mC_672, by decide, by decide, by decide⟩, mC_676, mC_677⟩
theorem km_Pl_copyRightSide : kMi y_Pl_copyRightSide bc_Pl_copyRightSide 8 none 1 := ⟨⟨mC_678, mC_672, by decide, by decide, by decide⟩, mC_679, mC_680⟩
theorem km_Pl_copyNodes : kMi y_Pl_copyNodes bc_Pl_copyNodes 6 none 4 := ⟨⟨mC_681, mC_672, by decide, by decide, by decide⟩, mC_682, mC_683⟩
theorem km_Pl_keep : kMi y_Pl_keep bc_Pl_keep 2 none 0 := ⟨⟨mC_684, mC_672, by decide, by decide, by decide⟩, mC_685, mC_686⟩
theorem km_Pl_isAsKept : kMi y_Pl_isAsKept bc_Pl_isAsKept 1 (some .boolean) 0 := ⟨⟨mC_687, mC_672, by decide, by decide, by decide⟩, mC_688, mC_689⟩
theorem km_Pl_show : kMi y_Pl_show bc_Pl_show 3 none 1 := ⟨⟨mC_690, mC_672, by decide, by decide, by decide⟩, mC_691, mC_692⟩
theorem km_Pl_beginNode : kMi y_Pl_beginNode bc_Pl_beginNode 5 none 2 := ⟨⟨mC_693, mC_672, by decide, by decide, by decide⟩, mC_694, mC_695⟩
theorem km_Pl_endNodes : kMi y_Pl_endNodes bc_Pl_endNodes 4 none 1 := ⟨⟨mC_696, mC_672, by decide, by decide, by decide⟩, mC_697, mC_698⟩
theorem km_Pl_isWrapped : kMi y_Pl_isWrapped bc_Pl_isWrapped 4 (some .boolean) 2 := ⟨⟨mC_699, mC_672, by decide, by decide, by decide⟩, mC_700, mC_701⟩
theorem km_Q_feed : kMi y_Q_feed bc_Q_feed 6 (some .int) 5 := ⟨⟨mC_702, mC_703, by decide, by decide, by decide⟩, mC_704, mC_705⟩
theorem km_Q_cut : kMi y_Q_cut bc_Q_cut 3 (some .int) 1 := ⟨⟨mC_706, mC_703, by decide, by decide, by decide⟩, mC_707, mC_708⟩
theorem km_Q_read : kMi y_Q_read bc_Q_read 1 (some .int) 0 := ⟨⟨mC_709, mC_703, by decide, by decide, by decide⟩, mC_710, mC_711⟩
theorem km_Q_place : kMi y_Q_place bc_Q_place 1 (some .int) 0 := ⟨⟨mC_712, mC_703, by decide, by decide, by decide⟩, mC_713, mC_714⟩
theorem km_Q_side : kMi y_Q_side bc_Q_side 3 (some .int) 1 := ⟨⟨mC_715, mC_703, by decide, by decide, by decide⟩, mC_716, mC_717⟩
theorem km_Q_out : kMi y_Q_out bc_Q_out 2 (some .int) 1 := ⟨⟨mC_718, mC_703, by decide, by decide, by decide⟩, mC_719, mC_720⟩
theorem km_Q_told : kMi y_Q_told bc_Q_told 3 (some .int) 2 := ⟨⟨mC_721, mC_703, by decide, by decide, by decide⟩, mC_722, mC_723⟩
theorem km_Q_kindOf : kMi y_Q_kindOf bc_Q_kindOf 3 (some .int) 2 := ⟨⟨mC_724, mC_703, by decide, by decide, by decide⟩, mC_725, mC_726⟩
theorem km_Q_groups : kMi y_Q_groups bc_Q_groups 1 (some .int) 0 := ⟨⟨mC_727, mC_703, by decide, by decide, by decide⟩, mC_728, mC_729⟩
theorem km_Q_member : kMi y_Q_member bc_Q_member 3 (some .int) 2 := ⟨⟨mC_730, mC_703, by decide, by decide, by decide⟩, mC_731, mC_732⟩
theorem km_Q_needs : kMi y_Q_needs bc_Q_needs 3 (some .int) 2 := ⟨⟨mC_733, mC_703, by decide, by decide, by decide⟩, mC_734, mC_735⟩
theorem km_Q_kind : kMi y_Q_kind bc_Q_kind 1 (some .int) 0 := ⟨⟨mC_736, mC_703, by decide, by decide, by decide⟩, mC_737, mC_738⟩
theorem km_Q_plain : kMi y_Q_plain bc_Q_plain 1 (some .int) 0 := ⟨⟨mC_739, mC_703, by decide, by decide, by decide⟩, mC_740, mC_741⟩
theorem km_Q_same : kMi y_Q_same bc_Q_same 1 (some .int) 0 := ⟨⟨mC_742, mC_703, by decide, by decide, by decide⟩, mC_743, mC_744⟩
theorem km_Q_takeTypes : kMi y_Q_takeTypes bc_Q_takeTypes 3 (some .boolean) 1 := ⟨⟨mC_745, mC_703, by decide, by decide, by decide⟩, mC_746, mC_747⟩
theorem km_Q_showKind : kMi y_Q_showKind bc_Q_showKind 2 (some .int) 1 := ⟨⟨mC_748, mC_703, by decide, by decide, by decide⟩, mC_749, mC_750⟩
theorem km_Q_swapLines : kMi y_Q_swapLines bc_Q_swapLines 2 none 0 := ⟨⟨mC_751, mC_703, by decide, by decide, by decide⟩, mC_752, mC_753⟩
theorem kb_m10 : (Int8.ofInt (-10)).toInt32 = (-10 : Int32) := by decide
theorem kb_m2 : (Int8.ofInt (-2)).toInt32 = (-2 : Int32) := by decide
theorem kb_m3 : (Int8.ofInt (-3)).toInt32 = (-3 : Int32) := by decide
theorem kb_m4 : (Int8.ofInt (-4)).toInt32 = (-4 : Int32) := by decide
theorem kb_10 : (Int8.ofInt 10).toInt32 = (10 : Int32) := by decide
theorem kb_122 : (Int8.ofInt 122).toInt32 = (122 : Int32) := by decide
theorem kb_123 : (Int8.ofInt 123).toInt32 = (123 : Int32) := by decide
theorem kb_124 : (Int8.ofInt 124).toInt32 = (124 : Int32) := by decide
theorem kb_125 : (Int8.ofInt 125).toInt32 = (125 : Int32) := by decide
theorem kb_16 : (Int8.ofInt 16).toInt32 = (16 : Int32) := by decide
theorem kb_20 : (Int8.ofInt 20).toInt32 = (20 : Int32) := by decide
theorem kb_24 : (Int8.ofInt 24).toInt32 = (24 : Int32) := by decide
theorem kb_26 : (Int8.ofInt 26).toInt32 = (26 : Int32) := by decide
theorem kb_32 : (Int8.ofInt 32).toInt32 = (32 : Int32) := by decide
theorem kb_40 : (Int8.ofInt 40).toInt32 = (40 : Int32) := by decide
theorem kb_41 : (Int8.ofInt 41).toInt32 = (41 : Int32) := by decide
theorem kb_42 : (Int8.ofInt 42).toInt32 = (42 : Int32) := by decide
theorem kb_44 : (Int8.ofInt 44).toInt32 = (44 : Int32) := by decide
theorem kb_45 : (Int8.ofInt 45).toInt32 = (45 : Int32) := by decide
theorem kb_48 : (Int8.ofInt 48).toInt32 = (48 : Int32) := by decide
theorem kb_56 : (Int8.ofInt 56).toInt32 = (56 : Int32) := by decide
theorem kb_57 : (Int8.ofInt 57).toInt32 = (57 : Int32) := by decide
theorem kb_58 : (Int8.ofInt 58).toInt32 = (58 : Int32) := by decide
theorem kb_59 : (Int8.ofInt 59).toInt32 = (59 : Int32) := by decide
theorem kb_6 : (Int8.ofInt 6).toInt32 = (6 : Int32) := by decide
theorem kb_61 : (Int8.ofInt 61).toInt32 = (61 : Int32) := by decide
theorem kb_62 : (Int8.ofInt 62).toInt32 = (62 : Int32) := by decide
theorem kb_65 : (Int8.ofInt 65).toInt32 = (65 : Int32) := by decide
theorem kb_7 : (Int8.ofInt 7).toInt32 = (7 : Int32) := by decide
theorem kb_8 : (Int8.ofInt 8).toInt32 = (8 : Int32) := by decide
theorem kb_90 : (Int8.ofInt 90).toInt32 = (90 : Int32) := by decide
theorem kb_91 : (Int8.ofInt 91).toInt32 = (91 : Int32) := by decide
theorem kb_93 : (Int8.ofInt 93).toInt32 = (93 : Int32) := by decide
theorem kb_97 : (Int8.ofInt 97).toInt32 = (97 : Int32) := by decide
theorem ki_m1 : Int32.ofInt (-1) = (-1 : Int32) := by decide
theorem ki_m8 : Int32.ofInt (-8) = (-8 : Int32) := by decide
theorem ki_0 : Int32.ofInt 0 = (0 : Int32) := by decide
theorem ki_1 : Int32.ofInt 1 = (1 : Int32) := by decide
theorem ki_2 : Int32.ofInt 2 = (2 : Int32) := by decide
theorem ki_3 : Int32.ofInt 3 = (3 : Int32) := by decide
theorem ki_4 : Int32.ofInt 4 = (4 : Int32) := by decide
theorem ki_5 : Int32.ofInt 5 = (5 : Int32) := by decide
theorem ks_1200 : (Int16.ofInt 1200).toInt32 = (1200 : Int32) := by decide
theorem ks_1713 : (Int16.ofInt 1713).toInt32 = (1713 : Int32) := by decide
theorem ks_200 : (Int16.ofInt 200).toInt32 = (200 : Int32) := by decide
theorem ks_2000 : (Int16.ofInt 2000).toInt32 = (2000 : Int32) := by decide
theorem ks_216 : (Int16.ofInt 216).toInt32 = (216 : Int32) := by decide
theorem ks_2400 : (Int16.ofInt 2400).toInt32 = (2400 : Int32) := by decide
theorem ks_255 : (Int16.ofInt 255).toInt32 = (255 : Int32) := by decide
theorem ks_300 : (Int16.ofInt 300).toInt32 = (300 : Int32) := by decide
theorem ks_500 : (Int16.ofInt 500).toInt32 = (500 : Int32) := by decide
theorem ks_600 : (Int16.ofInt 600).toInt32 = (600 : Int32) := by decide
theorem sw_out0_5 {x : Int32} (h0 : ¬ x = (0 : Int32)) (h1 : ¬ x = (1 : Int32)) (h2 : ¬ x = (2 : Int32)) (h3 : ¬ x = (3 : Int32)) (h4 : ¬ x = (4 : Int32)) (h5 : ¬ x = (5 : Int32)) : x.toInt < 0 ∨ 5 < x.toInt := by
  have g0 : x.toInt ≠ 0 := fun h => h0 (Int32.toInt_inj.mp (h.trans (by decide)))
  have g1 : x.toInt ≠ 1 := fun h => h1 (Int32.toInt_inj.mp (h.trans (by decide)))
  have g2 : x.toInt ≠ 2 := fun h => h2 (Int32.toInt_inj.mp (h.trans (by decide)))
  have g3 : x.toInt ≠ 3 := fun h => h3 (Int32.toInt_inj.mp (h.trans (by decide)))
  have g4 : x.toInt ≠ 4 := fun h => h4 (Int32.toInt_inj.mp (h.trans (by decide)))
  have g5 : x.toInt ≠ 5 := fun h => h5 (Int32.toInt_inj.mp (h.trans (by decide)))
  omega
theorem sw_out0_6 {x : Int32} (h0 : ¬ x = (0 : Int32)) (h1 : ¬ x = (1 : Int32)) (h2 : ¬ x = (2 : Int32)) (h3 : ¬ x = (3 : Int32)) (h4 : ¬ x = (4 : Int32)) (h5 : ¬ x = (5 : Int32)) (h6 : ¬ x = (6 : Int32)) : x.toInt < 0 ∨ 6 < x.toInt := by
  have g0 : x.toInt ≠ 0 := fun h => h0 (Int32.toInt_inj.mp (h.trans (by decide)))
  have g1 : x.toInt ≠ 1 := fun h => h1 (Int32.toInt_inj.mp (h.trans (by decide)))
  have g2 : x.toInt ≠ 2 := fun h => h2 (Int32.toInt_inj.mp (h.trans (by decide)))
  have g3 : x.toInt ≠ 3 := fun h => h3 (Int32.toInt_inj.mp (h.trans (by decide)))
  have g4 : x.toInt ≠ 4 := fun h => h4 (Int32.toInt_inj.mp (h.trans (by decide)))
  have g5 : x.toInt ≠ 5 := fun h => h5 (Int32.toInt_inj.mp (h.trans (by decide)))
  have g6 : x.toInt ≠ 6 := fun h => h6 (Int32.toInt_inj.mp (h.trans (by decide)))
  omega
theorem sw_out4_7 {x : Int32} (h0 : ¬ x = (4 : Int32)) (h1 : ¬ x = (5 : Int32)) (h2 : ¬ x = (6 : Int32)) (h3 : ¬ x = (7 : Int32)) : x.toInt < 4 ∨ 7 < x.toInt := by
  have g0 : x.toInt ≠ 4 := fun h => h0 (Int32.toInt_inj.mp (h.trans (by decide)))
  have g1 : x.toInt ≠ 5 := fun h => h1 (Int32.toInt_inj.mp (h.trans (by decide)))
  have g2 : x.toInt ≠ 6 := fun h => h2 (Int32.toInt_inj.mp (h.trans (by decide)))
  have g3 : x.toInt ≠ 7 := fun h => h3 (Int32.toInt_inj.mp (h.trans (by decide)))
  omega
