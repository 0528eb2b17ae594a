/-! String.indexOf on the String of signs. Written by program (wip/gen/main_st.py). -/
abbrev bc_St_coder : ByteArray := prog_17_method_152_code
abbrev y_St_coder : MethodName := ⟨"java/lang/String", "coder", "()B"⟩
theorem d_St_coder_0 : decode bc_St_coder 0 = .ok (.getstatic 38, 3) := by decide +kernel
theorem d_St_coder_3 : decode bc_St_coder 3 = .ok (.ifCond .eq 10, 3) := by decide +kernel
theorem d_St_coder_6 : decode bc_St_coder 6 = .ok (.aload_n 0, 1) := by decide +kernel
theorem d_St_coder_7 : decode bc_St_coder 7 = .ok (.getfield 15, 3) := by decide +kernel
theorem d_St_coder_10 : decode bc_St_coder 10 = .ok (.goto 4, 3) := by decide +kernel
theorem d_St_coder_13 : decode bc_St_coder 13 = .ok (.iconst 1, 1) := by decide +kernel
theorem d_St_coder_14 : decode bc_St_coder 14 = .ok (.ireturn, 1) := by decide +kernel
abbrev bc_St_length : ByteArray := prog_17_method_54_code
abbrev y_St_length : MethodName := ⟨"java/lang/String", "length", "()I"⟩
theorem d_St_length_0 : decode bc_St_length 0 = .ok (.aload_n 0, 1) := by decide +kernel
theorem d_St_length_1 : decode bc_St_length 1 = .ok (.getfield 9, 3) := by decide +kernel
theorem d_St_length_4 : decode bc_St_length 4 = .ok (.arraylength, 1) := by decide +kernel
theorem d_St_length_5 : decode bc_St_length 5 = .ok (.aload_n 0, 1) := by decide +kernel
theorem d_St_length_6 : decode bc_St_length 6 = .ok (.invokevirtual 335, 3) := by decide +kernel
theorem d_St_length_9 : decode bc_St_length 9 = .ok (.ishr, 1) := by decide +kernel
theorem d_St_length_10 : decode bc_St_length 10 = .ok (.ireturn, 1) := by decide +kernel
abbrev bc_St_isLatin1 : ByteArray := prog_17_method_154_code
abbrev y_St_isLatin1 : MethodName := ⟨"java/lang/String", "isLatin1", "()Z"⟩
theorem d_St_isLatin1_0 : decode bc_St_isLatin1 0 = .ok (.getstatic 38, 3) := by decide +kernel
theorem d_St_isLatin1_3 : decode bc_St_isLatin1 3 = .ok (.ifCond .eq 14, 3) := by decide +kernel
theorem d_St_isLatin1_6 : decode bc_St_isLatin1 6 = .ok (.aload_n 0, 1) := by decide +kernel
theorem d_St_isLatin1_7 : decode bc_St_isLatin1 7 = .ok (.getfield 15, 3) := by decide +kernel
theorem d_St_isLatin1_10 : decode bc_St_isLatin1 10 = .ok (.ifCond .ne 7, 3) := by decide +kernel
theorem d_St_isLatin1_13 : decode bc_St_isLatin1 13 = .ok (.iconst 1, 1) := by decide +kernel
theorem d_St_isLatin1_14 : decode bc_St_isLatin1 14 = .ok (.goto 4, 3) := by decide +kernel
theorem d_St_isLatin1_17 : decode bc_St_isLatin1 17 = .ok (.iconst 0, 1) := by decide +kernel
theorem d_St_isLatin1_18 : decode bc_St_isLatin1 18 = .ok (.ireturn, 1) := by decide +kernel
abbrev bc_La_canEncode : ByteArray := prog_18_method_4_code
abbrev y_La_canEncode : MethodName := ⟨"java/lang/StringLatin1", "canEncode", "(I)Z"⟩
theorem d_La_canEncode_0 : decode bc_La_canEncode 0 = .ok (.iload_n 0, 1) := by decide +kernel
theorem d_La_canEncode_1 : decode bc_La_canEncode 1 = .ok (.ifCond .lt 14, 3) := by decide +kernel
theorem d_La_canEncode_4 : decode bc_La_canEncode 4 = .ok (.iload_n 0, 1) := by decide +kernel
theorem d_La_canEncode_5 : decode bc_La_canEncode 5 = .ok (.sipush 255, 3) := by decide +kernel
theorem d_La_canEncode_8 : decode bc_La_canEncode 8 = .ok (.if_icmp .gt 7, 3) := by decide +kernel
theorem d_La_canEncode_11 : decode bc_La_canEncode 11 = .ok (.iconst 1, 1) := by decide +kernel
theorem d_La_canEncode_12 : decode bc_La_canEncode 12 = .ok (.goto 4, 3) := by decide +kernel
theorem d_La_canEncode_15 : decode bc_La_canEncode 15 = .ok (.iconst 0, 1) := by decide +kernel
theorem d_La_canEncode_16 : decode bc_La_canEncode 16 = .ok (.ireturn, 1) := by decide +kernel
abbrev bc_La_indexOfChar : ByteArray := prog_18_method_23_code
abbrev y_La_indexOfChar : MethodName := ⟨"java/lang/StringLatin1", "indexOfChar", "([BIII)I"⟩
theorem d_La_indexOfChar_0 : decode bc_La_indexOfChar 0 = .ok (.iload_n 1, 1) := by decide +kernel
theorem d_La_indexOfChar_1 : decode bc_La_indexOfChar 1 = .ok (.i2b, 1) := by decide +kernel
theorem d_La_indexOfChar_2 : decode bc_La_indexOfChar 2 = .ok (.istore 4, 2) := by decide +kernel
theorem d_La_indexOfChar_4 : decode bc_La_indexOfChar 4 = .ok (.iload_n 2, 1) := by decide +kernel
theorem d_La_indexOfChar_5 : decode bc_La_indexOfChar 5 = .ok (.istore 5, 2) := by decide +kernel
theorem d_La_indexOfChar_7 : decode bc_La_indexOfChar 7 = .ok (.iload 5, 2) := by decide +kernel
theorem d_La_indexOfChar_9 : decode bc_La_indexOfChar 9 = .ok (.iload_n 3, 1) := by decide +kernel
theorem d_La_indexOfChar_10 : decode bc_La_indexOfChar 10 = .ok (.if_icmp .ge 21, 3) := by decide +kernel
theorem d_La_indexOfChar_13 : decode bc_La_indexOfChar 13 = .ok (.aload_n 0, 1) := by decide +kernel
theorem d_La_indexOfChar_14 : decode bc_La_indexOfChar 14 = .ok (.iload 5, 2) := by decide +kernel
theorem d_La_indexOfChar_16 : decode bc_La_indexOfChar 16 = .ok (.baload, 1) := by decide +kernel
theorem d_La_indexOfChar_17 : decode bc_La_indexOfChar 17 = .ok (.iload 4, 2) := by decide +kernel
theorem d_La_indexOfChar_19 : decode bc_La_indexOfChar 19 = .ok (.if_icmp .ne 6, 3) := by decide +kernel
theorem d_La_indexOfChar_22 : decode bc_La_indexOfChar 22 = .ok (.iload 5, 2) := by decide +kernel
theorem d_La_indexOfChar_24 : decode bc_La_indexOfChar 24 = .ok (.ireturn, 1) := by decide +kernel
theorem d_La_indexOfChar_25 : decode bc_La_indexOfChar 25 = .ok (.iinc 5 1, 3) := by decide +kernel
theorem d_La_indexOfChar_28 : decode bc_La_indexOfChar 28 = .ok (.goto (-21), 3) := by decide +kernel
theorem d_La_indexOfChar_31 : decode bc_La_indexOfChar 31 = .ok (.iconst (-1), 1) := by decide +kernel
theorem d_La_indexOfChar_32 : decode bc_La_indexOfChar 32 = .ok (.ireturn, 1) := by decide +kernel
abbrev bc_La_indexOf : ByteArray := prog_18_method_22_code
abbrev y_La_indexOf : MethodName := ⟨"java/lang/StringLatin1", "indexOf", "([BIII)I"⟩
theorem d_La_indexOf_0 : decode bc_La_indexOf 0 = .ok (.iload_n 1, 1) := by decide +kernel
theorem d_La_indexOf_1 : decode bc_La_indexOf 1 = .ok (.invokestatic 88, 3) := by decide +kernel
theorem d_La_indexOf_4 : decode bc_La_indexOf 4 = .ok (.ifCond .ne 5, 3) := by decide +kernel
theorem d_La_indexOf_7 : decode bc_La_indexOf 7 = .ok (.iconst (-1), 1) := by decide +kernel
theorem d_La_indexOf_8 : decode bc_La_indexOf 8 = .ok (.ireturn, 1) := by decide +kernel
theorem d_La_indexOf_9 : decode bc_La_indexOf 9 = .ok (.iload_n 2, 1) := by decide +kernel
theorem d_La_indexOf_10 : decode bc_La_indexOf 10 = .ok (.iconst 0, 1) := by decide +kernel
theorem d_La_indexOf_11 : decode bc_La_indexOf 11 = .ok (.invokestatic 92, 3) := by decide +kernel
theorem d_La_indexOf_14 : decode bc_La_indexOf 14 = .ok (.istore_n 2, 1) := by decide +kernel
theorem d_La_indexOf_15 : decode bc_La_indexOf 15 = .ok (.iload_n 3, 1) := by decide +kernel
theorem d_La_indexOf_16 : decode bc_La_indexOf 16 = .ok (.aload_n 0, 1) := by decide +kernel
theorem d_La_indexOf_17 : decode bc_La_indexOf 17 = .ok (.arraylength, 1) := by decide +kernel
theorem d_La_indexOf_18 : decode bc_La_indexOf 18 = .ok (.invokestatic 38, 3) := by decide +kernel
theorem d_La_indexOf_21 : decode bc_La_indexOf 21 = .ok (.istore_n 3, 1) := by decide +kernel
theorem d_La_indexOf_22 : decode bc_La_indexOf 22 = .ok (.iload_n 2, 1) := by decide +kernel
theorem d_La_indexOf_23 : decode bc_La_indexOf 23 = .ok (.iload_n 3, 1) := by decide +kernel
theorem d_La_indexOf_24 : decode bc_La_indexOf 24 = .ok (.if_icmp .lt 5, 3) := by decide +kernel
theorem d_La_indexOf_27 : decode bc_La_indexOf 27 = .ok (.iconst (-1), 1) := by decide +kernel
theorem d_La_indexOf_28 : decode bc_La_indexOf 28 = .ok (.ireturn, 1) := by decide +kernel
theorem d_La_indexOf_29 : decode bc_La_indexOf 29 = .ok (.aload_n 0, 1) := by decide +kernel
theorem d_La_indexOf_30 : decode bc_La_indexOf 30 = .ok (.iload_n 1, 1) := by decide +kernel
theorem d_La_indexOf_31 : decode bc_La_indexOf 31 = .ok (.iload_n 2, 1) := by decide +kernel
theorem d_La_indexOf_32 : decode bc_La_indexOf 32 = .ok (.iload_n 3, 1) := by decide +kernel
theorem d_La_indexOf_33 : decode bc_La_indexOf 33 = .ok (.invokestatic 95, 3) := by decide +kernel
theorem d_La_indexOf_36 : decode bc_La_indexOf 36 = .ok (.ireturn, 1) := by decide +kernel
abbrev bc_St_indexOf2 : ByteArray := prog_17_method_80_code
abbrev y_St_indexOf2 : MethodName := ⟨"java/lang/String", "indexOf", "(II)I"⟩
theorem d_St_indexOf2_0 : decode bc_St_indexOf2 0 = .ok (.aload_n 0, 1) := by decide +kernel
theorem d_St_indexOf2_1 : decode bc_St_indexOf2 1 = .ok (.invokevirtual 492, 3) := by decide +kernel
theorem d_St_indexOf2_4 : decode bc_St_indexOf2 4 = .ok (.ifCond .eq 19, 3) := by decide +kernel
theorem d_St_indexOf2_7 : decode bc_St_indexOf2 7 = .ok (.aload_n 0, 1) := by decide +kernel
theorem d_St_indexOf2_8 : decode bc_St_indexOf2 8 = .ok (.getfield 9, 3) := by decide +kernel
theorem d_St_indexOf2_11 : decode bc_St_indexOf2 11 = .ok (.iload_n 1, 1) := by decide +kernel
theorem d_St_indexOf2_12 : decode bc_St_indexOf2 12 = .ok (.iload_n 2, 1) := by decide +kernel
theorem d_St_indexOf2_13 : decode bc_St_indexOf2 13 = .ok (.aload_n 0, 1) := by decide +kernel
theorem d_St_indexOf2_14 : decode bc_St_indexOf2 14 = .ok (.invokevirtual 505, 3) := by decide +kernel
theorem d_St_indexOf2_17 : decode bc_St_indexOf2 17 = .ok (.invokestatic 637, 3) := by decide +kernel
theorem d_St_indexOf2_20 : decode bc_St_indexOf2 20 = .ok (.goto 16, 3) := by decide +kernel
theorem d_St_indexOf2_23 : decode bc_St_indexOf2 23 = .ok (.aload_n 0, 1) := by decide +kernel
theorem d_St_indexOf2_24 : decode bc_St_indexOf2 24 = .ok (.getfield 9, 3) := by decide +kernel
theorem d_St_indexOf2_27 : decode bc_St_indexOf2 27 = .ok (.iload_n 1, 1) := by decide +kernel
theorem d_St_indexOf2_28 : decode bc_St_indexOf2 28 = .ok (.iload_n 2, 1) := by decide +kernel
theorem d_St_indexOf2_29 : decode bc_St_indexOf2 29 = .ok (.aload_n 0, 1) := by decide +kernel
theorem d_St_indexOf2_30 : decode bc_St_indexOf2 30 = .ok (.invokevirtual 505, 3) := by decide +kernel
theorem d_St_indexOf2_33 : decode bc_St_indexOf2 33 = .ok (.invokestatic 640, 3) := by decide +kernel
theorem d_St_indexOf2_36 : decode bc_St_indexOf2 36 = .ok (.ireturn, 1) := by decide +kernel
abbrev bc_St_indexOf : ByteArray := prog_17_method_79_code
abbrev y_St_indexOf : MethodName := ⟨"java/lang/String", "indexOf", "(I)I"⟩
theorem d_St_indexOf_0 : decode bc_St_indexOf 0 = .ok (.aload_n 0, 1) := by decide +kernel
theorem d_St_indexOf_1 : decode bc_St_indexOf 1 = .ok (.iload_n 1, 1) := by decide +kernel
theorem d_St_indexOf_2 : decode bc_St_indexOf 2 = .ok (.iconst 0, 1) := by decide +kernel
theorem d_St_indexOf_3 : decode bc_St_indexOf 3 = .ok (.invokevirtual 633, 3) := by decide +kernel
theorem d_St_indexOf_6 : decode bc_St_indexOf 6 = .ok (.ireturn, 1) := by decide +kernel
set_option maxHeartbeats 4000000 in
set_option maxRecDepth 100000 in
theorem mST_0 : (Cond.code ({ cls := "java/lang/String", name := "coder", desc := "()B" } : Jvm.MethodName) prog_17_method_152_code (1 : Nat) (Option.some Jvm.ClassFile.FieldType.byte)) ∈ lw_good := good_in (List.mem_append_right _ (List.mem_append_right _ (List.mem_append_right _ (List.mem_append_left _ (List.mem_of_getElem? (i := 111) (l := tables_1_3) rfl))))) rfl
set_option maxHeartbeats 4000000 in
set_option maxRecDepth 100000 in
theorem mST_1 : (Cond.initialized "java/lang/String") ∈ lw_good := good_in (List.mem_append_right _ (List.mem_append_left _ (List.mem_of_getElem? (i := 14) (l := tables_1_1) rfl))) rfl
set_option maxHeartbeats 4000000 in
set_option maxRecDepth 100000 in
theorem mST_2 : (Cond.instanceMethod ({ cls := "java/lang/String", name := "coder", desc := "()B" } : Jvm.MethodName)) ∈ lw_good := good_in (List.mem_append_right _ (List.mem_append_right _ (List.mem_append_right _ (List.mem_append_left _ (List.mem_of_getElem? (i := 109) (l := tables_1_3) rfl))))) rfl
set_option maxHeartbeats 4000000 in
set_option maxRecDepth 100000 in
theorem mST_3 : (Cond.selects "java/lang/String" ({ cls := "java/lang/String", name := "coder", desc := "()B" } : Jvm.MethodName) ({ cls := "java/lang/String", name := "coder", desc := "()B" } : Jvm.MethodName)) ∈ lw_good := good_in (List.mem_append_right _ (List.mem_append_right _ (List.mem_append_right _ (List.mem_append_left _ (List.mem_of_getElem? (i := 110) (l := tables_1_3) rfl))))) rfl
set_option maxHeartbeats 4000000 in
set_option maxRecDepth 100000 in
theorem mST_4 : (Cond.fieldLink "java/lang/String" (38 : Nat) "java/lang/String" "COMPACT_STRINGS" "Z") ∈ lw_good := good_in (List.mem_append_right _ (List.mem_append_right _ (List.mem_append_right _ (List.mem_append_left _ (List.mem_of_getElem? (i := 102) (l := tables_1_3) rfl))))) rfl
set_option maxHeartbeats 4000000 in
set_option maxRecDepth 100000 in
theorem mST_5 : (Cond.fieldLink "java/lang/String" (15 : Nat) "java/lang/String" "coder" "B") ∈ lw_good := good_in (List.mem_append_right _ (List.mem_append_right _ (List.mem_append_right _ (List.mem_append_right _ (List.mem_append_right _ (List.mem_append_right _ (List.mem_append_right _ (List.mem_append_right _ (List.mem_of_getElem? (i := 181) (l := tables_1_8) rfl))))))))) rfl
set_option maxHeartbeats 4000000 in
set_option maxRecDepth 100000 in
theorem mST_6 : (Cond.code ({ cls := "java/lang/String", name := "length", desc := "()I" } : Jvm.MethodName) prog_17_method_54_code (1 : Nat) (Option.some Jvm.ClassFile.FieldType.int)) ∈ lw_good := good_in (List.mem_append_right _ (List.mem_append_right _ (List.mem_append_right _ (List.mem_append_left _ (List.mem_of_getElem? (i := 107) (l := tables_1_3) rfl))))) rfl
set_option maxHeartbeats 4000000 in
set_option maxRecDepth 100000 in
theorem mST_7 : (Cond.instanceMethod ({ cls := "java/lang/String", name := "length", desc := "()I" } : Jvm.MethodName)) ∈ lw_good := good_in (List.mem_append_right _ (List.mem_append_right _ (List.mem_append_right _ (List.mem_append_left _ (List.mem_of_getElem? (i := 105) (l := tables_1_3) rfl))))) rfl
set_option maxHeartbeats 4000000 in
set_option maxRecDepth 100000 in
theorem mST_8 : (Cond.selects "java/lang/String" ({ cls := "java/lang/String", name := "length", desc := "()I" } : Jvm.MethodName) ({ cls := "java/lang/String", name := "length", desc := "()I" } : Jvm.MethodName)) ∈ lw_good := good_in (List.mem_append_right _ (List.mem_append_right _ (List.mem_append_right _ (List.mem_append_left _ (List.mem_of_getElem? (i := 106) (l := tables_1_3) rfl))))) rfl
set_option maxHeartbeats 4000000 in
set_option maxRecDepth 100000 in
theorem mST_9 : (Cond.fieldLink "java/lang/String" (9 : Nat) "java/lang/String" "value" "[B") ∈ lw_good := good_in (List.mem_append_right _ (List.mem_append_right _ (List.mem_append_right _ (List.mem_append_right _ (List.mem_append_right _ (List.mem_append_right _ (List.mem_append_right _ (List.mem_append_right _ (List.mem_of_getElem? (i := 182) (l := tables_1_8) rfl))))))))) rfl
set_option maxHeartbeats 4000000 in
set_option maxRecDepth 100000 in
theorem mST_10 : (Cond.methodLink "java/lang/String" (335 : Nat) ({ cls := "java/lang/String", name := "coder", desc := "()B" } : Jvm.MethodName)) ∈ lw_good := good_in (List.mem_append_right _ (List.mem_append_right _ (List.mem_append_right _ (List.mem_append_left _ (List.mem_of_getElem? (i := 108) (l := tables_1_3) rfl))))) rfl
set_option maxHeartbeats 4000000 in
set_option maxRecDepth 100000 in
theorem mST_11 : (Cond.code ({ cls := "java/lang/String", name := "isLatin1", desc := "()Z" } : Jvm.MethodName) prog_17_method_154_code (1 : Nat) (Option.some Jvm.ClassFile.FieldType.boolean)) ∈ lw_good := good_in (List.mem_append_right _ (List.mem_append_right _ (List.mem_append_right _ (List.mem_append_left _ (List.mem_of_getElem? (i := 101) (l := tables_1_3) rfl))))) rfl
set_option maxHeartbeats 4000000 in
set_option maxRecDepth 100000 in
theorem mST_12 : (Cond.instanceMethod ({ cls := "java/lang/String", name := "isLatin1", desc := "()Z" } : Jvm.MethodName)) ∈ lw_good := good_in (List.mem_append_right _ (List.mem_append_right _ (List.mem_append_right _ (List.mem_append_left _ (List.mem_of_getElem? (i := 99) (l := tables_1_3) rfl))))) rfl
set_option maxHeartbeats 4000000 in
set_option maxRecDepth 100000 in
theorem mST_13 : (Cond.selects "java/lang/String" ({ cls := "java/lang/String", name := "isLatin1", desc := "()Z" } : Jvm.MethodName) ({ cls := "java/lang/String", name := "isLatin1", desc := "()Z" } : Jvm.MethodName)) ∈ lw_good := good_in (List.mem_append_right _ (List.mem_append_right _ (List.mem_append_right _ (List.mem_append_left _ (List.mem_of_getElem? (i := 100) (l := tables_1_3) rfl))))) rfl
set_option maxHeartbeats 4000000 in
set_option maxRecDepth 100000 in
theorem mST_14 : (Cond.code ({ cls := "java/lang/StringLatin1", name := "canEncode", desc := "(I)Z" } : Jvm.MethodName) prog_18_method_4_code (1 : Nat) (Option.some Jvm.ClassFile.FieldType.boolean)) ∈ lw_good := good_in (List.mem_append_right _ (List.mem_append_right _ (List.mem_append_right _ (List.mem_append_left _ (List.mem_of_getElem? (i := 117) (l := tables_1_3) rfl))))) rfl
set_option maxHeartbeats 4000000 in
set_option maxRecDepth 100000 in
theorem mST_15 : (Cond.initialized "java/lang/StringLatin1") ∈ lw_good := good_in (List.mem_append_right _ (List.mem_append_left _ (List.mem_of_getElem? (i := 15) (l := tables_1_1) rfl))) rfl
set_option maxHeartbeats 4000000 in
set_option maxRecDepth 100000 in
theorem mST_16 : (Cond.static ({ cls := "java/lang/StringLatin1", name := "canEncode", desc := "(I)Z" } : Jvm.MethodName)) ∈ lw_good := good_in (List.mem_append_right _ (List.mem_append_right _ (List.mem_append_right _ (List.mem_append_left _ (List.mem_of_getElem? (i := 116) (l := tables_1_3) rfl))))) rfl
set_option maxHeartbeats 4000000 in
set_option maxRecDepth 100000 in
theorem mST_17 : (Cond.code ({ cls := "java/lang/StringLatin1", name := "indexOfChar", desc := "([BIII)I" } : Jvm.MethodName) prog_18_method_23_code (6 : Nat) (Option.some Jvm.ClassFile.FieldType.int)) ∈ lw_good := good_in (List.mem_append_right _ (List.mem_append_right _ (List.mem_append_right _ (List.mem_append_left _ (List.mem_of_getElem? (i := 126) (l := tables_1_3) rfl))))) rfl
set_option maxHeartbeats 4000000 in
set_option maxRecDepth 100000 in
theorem mST_18 : (Cond.static ({ cls := "java/lang/StringLatin1", name := "indexOfChar", desc := "([BIII)I" } : Jvm.MethodName)) ∈ lw_good := good_in (List.mem_append_right _ (List.mem_append_right _ (List.mem_append_right _ (List.mem_append_left _ (List.mem_of_getElem? (i := 125) (l := tables_1_3) rfl))))) rfl
set_option maxHeartbeats 4000000 in
set_option maxRecDepth 100000 in
theorem mST_19 : (Cond.code ({ cls := "java/lang/StringLatin1", name := "indexOf", desc := "([BIII)I" } : Jvm.MethodName) prog_18_method_22_code (4 : Nat) (Option.some Jvm.ClassFile.FieldType.int)) ∈ lw_good := good_in (List.mem_append_right _ (List.mem_append_right _ (List.mem_append_right _ (List.mem_append_left _ (List.mem_of_getElem? (i := 114) (l := tables_1_3) rfl))))) rfl
set_option maxHeartbeats 4000000 in
set_option maxRecDepth 100000 in
theorem mST_20 : (Cond.static ({ cls := "java/lang/StringLatin1", name := "indexOf", desc := "([BIII)I" } : Jvm.MethodName)) ∈ lw_good := good_in (List.mem_append_right _ (List.mem_append_right _ (List.mem_append_right _ (List.mem_append_left _ (List.mem_of_getElem? (i := 113) (l := tables_1_3) rfl))))) rfl
set_option maxHeartbeats 4000000 in
set_option maxRecDepth 100000 in
theorem mST_21 : (Cond.methodLink "java/lang/StringLatin1" (88 : Nat) ({ cls := "java/lang/StringLatin1", name := "canEncode", desc := "(I)Z" } : Jvm.MethodName)) ∈ lw_good := good_in (List.mem_append_right _ (List.mem_append_right _ (List.mem_append_right _ (List.mem_append_left _ (List.mem_of_getElem? (i := 115) (l := tables_1_3) rfl))))) rfl
set_option maxHeartbeats 4000000 in
set_option maxRecDepth 100000 in
theorem mST_22 : (Cond.methodLink "java/lang/StringLatin1" (92 : Nat) ({ cls := "java/lang/Math", name := "max", desc := "(II)I" } : Jvm.MethodName)) ∈ lw_good := good_in (List.mem_append_right _ (List.mem_append_right _ (List.mem_append_right _ (List.mem_append_left _ (List.mem_of_getElem? (i := 118) (l := tables_1_3) rfl))))) rfl
set_option maxHeartbeats 4000000 in
set_option maxRecDepth 100000 in
theorem mST_23 : (Cond.static ({ cls := "java/lang/Math", name := "max", desc := "(II)I" } : Jvm.MethodName)) ∈ lw_good := good_in (List.mem_append_right _ (List.mem_append_right _ (List.mem_append_right _ (List.mem_append_left _ (List.mem_of_getElem? (i := 119) (l := tables_1_3) rfl))))) rfl
set_option maxHeartbeats 4000000 in
set_option maxRecDepth 100000 in
theorem mST_24 : (Cond.initialized "java/lang/Math") ∈ lw_good := good_in (List.mem_append_right _ (List.mem_append_left _ (List.mem_of_getElem? (i := 16) (l := tables_1_1) rfl))) rfl
set_option maxHeartbeats 4000000 in
set_option maxRecDepth 100000 in
theorem mST_25 : (Cond.code ({ cls := "java/lang/Math", name := "max", desc := "(II)I" } : Jvm.MethodName) prog_16_method_65_code (2 : Nat) (Option.some Jvm.ClassFile.FieldType.int)) ∈ lw_good := good_in (List.mem_append_right _ (List.mem_append_right _ (List.mem_append_right _ (List.mem_append_left _ (List.mem_of_getElem? (i := 120) (l := tables_1_3) rfl))))) rfl
set_option maxHeartbeats 4000000 in
set_option maxRecDepth 100000 in
theorem mST_26 : (Cond.methodLink "java/lang/StringLatin1" (38 : Nat) ({ cls := "java/lang/Math", name := "min", desc := "(II)I" } : Jvm.MethodName)) ∈ lw_good := good_in (List.mem_append_right _ (List.mem_append_right _ (List.mem_append_right _ (List.mem_append_left _ (List.mem_of_getElem? (i := 121) (l := tables_1_3) rfl))))) rfl
set_option maxHeartbeats 4000000 in
set_option maxRecDepth 100000 in
theorem mST_27 : (Cond.static ({ cls := "java/lang/Math", name := "min", desc := "(II)I" } : Jvm.MethodName)) ∈ lw_good := good_in (List.mem_append_right _ (List.mem_append_right _ (List.mem_append_right _ (List.mem_append_left _ (List.mem_of_getElem? (i := 122) (l := tables_1_3) rfl))))) rfl
set_option maxHeartbeats 4000000 in
set_option maxRecDepth 100000 in
theorem mST_28 : (Cond.code ({ cls := "java/lang/Math", name := "min", desc := "(II)I" } : Jvm.MethodName) prog_16_method_69_code (2 : Nat) (Option.some Jvm.ClassFile.FieldType.int)) ∈ lw_good := good_in (List.mem_append_right _ (List.mem_append_right _ (List.mem_append_right _ (List.mem_append_left _ (List.mem_of_getElem? (i := 123) (l := tables_1_3) rfl))))) rfl
set_option maxHeartbeats 4000000 in
set_option maxRecDepth 100000 in
theorem mST_29 : (Cond.methodLink "java/lang/StringLatin1" (95 : Nat) ({ cls := "java/lang/StringLatin1", name := "indexOfChar", desc := "([BIII)I" } : Jvm.MethodName)) ∈ lw_good := good_in (List.mem_append_right _ (List.mem_append_right _ (List.mem_append_right _ (List.mem_append_left _ (List.mem_of_getElem? (i := 124) (l := tables_1_3) rfl))))) rfl
set_option maxHeartbeats 4000000 in
set_option maxRecDepth 100000 in
theorem mST_30 : (Cond.code ({ cls := "java/lang/String", name := "indexOf", desc := "(II)I" } : Jvm.MethodName) prog_17_method_80_code (3 : Nat) (Option.some Jvm.ClassFile.FieldType.int)) ∈ lw_good := good_in (List.mem_append_right _ (List.mem_append_right _ (List.mem_append_right _ (List.mem_append_left _ (List.mem_of_getElem? (i := 97) (l := tables_1_3) rfl))))) rfl
set_option maxHeartbeats 4000000 in
set_option maxRecDepth 100000 in
theorem mST_31 : (Cond.instanceMethod ({ cls := "java/lang/String", name := "indexOf", desc := "(II)I" } : Jvm.MethodName)) ∈ lw_good := good_in (List.mem_append_right _ (List.mem_append_right _ (List.mem_append_right _ (List.mem_append_left _ (List.mem_of_getElem? (i := 95) (l := tables_1_3) rfl))))) rfl
set_option maxHeartbeats 4000000 in
set_option maxRecDepth 100000 in
theorem mST_32 : (Cond.selects "java/lang/String" ({ cls := "java/lang/String", name := "indexOf", desc := "(II)I" } : Jvm.MethodName) ({ cls := "java/lang/String", name := "indexOf", desc := "(II)I" } : Jvm.MethodName)) ∈ lw_good := good_in (List.mem_append_right _ (List.mem_append_right _ (List.mem_append_right _ (List.mem_append_left _ (List.mem_of_getElem? (i := 96) (l := tables_1_3) rfl))))) rfl
set_option maxHeartbeats 4000000 in
set_option maxRecDepth 100000 in
theorem mST_33 : (Cond.methodLink "java/lang/String" (492 : Nat) ({ cls := "java/lang/String", name := "isLatin1", desc := "()Z" } : Jvm.MethodName)) ∈ lw_good := good_in (List.mem_append_right _ (List.mem_append_right _ (List.mem_append_right _ (List.mem_append_left _ (List.mem_of_getElem? (i := 98) (l := tables_1_3) rfl))))) rfl
set_option maxHeartbeats 4000000 in
set_option maxRecDepth 100000 in
theorem mST_34 : (Cond.methodLink "java/lang/String" (505 : Nat) ({ cls := "java/lang/String", name := "length", desc := "()I" } : Jvm.MethodName)) ∈ lw_good := good_in (List.mem_append_right _ (List.mem_append_right _ (List.mem_append_right _ (List.mem_append_left _ (List.mem_of_getElem? (i := 104) (l := tables_1_3) rfl))))) rfl
set_option maxHeartbeats 4000000 in
set_option maxRecDepth 100000 in
theorem mST_35 : (Cond.methodLink "java/lang/String" (637 : Nat) ({ cls := "java/lang/StringLatin1", name := "indexOf", desc := "([BIII)I" } : Jvm.MethodName)) ∈ lw_good := good_in (List.mem_append_right _ (List.mem_append_right _ (List.mem_append_right _ (List.mem_append_left _ (List.mem_of_getElem? (i := 112) (l := tables_1_3) rfl))))) rfl
set_option maxHeartbeats 4000000 in
set_option maxRecDepth 100000 in
theorem mST_36 : (Cond.code ({ cls := "java/lang/String", name := "indexOf", desc := "(I)I" } : Jvm.MethodName) prog_17_method_79_code (2 : Nat) (Option.some Jvm.ClassFile.FieldType.int)) ∈ lw_good := good_in (List.mem_append_right _ (List.mem_append_right _ (List.mem_append_right _ (List.mem_append_left _ (List.mem_of_getElem? (i := 93) (l := tables_1_3) rfl))))) rfl
set_option maxHeartbeats 4000000 in
set_option maxRecDepth 100000 in
theorem mST_37 : (Cond.instanceMethod ({ cls := "java/lang/String", name := "indexOf", desc := "(I)I" } : Jvm.MethodName)) ∈ lw_good := good_in (List.mem_append_right _ (List.mem_append_right _ (List.mem_append_right _ (List.mem_append_left _ (List.mem_of_getElem? (i := 91) (l := tables_1_3) rfl))))) rfl
set_option maxHeartbeats 4000000 in
set_option maxRecDepth 100000 in
theorem mST_38 : (Cond.selects "java/lang/String" ({ cls := "java/lang/String", name := "indexOf", desc := "(I)I" } : Jvm.MethodName) ({ cls := "java/lang/String", name := "indexOf", desc := "(I)I" } : Jvm.MethodName)) ∈ lw_good := good_in (List.mem_append_right _ (List.mem_append_right _ (List.mem_append_right _ (List.mem_append_left _ (List.mem_of_getElem? (i := 92) (l := tables_1_3) rfl))))) rfl
set_option maxHeartbeats 4000000 in
set_option maxRecDepth 100000 in
theorem mST_39 : (Cond.methodLink "java/lang/String" (633 : Nat) ({ cls := "java/lang/String", name := "indexOf", desc := "(II)I" } : Jvm.MethodName)) ∈ lw_good := good_in (List.mem_append_right _ (List.mem_append_right _ (List.mem_append_right _ (List.mem_append_left _ (List.mem_of_getElem? (i := 94) (l := tables_1_3) rfl))))) rfl
theorem km_St_coder : kMi y_St_coder bc_St_coder 1 (some .byte) 0 := ⟨⟨mST_0, mST_1, by decide, by decide, by decide⟩, mST_2, mST_3⟩
theorem km_St_length : kMi y_St_length bc_St_length 1 (some .int) 0 := ⟨⟨mST_6, mST_1, by decide, by decide, by decide⟩, mST_7, mST_8⟩
theorem km_St_isLatin1 : kMi y_St_isLatin1 bc_St_isLatin1 1 (some .boolean) 0 := ⟨⟨mST_11, mST_1, by decide, by decide, by decide⟩, mST_12, mST_13⟩
theorem km_La_canEncode : kMs y_La_canEncode bc_La_canEncode 1 (some .boolean) 1 := ⟨⟨mST_14, mST_15, by decide, by decide, by decide⟩, mST_16⟩
theorem km_La_indexOfChar : kMs y_La_indexOfChar bc_La_indexOfChar 6 (some .int) 4 := ⟨⟨mST_17, mST_15, by decide, by decide, by decide⟩, mST_18⟩
theorem km_La_indexOf : kMs y_La_indexOf bc_La_indexOf 4 (some .int) 4 := ⟨⟨mST_19, mST_15, by decide, by decide, by decide⟩, mST_20⟩
theorem km_St_indexOf2 : kMi y_St_indexOf2 bc_St_indexOf2 3 (some .int) 2 := ⟨⟨mST_30, mST_1, by decide, by decide, by decide⟩, mST_31, mST_32⟩
theorem km_St_indexOf : kMi y_St_indexOf bc_St_indexOf 2 (some .int) 1 := ⟨⟨mST_36, mST_1, by decide, by decide, by decide⟩, mST_37, mST_38⟩
section STL
variable {D : va_G} {ad : Nat → Nat} {cA : Nat → ClassId} {q t : Nat} {p : Program} {l : Launch} {e : Env} {R : Room} {s : State} {m : MethodId} {args : Array Value} {below : List Frame} {meth : Method} {c : Code} {cc : ByteArray} {own : String} {nL : Nat} {Q : State → Prop} {pc : Nat} {lv : List (Nat × Value)} {st : List Value} {σ σ' : zS}
def sgAs (ad : Nat → Nat) (q t : Nat) (U : State) : Prop := vk_S 1 [11] [sgB] (fun _ => q) (fun _ => t) (owC ad) U U.heap ∧ va_Z "java/lang/String" "COMPACT_STRINGS" "Z" (.int 1) (owC ad) U U.heap
theorem sgAs_P : xP (owC ad) (sgAs ad q t) := by
  intro s U locs h hS hW
  exact ⟨(vk_S.moved hW.alike h.1).kept hS.2.1, (va_Z.moved hW.alike h.2).kept hS.2.1⟩
theorem z_scs (C : CC D ad cA (sgAs ad q t) p s m args meth c cc "java/lang/String" nL) {index : Nat} (hw : Cond.fieldLink "java/lang/String" index "java/lang/String" "COMPACT_STRINGS" "Z" ∈ lw_good) (hd : decode cc pc = .ok (.getstatic index, 3)) (k : ZC D ad cA p l e R s m args below meth c nL Q (pc + 3) lv (.int 1 :: st) σ) : ZC D ad cA p l e R s m args below meth c nL Q pc lv st σ :=
  fun H locs ls hP hS hl => va_gets C.1 C.2.1 C.2.2.2.2.2.2.2.2.2.1.2 hS C.2.2.2.1 (C.2.2.2.2.1 _ hw) (fun _ h => h) hd (k H locs ls hP hS hl)
theorem z_sval (C : CC D ad cA (sgAs ad q t) p s m args meth c cc "java/lang/String" nL) {index : Nat} (hw : Cond.fieldLink "java/lang/String" index "java/lang/String" "value" "[B" ∈ lw_good) (hd : decode cc pc = .ok (.getfield index, 3)) (k : ZC D ad cA p l e R s m args below meth c nL Q (pc + 3) lv (.ref t :: st) σ) : ZC D ad cA p l e R s m args below meth c nL Q pc lv (.ref q :: st) σ :=
  fun H locs ls hP hS hl => vk_getf C.1 C.2.1 (C.2.2.2.2.2.2.2.2.2.1.1.1 0 (by decide)).2.2.1 hS C.2.2.2.1 (C.2.2.2.2.1 _ hw) (fun _ h => h) hd (k H locs ls hP hS hl)
theorem z_scod (C : CC D ad cA (sgAs ad q t) p s m args meth c cc "java/lang/String" nL) {index : Nat} (hw : Cond.fieldLink "java/lang/String" index "java/lang/String" "coder" "B" ∈ lw_good) (hd : decode cc pc = .ok (.getfield index, 3)) (k : ZC D ad cA p l e R s m args below meth c nL Q (pc + 3) lv (.int 0 :: st) σ) : ZC D ad cA p l e R s m args below meth c nL Q pc lv (.ref q :: st) σ :=
  fun H locs ls hP hS hl => vk_getf C.1 C.2.1 (C.2.2.2.2.2.2.2.2.2.1.1.1 0 (by decide)).2.1 hS C.2.2.2.1 (C.2.2.2.2.1 _ hw) (fun _ h => h) hd (k H locs ls hP hS hl)
theorem z_sln (C : CC D ad cA (sgAs ad q t) p s m args meth c cc own nL) (hd : decode cc pc = .ok (.arraylength, 1)) (k : ZC D ad cA p l e R s m args below meth c nL Q (pc + 1) lv (.int 11 :: st) σ) : ZC D ad cA p l e R s m args below meth c nL Q pc lv (.ref t :: st) σ :=
  fun H locs ls hP hS hl => va_tlen C.1 C.2.1 (C.2.2.2.2.2.2.2.2.2.1.1.1 0 (by decide)).2.2.2 hS rfl hd (k H locs ls hP hS hl)
theorem z_sby (C : CC D ad cA (sgAs ad q t) p s m args meth c cc own nL) {i : Int32} (hin : inb i 11 = true) (hd : decode cc pc = .ok (.baload, 1)) (k : ZC D ad cA p l e R s m args below meth c nL Q (pc + 1) lv (.int (sgB.getD i.toNatClampNeg 0) :: st) σ) : ZC D ad cA p l e R s m args below meth c nL Q pc lv (.int i :: .ref t :: st) σ :=
  fun H locs ls hP hS hl => va_tb C.1 C.2.1 (C.2.2.2.2.2.2.2.2.2.1.1.1 0 (by decide)).2.2.2 hS (inb_in hin) rfl hd (k H locs ls hP hS hl)
theorem z_callIs (C : CC D ad cA (sgAs ad q t) p s m args meth c cc own nL) {y : MethodName} {c2 : ByteArray} {n2 rk n index : Nat} {As st0 : List Value} {r : Int32} {ty : FieldType} (hM : kIC l D ad cA (sgAs ad q t) y c2 n2 ty rk (.ref q :: As) σ r σ') (hm : kMi y c2 n2 (some ty) n) (hlink : Cond.methodLink own index y ∈ lw_good) (hcls : y.cls = "java/lang/String") (hn : As.length = n) (hR : kR R n2 rk) (hst : st0 = As.reverse ++ .ref q :: st) (hroom : (st.map fun v => v.category).sum ≤ 8) (hd : decode cc pc = .ok (.invokevirtual index, 3)) (k : ZC D ad cA p l e R s m args below meth c nL Q (pc + 3) lv (.int r :: st) σ') : ZC D ad cA p l e R s m args below meth c nL Q pc lv st0 σ := by
  subst hst
  intro H locs ls hP hS hl
  have hrec := vk_recv (i := 0) C.2.2.2.2.2.2.2.2.2.1.1 (by decide) hS
  rw [← hcls] at hrec
  exact va_calli (va_runV (As := As) (rest := st) ⟨C.1, C.2.1, C.2.2.1, C.2.2.2.1, C.2.2.2.2.1⟩ hM ⟨callB_of n C.2.2.2.2.1 (good_cons hm.1.1) rfl rfl rfl (C.2.2.2.2.1 _ hm.1.2.1) (C.2.2.2.2.1 _ hlink) hm.1.2.2 hR, C.2.2.2.2.1 _ hm.2.1, C.2.2.2.2.1 _ hm.2.2⟩ ⟨kPre_blind C.2.2.2.2.2.2.2.2.2.2, hrec, fun U hU hW => ⟨rfl, by rw [hU]; exact hP, va_K.moved hW.alike C.2.2.2.2.2.1, nK_warm hW C.2.2.2.2.2.2.2.2.1, C.2.2.2.2.2.2.2.2.2.2 s U locs C.2.2.2.2.2.2.2.2.2.1 (by rw [hU]; exact hS) hW⟩⟩ rfl hn hl.1 rfl (lv_room hroom) hd ⟨Nat.zero_le _, Nat.zero_le _⟩) hS (fun q _ h => h) (fun q h => h) (fun r2 u t H1 locs1 ht hvm hw hB hz1 hk1 hS1 => by obtain ⟨rfl, rfl⟩ := hw; exact k H1 locs1 ls (by rw [← ht]; exact hB.1) hS1 hl)
theorem z_bretE (C : CC D ad cA (sgAs ad q t) p s m args meth c cc own nL) {r r' : Int32} (hr : meth.sig.returnType = some .byte) (hb : isB r = true) (hm : some (r, σ) = some (r', σ')) (hd : decode cc pc = .ok (.ireturn, 1)) : ZC D ad cA p l e R s m args below meth c nL (qiC D ad cA below args s r' σ') pc lv [.int r] σ := by
  cases hm
  exact z_zret C hr (by rcases isB_or hb with rfl | rfl <;> decide) hd
end STL
set_option maxHeartbeats 4000000 in
set_option maxRecDepth 100000 in
theorem w_St_coder_14 {q t : Nat} {D : va_G} {ad : Nat → Nat} {cA : Nat → ClassId} {p : Program} {l : Launch} {e : Env} {s : State} {m : MethodId} {args : Array Value} {below : List Frame} {meth : Method} {c : Code} {F : Nat} (hAD : ∀ σ, va_D (owC ad) (wdC ad cA σ)) (C : CC D ad cA (sgAs ad q t) p s m args meth c bc_St_coder "java/lang/String" 1) (hr : meth.sig.returnType = some .byte) {r : Int32} {σ' : zS} (σ : zS) (s0 : Int32) (hm : St_coder_14 F σ s0 = some (r, σ')) : ZC D ad cA p l e (rmK 0) s m args below meth c 1 (qiC D ad cA below args s r σ') 14 [] [.int s0] σ := by
  unfold St_coder_14 at hm
  obtain ⟨g1, hm⟩ := gd_s hm
  exact z_bretE (pc := 14) C hr g1 hm d_St_coder_14
set_option maxHeartbeats 4000000 in
set_option maxRecDepth 100000 in
theorem k_St_coder {q t : Nat} {l : Launch} {D : va_G} {ad : Nat → Nat} {cA : Nat → ClassId} {F : Nat} (hAD : ∀ σ, va_D (owC ad) (wdC ad cA σ)) {σ : zS} {r : Int32} {σ' : zS} (hm : St_coder F σ = some (r, σ')) : kIC l D ad cA (sgAs ad q t) y_St_coder bc_St_coder 1 .byte 0 [.ref q] σ r σ' := by
  refine kI_of (by decide) hAD sgAs_P (Nat.le_of_ble_eq_true rfl) ?_
  intro p e s m below meth c C hr
  unfold St_coder at hm
  refine z_lv (lv' := [(0, .ref q)]) [0] rfl ?_
  refine z_scs (pc := 0) C mST_4 d_St_coder_0 ?_
  refine z_if_eq (pc := 3) (tgt := 13) C d_St_coder_3 (by decide) (fun c1 => ?_) (fun c1 => ?_)
  · rw [if_pos c1] at hm
    refine z_iconst (pc := 13) C d_St_coder_13 ki_1 ?_
    refine z_lv (lv' := []) [] rfl ?_
    exact w_St_coder_14 hAD C hr σ (1 : Int32) hm
  · rw [if_neg c1] at hm
    refine z_aload_n (pc := 6) C d_St_coder_6 rfl 0 rfl ?_
    refine z_scod (pc := 7) C mST_5 d_St_coder_7 ?_
    refine z_goto (pc := 10) (tgt := 14) C d_St_coder_10 (by decide) ?_
    refine z_lv (lv' := []) [] rfl ?_
    exact w_St_coder_14 hAD C hr σ (0 : Int32) hm
set_option maxHeartbeats 4000000 in
set_option maxRecDepth 100000 in
theorem k_St_length {q t : Nat} {l : Launch} {D : va_G} {ad : Nat → Nat} {cA : Nat → ClassId} {F : Nat} (hAD : ∀ σ, va_D (owC ad) (wdC ad cA σ)) {σ : zS} {r : Int32} {σ' : zS} (hm : St_length F σ = some (r, σ')) : kIC l D ad cA (sgAs ad q t) y_St_length bc_St_length 1 .int 1 [.ref q] σ r σ' := by
  refine kI_of (by decide) hAD sgAs_P (Nat.le_of_ble_eq_true rfl) ?_
  intro p e s m below meth c C hr
  unfold St_length at hm
  refine z_lv (lv' := [(0, .ref q)]) [0] rfl ?_
  refine z_aload_n (pc := 0) C d_St_length_0 rfl 0 rfl ?_
  refine z_sval (pc := 1) C mST_9 d_St_length_1 ?_
  refine z_sln (pc := 4) C d_St_length_4 ?_
  refine z_aload_n (pc := 5) C d_St_length_5 rfl 0 rfl ?_
  obtain ⟨r2, σ1, e3, hm⟩ := bi_s hm
  refine z_callIs (pc := 6) C (k_St_coder hAD e3) km_St_coder mST_10 rfl rfl (kR_of (Nat.le_of_ble_eq_true rfl) (Nat.le_of_ble_eq_true rfl)) rfl (Nat.le_of_ble_eq_true rfl) d_St_length_6 ?_
  refine z_ishr (pc := 9) C d_St_length_9 ?_
  exact z_iretE (pc := 10) C hr hm d_St_length_10
set_option maxHeartbeats 4000000 in
set_option maxRecDepth 100000 in
theorem w_St_isLatin1_18 {q t : Nat} {D : va_G} {ad : Nat → Nat} {cA : Nat → ClassId} {p : Program} {l : Launch} {e : Env} {s : State} {m : MethodId} {args : Array Value} {below : List Frame} {meth : Method} {c : Code} {F : Nat} (hAD : ∀ σ, va_D (owC ad) (wdC ad cA σ)) (C : CC D ad cA (sgAs ad q t) p s m args meth c bc_St_isLatin1 "java/lang/String" 1) (hr : meth.sig.returnType = some .boolean) {r : Int32} {σ' : zS} (σ : zS) (s0 : Int32) (hm : St_isLatin1_18 F σ s0 = some (r, σ')) : ZC D ad cA p l e (rmK 0) s m args below meth c 1 (qiC D ad cA below args s r σ') 18 [] [.int s0] σ := by
  unfold St_isLatin1_18 at hm
  obtain ⟨g1, hm⟩ := gd_s hm
  exact z_zretE (pc := 18) C hr g1 hm d_St_isLatin1_18
set_option maxHeartbeats 4000000 in
set_option maxRecDepth 100000 in
theorem w_St_isLatin1_17 {q t : Nat} {D : va_G} {ad : Nat → Nat} {cA : Nat → ClassId} {p : Program} {l : Launch} {e : Env} {s : State} {m : MethodId} {args : Array Value} {below : List Frame} {meth : Method} {c : Code} {F : Nat} (hAD : ∀ σ, va_D (owC ad) (wdC ad cA σ)) (C : CC D ad cA (sgAs ad q t) p s m args meth c bc_St_isLatin1 "java/lang/String" 1) (hr : meth.sig.returnType = some .boolean) {r : Int32} {σ' : zS} (σ : zS) (hm : St_isLatin1_17 F σ = some (r, σ')) : ZC D ad cA p l e (rmK 0) s m args below meth c 1 (qiC D ad cA below args s r σ') 17 [] [] σ := by
  unfold St_isLatin1_17 at hm
  refine z_iconst (pc := 17) C d_St_isLatin1_17 ki_0 ?_
  exact w_St_isLatin1_18 hAD C hr σ (0 : Int32) hm
set_option maxHeartbeats 4000000 in
set_option maxRecDepth 100000 in
theorem k_St_isLatin1 {q t : Nat} {l : Launch} {D : va_G} {ad : Nat → Nat} {cA : Nat → ClassId} {F : Nat} (hAD : ∀ σ, va_D (owC ad) (wdC ad cA σ)) {σ : zS} {r : Int32} {σ' : zS} (hm : St_isLatin1 F σ = some (r, σ')) : kIC l D ad cA (sgAs ad q t) y_St_isLatin1 bc_St_isLatin1 1 .boolean 0 [.ref q] σ r σ' := by
  refine kI_of (by decide) hAD sgAs_P (Nat.le_of_ble_eq_true rfl) ?_
  intro p e s m below meth c C hr
  unfold St_isLatin1 at hm
  refine z_lv (lv' := [(0, .ref q)]) [0] rfl ?_
  refine z_scs (pc := 0) C mST_4 d_St_isLatin1_0 ?_
  refine z_if_eq (pc := 3) (tgt := 17) C d_St_isLatin1_3 (by decide) (fun c1 => ?_) (fun c1 => ?_)
  · rw [if_pos c1] at hm
    refine z_lv (lv' := []) [] rfl ?_
    exact w_St_isLatin1_17 hAD C hr σ hm
  · rw [if_neg c1] at hm
    refine z_aload_n (pc := 6) C d_St_isLatin1_6 rfl 0 rfl ?_
    refine z_scod (pc := 7) C mST_5 d_St_isLatin1_7 ?_
    refine z_if_ne (pc := 10) (tgt := 17) C d_St_isLatin1_10 (by decide) (fun c2 => ?_) (fun c2 => ?_)
    · rw [if_neg c2] at hm
      refine z_lv (lv' := []) [] rfl ?_
      exact w_St_isLatin1_17 hAD C hr σ hm
    · rw [if_pos c2] at hm
      refine z_iconst (pc := 13) C d_St_isLatin1_13 ki_1 ?_
      refine z_goto (pc := 14) (tgt := 18) C d_St_isLatin1_14 (by decide) ?_
      refine z_lv (lv' := []) [] rfl ?_
      exact w_St_isLatin1_18 hAD C hr σ (1 : Int32) hm
set_option maxHeartbeats 4000000 in
set_option maxRecDepth 100000 in
theorem w_La_canEncode_16 {q t : Nat} {D : va_G} {ad : Nat → Nat} {cA : Nat → ClassId} {p : Program} {l : Launch} {e : Env} {s : State} {m : MethodId} {args : Array Value} {below : List Frame} {meth : Method} {c : Code} {F : Nat} (hAD : ∀ σ, va_D (owC ad) (wdC ad cA σ)) (C : CC D ad cA (sgAs ad q t) p s m args meth c bc_La_canEncode "java/lang/StringLatin1" 1) (hr : meth.sig.returnType = some .boolean) {r : Int32} {σ' : zS} (σ : zS) (s0 : Int32) (hm : La_canEncode_16 F σ s0 = some (r, σ')) : ZC D ad cA p l e (rmK 0) s m args below meth c 1 (qiC D ad cA below args s r σ') 16 [] [.int s0] σ := by
  unfold La_canEncode_16 at hm
  obtain ⟨g1, hm⟩ := gd_s hm
  exact z_zretE (pc := 16) C hr g1 hm d_La_canEncode_16
set_option maxHeartbeats 4000000 in
set_option maxRecDepth 100000 in
theorem w_La_canEncode_15 {q t : Nat} {D : va_G} {ad : Nat → Nat} {cA : Nat → ClassId} {p : Program} {l : Launch} {e : Env} {s : State} {m : MethodId} {args : Array Value} {below : List Frame} {meth : Method} {c : Code} {F : Nat} (hAD : ∀ σ, va_D (owC ad) (wdC ad cA σ)) (C : CC D ad cA (sgAs ad q t) p s m args meth c bc_La_canEncode "java/lang/StringLatin1" 1) (hr : meth.sig.returnType = some .boolean) {r : Int32} {σ' : zS} (σ : zS) (hm : La_canEncode_15 F σ = some (r, σ')) : ZC D ad cA p l e (rmK 0) s m args below meth c 1 (qiC D ad cA below args s r σ') 15 [] [] σ := by
  unfold La_canEncode_15 at hm
  refine z_iconst (pc := 15) C d_La_canEncode_15 ki_0 ?_
  exact w_La_canEncode_16 hAD C hr σ (0 : Int32) hm
set_option maxHeartbeats 4000000 in
set_option maxRecDepth 100000 in
theorem k_La_canEncode {q t : Nat} {l : Launch} {D : va_G} {ad : Nat → Nat} {cA : Nat → ClassId} {F : Nat} (hAD : ∀ σ, va_D (owC ad) (wdC ad cA σ)) {σ : zS} {x0 : Int32} {r : Int32} {σ' : zS} (hm : La_canEncode F σ x0 = some (r, σ')) : kIC l D ad cA (sgAs ad q t) y_La_canEncode bc_La_canEncode 1 .boolean 0 [.int x0] σ r σ' := by
  refine kI_of (by decide) hAD sgAs_P (Nat.le_of_ble_eq_true rfl) ?_
  intro p e s m below meth c C hr
  unfold La_canEncode at hm
  refine z_lv (lv' := [(0, .int x0)]) [0] rfl ?_
  refine z_iload_n (pc := 0) C d_La_canEncode_0 rfl 0 rfl ?_
  refine z_if_lt (pc := 1) (tgt := 15) C d_La_canEncode_1 (by decide) (fun c1 => ?_) (fun c1 => ?_)
  · rw [if_pos c1] at hm
    refine z_lv (lv' := []) [] rfl ?_
    exact w_La_canEncode_15 hAD C hr σ hm
  · rw [if_neg c1] at hm
    refine z_iload_n (pc := 4) C d_La_canEncode_4 rfl 0 rfl ?_
    refine z_sipush (pc := 5) C d_La_canEncode_5 ks_255 ?_
    refine z_icmp_gt (pc := 8) (tgt := 15) C d_La_canEncode_8 (by decide) (fun c2 => ?_) (fun c2 => ?_)
    · rw [if_pos c2] at hm
      refine z_lv (lv' := []) [] rfl ?_
      exact w_La_canEncode_15 hAD C hr σ hm
    · rw [if_neg c2] at hm
      refine z_iconst (pc := 11) C d_La_canEncode_11 ki_1 ?_
      refine z_goto (pc := 12) (tgt := 16) C d_La_canEncode_12 (by decide) ?_
      refine z_lv (lv' := []) [] rfl ?_
      exact w_La_canEncode_16 hAD C hr σ (1 : Int32) hm
set_option maxHeartbeats 4000000 in
set_option maxRecDepth 100000 in
theorem w_La_indexOfChar_7 {q t : Nat} {D : va_G} {ad : Nat → Nat} {cA : Nat → ClassId} {p : Program} {l : Launch} {e : Env} {s : State} {m : MethodId} {args : Array Value} {below : List Frame} {meth : Method} {c : Code} {F : Nat} (hAD : ∀ σ, va_D (owC ad) (wdC ad cA σ)) (C : CC D ad cA (sgAs ad q t) p s m args meth c bc_La_indexOfChar "java/lang/StringLatin1" 6) (hr : meth.sig.returnType = some .int) {r : Int32} {σ' : zS} : ∀ (n : Nat) (σ : zS) (x3 : Int32) (x4 : Int32) (x5 : Int32), La_indexOfChar_7 F n σ x3 x4 x5 = some (r, σ') → ZC D ad cA p l e (rmK 0) s m args below meth c 6 (qiC D ad cA below args s r σ') 7 [(0, .ref t), (3, .int x3), (4, .int x4), (5, .int x5)] [] σ := by
  intro n
  induction n with
  | zero => intro σ x3 x4 x5 hm; cases hm
  | succ n h7 =>
    intro σ x3 x4 x5 hm
    have hm : La_indexOfChar_b7 F (La_indexOfChar_7 F n) σ x3 x4 x5 = some (r, σ') := hm
    unfold La_indexOfChar_b7 at hm
    refine z_iload (pc := 7) C d_La_indexOfChar_7 3 rfl ?_
    refine z_iload_n (pc := 9) C d_La_indexOfChar_9 rfl 1 rfl ?_
    refine z_icmp_ge (pc := 10) (tgt := 31) C d_La_indexOfChar_10 (by decide) (fun c1 => ?_) (fun c1 => ?_)
    · rw [if_pos c1] at hm
      refine z_iconst (pc := 31) C d_La_indexOfChar_31 ki_m1 ?_
      exact z_iretE (pc := 32) C hr hm d_La_indexOfChar_32
    · rw [if_neg c1] at hm
      refine z_aload_n (pc := 13) C d_La_indexOfChar_13 rfl 0 rfl ?_
      refine z_iload (pc := 14) C d_La_indexOfChar_14 3 rfl ?_
      obtain ⟨g2, hm⟩ := gd_s hm
      refine z_sby (pc := 16) C g2 d_La_indexOfChar_16 ?_
      refine z_iload (pc := 17) C d_La_indexOfChar_17 2 rfl ?_
      refine z_icmp_ne (pc := 19) (tgt := 25) C d_La_indexOfChar_19 (by decide) (fun c3 => ?_) (fun c3 => ?_)
      · rw [if_neg c3] at hm
        refine z_iinc (pc := 25) (lv' := [(0, .ref t), (3, .int x3), (4, .int x4), (5, .int (x5 + (1 : Int32)))]) C d_La_indexOfChar_25 3 rfl (ii ki_1) (Nat.le_of_ble_eq_true rfl) [1, 2, 3, 0] rfl ?_
        refine z_goto (pc := 28) (tgt := 7) C d_La_indexOfChar_28 (by decide) ?_
        exact h7 σ x3 x4 (x5 + (1 : Int32)) hm
      · rw [if_pos c3] at hm
        refine z_iload (pc := 22) C d_La_indexOfChar_22 3 rfl ?_
        exact z_iretE (pc := 24) C hr hm d_La_indexOfChar_24
set_option maxHeartbeats 4000000 in
set_option maxRecDepth 100000 in
theorem k_La_indexOfChar {q t : Nat} {l : Launch} {D : va_G} {ad : Nat → Nat} {cA : Nat → ClassId} {F : Nat} (hAD : ∀ σ, va_D (owC ad) (wdC ad cA σ)) {σ : zS} {x1 : Int32} {x2 : Int32} {x3 : Int32} {r : Int32} {σ' : zS} (hm : La_indexOfChar F σ x1 x2 x3 = some (r, σ')) : kIC l D ad cA (sgAs ad q t) y_La_indexOfChar bc_La_indexOfChar 6 .int 0 [.ref t, .int x1, .int x2, .int x3] σ r σ' := by
  refine kI_of (by decide) hAD sgAs_P (Nat.le_of_ble_eq_true rfl) ?_
  intro p e s m below meth c C hr
  unfold La_indexOfChar at hm
  refine z_lv (lv' := [(0, .ref t), (1, .int x1), (2, .int x2), (3, .int x3)]) [0, 1, 2, 3] rfl ?_
  refine z_iload_n (pc := 0) C d_La_indexOfChar_0 rfl 1 rfl ?_
  refine z_i2b (pc := 1) C d_La_indexOfChar_1 ?_
  refine z_istore (pc := 2) (lv' := [(0, .ref t), (1, .int x1), (2, .int x2), (3, .int x3), (4, .int (Int32.toInt8 x1).toInt32)]) C d_La_indexOfChar_2 (Nat.le_of_ble_eq_true rfl) [1, 2, 3, 4, 0] rfl ?_
  refine z_iload_n (pc := 4) C d_La_indexOfChar_4 rfl 2 rfl ?_
  refine z_istore (pc := 5) (lv' := [(0, .ref t), (1, .int x1), (2, .int x2), (3, .int x3), (4, .int (Int32.toInt8 x1).toInt32), (5, .int x2)]) C d_La_indexOfChar_5 (Nat.le_of_ble_eq_true rfl) [1, 2, 3, 4, 5, 0] rfl ?_
  refine z_lv (lv' := [(0, .ref t), (3, .int x3), (4, .int (Int32.toInt8 x1).toInt32), (5, .int x2)]) [0, 3, 4, 5] rfl ?_
  exact w_La_indexOfChar_7 hAD C hr F σ x3 (Int32.toInt8 x1).toInt32 x2 hm
set_option maxHeartbeats 4000000 in
set_option maxRecDepth 100000 in
theorem k_La_indexOf {q t : Nat} {l : Launch} {D : va_G} {ad : Nat → Nat} {cA : Nat → ClassId} {F : Nat} (hAD : ∀ σ, va_D (owC ad) (wdC ad cA σ)) {σ : zS} {x1 : Int32} {x2 : Int32} {x3 : Int32} {r : Int32} {σ' : zS} (hm : La_indexOf F σ x1 x2 x3 = some (r, σ')) : kIC l D ad cA (sgAs ad q t) y_La_indexOf bc_La_indexOf 4 .int 2 [.ref t, .int x1, .int x2, .int x3] σ r σ' := by
  refine kI_of (by decide) hAD sgAs_P (Nat.le_of_ble_eq_true rfl) ?_
  intro p e s m below meth c C hr
  unfold La_indexOf at hm
  refine z_lv (lv' := [(0, .ref t), (1, .int x1), (2, .int x2), (3, .int x3)]) [0, 1, 2, 3] rfl ?_
  refine z_iload_n (pc := 0) C d_La_indexOf_0 rfl 1 rfl ?_
  obtain ⟨r2, σ1, e3, hm⟩ := bi_s hm
  refine z_callSI (pc := 1) C (k_La_canEncode hAD e3) km_La_canEncode mST_21 rfl (kR_of (Nat.le_of_ble_eq_true rfl) (Nat.le_of_ble_eq_true rfl)) rfl (Nat.le_of_ble_eq_true rfl) d_La_indexOf_1 ?_
  refine z_if_ne (pc := 4) (tgt := 9) C d_La_indexOf_4 (by decide) (fun c4 => ?_) (fun c4 => ?_)
  · rw [if_neg c4] at hm
    refine z_iload_n (pc := 9) C d_La_indexOf_9 rfl 2 rfl ?_
    refine z_iconst (pc := 10) C d_La_indexOf_10 ki_0 ?_
    refine z_mmax (pc := 11) C mST_22 mST_23 mST_24 mST_25 (by decide) (Nat.le_of_ble_eq_true rfl) d_La_indexOf_11 ?_
    refine z_istore_n (pc := 14) (lv' := [(0, .ref t), (1, .int x1), (2, .int (if x2 < (0 : Int32) then (0 : Int32) else x2)), (3, .int x3)]) C d_La_indexOf_14 rfl (Nat.le_of_ble_eq_true rfl) [1, 2, 0, 3] rfl ?_
    refine z_iload_n (pc := 15) C d_La_indexOf_15 rfl 3 rfl ?_
    refine z_aload_n (pc := 16) C d_La_indexOf_16 rfl 0 rfl ?_
    refine z_sln (pc := 17) C d_La_indexOf_17 ?_
    refine z_mmin (pc := 18) C mST_26 mST_27 mST_24 mST_28 (by decide) (Nat.le_of_ble_eq_true rfl) d_La_indexOf_18 ?_
    refine z_istore_n (pc := 21) (lv' := [(0, .ref t), (1, .int x1), (2, .int (if x2 < (0 : Int32) then (0 : Int32) else x2)), (3, .int (if (11 : Int32) < x3 then (11 : Int32) else x3))]) C d_La_indexOf_21 rfl (Nat.le_of_ble_eq_true rfl) [1, 2, 3, 0] rfl ?_
    refine z_iload_n (pc := 22) C d_La_indexOf_22 rfl 2 rfl ?_
    refine z_iload_n (pc := 23) C d_La_indexOf_23 rfl 3 rfl ?_
    refine z_icmp_lt (pc := 24) (tgt := 29) C d_La_indexOf_24 (by decide) (fun c5 => ?_) (fun c5 => ?_)
    · rw [if_pos c5] at hm
      refine z_aload_n (pc := 29) C d_La_indexOf_29 rfl 0 rfl ?_
      refine z_iload_n (pc := 30) C d_La_indexOf_30 rfl 1 rfl ?_
      refine z_iload_n (pc := 31) C d_La_indexOf_31 rfl 2 rfl ?_
      refine z_iload_n (pc := 32) C d_La_indexOf_32 rfl 3 rfl ?_
      obtain ⟨r7, σ6, e8, hm⟩ := bi_s hm
      refine z_callSI (pc := 33) C (k_La_indexOfChar hAD e8) km_La_indexOfChar mST_29 rfl (kR_of (Nat.le_of_ble_eq_true rfl) (Nat.le_of_ble_eq_true rfl)) rfl (Nat.le_of_ble_eq_true rfl) d_La_indexOf_33 ?_
      exact z_iretE (pc := 36) C hr hm d_La_indexOf_36
    · rw [if_neg c5] at hm
      refine z_iconst (pc := 27) C d_La_indexOf_27 ki_m1 ?_
      exact z_iretE (pc := 28) C hr hm d_La_indexOf_28
  · rw [if_pos c4] at hm
    refine z_iconst (pc := 7) C d_La_indexOf_7 ki_m1 ?_
    exact z_iretE (pc := 8) C hr hm d_La_indexOf_8
set_option maxHeartbeats 4000000 in
set_option maxRecDepth 100000 in
theorem w_St_indexOf2_36 {q t : Nat} {D : va_G} {ad : Nat → Nat} {cA : Nat → ClassId} {p : Program} {l : Launch} {e : Env} {s : State} {m : MethodId} {args : Array Value} {below : List Frame} {meth : Method} {c : Code} {F : Nat} (hAD : ∀ σ, va_D (owC ad) (wdC ad cA σ)) (C : CC D ad cA (sgAs ad q t) p s m args meth c bc_St_indexOf2 "java/lang/String" 3) (hr : meth.sig.returnType = some .int) {r : Int32} {σ' : zS} (σ : zS) (s0 : Int32) (hm : St_indexOf2_36 F σ s0 = some (r, σ')) : ZC D ad cA p l e (rmK 3) s m args below meth c 3 (qiC D ad cA below args s r σ') 36 [] [.int s0] σ := by
  unfold St_indexOf2_36 at hm
  exact z_iretE (pc := 36) C hr hm d_St_indexOf2_36
set_option maxHeartbeats 4000000 in
set_option maxRecDepth 100000 in
theorem k_St_indexOf2 {q t : Nat} {l : Launch} {D : va_G} {ad : Nat → Nat} {cA : Nat → ClassId} {F : Nat} (hAD : ∀ σ, va_D (owC ad) (wdC ad cA σ)) {σ : zS} {x1 : Int32} {x2 : Int32} {r : Int32} {σ' : zS} (hm : St_indexOf2 F σ x1 x2 = some (r, σ')) : kIC l D ad cA (sgAs ad q t) y_St_indexOf2 bc_St_indexOf2 3 .int 3 [.ref q, .int x1, .int x2] σ r σ' := by
  refine kI_of (by decide) hAD sgAs_P (Nat.le_of_ble_eq_true rfl) ?_
  intro p e s m below meth c C hr
  unfold St_indexOf2 at hm
  refine z_lv (lv' := [(0, .ref q), (1, .int x1), (2, .int x2)]) [0, 1, 2] rfl ?_
  refine z_aload_n (pc := 0) C d_St_indexOf2_0 rfl 0 rfl ?_
  obtain ⟨r2, σ1, e3, hm⟩ := bi_s hm
  refine z_callIs (pc := 1) C (k_St_isLatin1 hAD e3) km_St_isLatin1 mST_33 rfl rfl (kR_of (Nat.le_of_ble_eq_true rfl) (Nat.le_of_ble_eq_true rfl)) rfl (Nat.le_of_ble_eq_true rfl) d_St_indexOf2_1 ?_
  refine z_if_eq (pc := 4) (tgt := 23) C d_St_indexOf2_4 (by decide) (fun c4 => ?_) (fun c4 => ?_)
  · rw [if_pos c4] at hm
    refine z_aload_n (pc := 23) C d_St_indexOf2_23 rfl 0 rfl ?_
    refine z_sval (pc := 24) C mST_9 d_St_indexOf2_24 ?_
    refine z_iload_n (pc := 27) C d_St_indexOf2_27 rfl 1 rfl ?_
    refine z_iload_n (pc := 28) C d_St_indexOf2_28 rfl 2 rfl ?_
    refine z_aload_n (pc := 29) C d_St_indexOf2_29 rfl 0 rfl ?_
    obtain ⟨r6, σ5, e7, hm⟩ := bi_s hm
    refine z_callIs (pc := 30) C (k_St_length hAD e7) km_St_length mST_34 rfl rfl (kR_of (Nat.le_of_ble_eq_true rfl) (Nat.le_of_ble_eq_true rfl)) rfl (Nat.le_of_ble_eq_true rfl) d_St_indexOf2_30 ?_
    cases hm
  · rw [if_neg c4] at hm
    refine z_aload_n (pc := 7) C d_St_indexOf2_7 rfl 0 rfl ?_
    refine z_sval (pc := 8) C mST_9 d_St_indexOf2_8 ?_
    refine z_iload_n (pc := 11) C d_St_indexOf2_11 rfl 1 rfl ?_
    refine z_iload_n (pc := 12) C d_St_indexOf2_12 rfl 2 rfl ?_
    refine z_aload_n (pc := 13) C d_St_indexOf2_13 rfl 0 rfl ?_
    obtain ⟨r9, σ8, e10, hm⟩ := bi_s hm
    refine z_callIs (pc := 14) C (k_St_length hAD e10) km_St_length mST_34 rfl rfl (kR_of (Nat.le_of_ble_eq_true rfl) (Nat.le_of_ble_eq_true rfl)) rfl (Nat.le_of_ble_eq_true rfl) d_St_indexOf2_14 ?_
    obtain ⟨r12, σ11, e13, hm⟩ := bi_s hm
    refine z_callSI (pc := 17) C (k_La_indexOf hAD e13) km_La_indexOf mST_35 rfl (kR_of (Nat.le_of_ble_eq_true rfl) (Nat.le_of_ble_eq_true rfl)) rfl (Nat.le_of_ble_eq_true rfl) d_St_indexOf2_17 ?_
    refine z_goto (pc := 20) (tgt := 36) C d_St_indexOf2_20 (by decide) ?_
    refine z_lv (lv' := []) [] rfl ?_
    exact w_St_indexOf2_36 hAD C hr σ11 r12 hm
set_option maxHeartbeats 4000000 in
set_option maxRecDepth 100000 in
theorem k_St_indexOf {q t : Nat} {l : Launch} {D : va_G} {ad : Nat → Nat} {cA : Nat → ClassId} {F : Nat} (hAD : ∀ σ, va_D (owC ad) (wdC ad cA σ)) {σ : zS} {x1 : Int32} {r : Int32} {σ' : zS} (hm : St_indexOf F σ x1 = some (r, σ')) : kIC l D ad cA (sgAs ad q t) y_St_indexOf bc_St_indexOf 2 .int 4 [.ref q, .int x1] σ r σ' := by
  refine kI_of (by decide) hAD sgAs_P (Nat.le_of_ble_eq_true rfl) ?_
  intro p e s m below meth c C hr
  unfold St_indexOf at hm
  refine z_lv (lv' := [(0, .ref q), (1, .int x1)]) [0, 1] rfl ?_
  refine z_aload_n (pc := 0) C d_St_indexOf_0 rfl 0 rfl ?_
  refine z_iload_n (pc := 1) C d_St_indexOf_1 rfl 1 rfl ?_
  refine z_iconst (pc := 2) C d_St_indexOf_2 ki_0 ?_
  obtain ⟨r2, σ1, e3, hm⟩ := bi_s hm
  refine z_callIs (pc := 3) C (k_St_indexOf2 hAD e3) km_St_indexOf2 mST_39 rfl rfl (kR_of (Nat.le_of_ble_eq_true rfl) (Nat.le_of_ble_eq_true rfl)) rfl (Nat.le_of_ble_eq_true rfl) d_St_indexOf_3 ?_
  exact z_iretE (pc := 6) C hr hm d_St_indexOf_6
theorem z_sgidx {D : va_G} {ad : Nat → Nat} {cA : Nat → ClassId} {F : Nat} {p : Program} {l : Launch} {e : Env} {s : State} {m : MethodId} {args : Array Value} {below : List Frame} {meth : Method} {c : Code} {cc : ByteArray} {nL : Nat} {Q : State → Prop} {pc : Nat} {lv : List (Nat × Value)} {st : List Value} {σ σ' : zS} {rk q index : Nat} {x r : Int32} (C : CC D ad cA (sXC ad) p s m args meth c cc "KindRounds$Tape" nL) (hAD : ∀ σ, va_D (owC ad) (wdC ad cA σ)) (hq : sgAt ad q s) (hm : St_indexOf F σ x = some (r, σ')) (hw : Cond.methodLink "KindRounds$Tape" index ⟨"java/lang/String", "indexOf", "(I)I"⟩ ∈ lw_good) (hrk : 4 + 1 ≤ rk) (hroom : (st.map fun v => v.category).sum ≤ 8) (hd : decode cc pc = .ok (.invokevirtual index, 3)) (k : ZC D ad cA p l e (rmK rk) s m args below meth c nL Q (pc + 3) lv (.int r :: st) σ') : ZC D ad cA p l e (rmK rk) s m args below meth c nL Q pc lv (.int x :: .ref q :: st) σ := by
  obtain ⟨hR, t, hS1, hZ1⟩ := hq
  intro H locs ls hP hS hl
  have hX : sgAs ad q t s := ⟨hS1, hZ1⟩
  exact va_calli (va_runV (As := [.int x]) (rest := st) ⟨C.1, C.2.1, C.2.2.1, C.2.2.2.1, C.2.2.2.2.1⟩ (k_St_indexOf (q := q) (t := t) hAD hm) ⟨callB_of 1 C.2.2.2.2.1 (good_cons km_St_indexOf.1.1) rfl rfl rfl (C.2.2.2.2.1 _ km_St_indexOf.1.2.1) (C.2.2.2.2.1 _ hw) km_St_indexOf.1.2.2 (kR_of hrk (Nat.le_of_ble_eq_true rfl)), C.2.2.2.2.1 _ km_St_indexOf.2.1, C.2.2.2.2.1 _ km_St_indexOf.2.2⟩ ⟨kPre_blind sgAs_P, vk_recv (i := 0) hS1 (by decide) hS, fun U hU hW => ⟨rfl, by rw [hU]; exact hP, va_K.moved hW.alike C.2.2.2.2.2.1, nK_warm hW C.2.2.2.2.2.2.2.2.1, sgAs_P s U locs hX (by rw [hU]; exact hS) hW⟩⟩ rfl rfl hl.1 rfl (lv_room hroom) hd ⟨Nat.zero_le _, Nat.zero_le _⟩) hS (fun q _ h => h) (fun q h => h) (fun r2 u t H1 locs1 ht hvm hw hB hz1 hk1 hS1 => by obtain ⟨rfl, rfl⟩ := hw; exact k H1 locs1 ls (by rw [← ht]; exact hB.1) hS1 hl)
