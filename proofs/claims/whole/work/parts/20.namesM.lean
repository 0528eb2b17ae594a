/-! Names and decode rows of KindRoundsModel. Written by program (wip/gen). -/
abbrev bc_Md_feed : ByteArray := prog_14_method_3_code
abbrev y_Md_feed : MethodName := ⟨"KindRoundsModel", "feed", "(IIIII)I"⟩
theorem d_Md_feed_0 : decode bc_Md_feed 0 = .ok (.aload_n 0, 1) := by decide +kernel
theorem d_Md_feed_1 : decode bc_Md_feed 1 = .ok (.getfield 218, 3) := by decide +kernel
theorem d_Md_feed_4 : decode bc_Md_feed 4 = .ok (.bipush 20, 2) := by decide +kernel
theorem d_Md_feed_6 : decode bc_Md_feed 6 = .ok (.iadd, 1) := by decide +kernel
theorem d_Md_feed_7 : decode bc_Md_feed 7 = .ok (.sipush 1200, 3) := by decide +kernel
theorem d_Md_feed_10 : decode bc_Md_feed 10 = .ok (.if_icmp .le 6, 3) := by decide +kernel
theorem d_Md_feed_13 : decode bc_Md_feed 13 = .ok (.bipush (-4), 2) := by decide +kernel
theorem d_Md_feed_15 : decode bc_Md_feed 15 = .ok (.ireturn, 1) := by decide +kernel
theorem d_Md_feed_16 : decode bc_Md_feed 16 = .ok (.iconst 0, 1) := by decide +kernel
theorem d_Md_feed_17 : decode bc_Md_feed 17 = .ok (.istore 6, 2) := by decide +kernel
theorem d_Md_feed_19 : decode bc_Md_feed 19 = .ok (.iload 6, 2) := by decide +kernel
theorem d_Md_feed_21 : decode bc_Md_feed 21 = .ok (.bipush 20, 2) := by decide +kernel
theorem d_Md_feed_23 : decode bc_Md_feed 23 = .ok (.if_icmp .ge 93, 3) := by decide +kernel
theorem d_Md_feed_26 : decode bc_Md_feed 26 = .ok (.iload 6, 2) := by decide +kernel
theorem d_Md_feed_28 : decode bc_Md_feed 28 = .ok (.iconst 4, 1) := by decide +kernel
theorem d_Md_feed_29 : decode bc_Md_feed 29 = .ok (.if_icmp .ge 7, 3) := by decide +kernel
theorem d_Md_feed_32 : decode bc_Md_feed 32 = .ok (.iload_n 1, 1) := by decide +kernel
theorem d_Md_feed_33 : decode bc_Md_feed 33 = .ok (.goto 39, 3) := by decide +kernel
theorem d_Md_feed_36 : decode bc_Md_feed 36 = .ok (.iload 6, 2) := by decide +kernel
theorem d_Md_feed_38 : decode bc_Md_feed 38 = .ok (.bipush 8, 2) := by decide +kernel
theorem d_Md_feed_40 : decode bc_Md_feed 40 = .ok (.if_icmp .ge 7, 3) := by decide +kernel
theorem d_Md_feed_43 : decode bc_Md_feed 43 = .ok (.iload_n 2, 1) := by decide +kernel
theorem d_Md_feed_44 : decode bc_Md_feed 44 = .ok (.goto 28, 3) := by decide +kernel
theorem d_Md_feed_47 : decode bc_Md_feed 47 = .ok (.iload 6, 2) := by decide +kernel
theorem d_Md_feed_49 : decode bc_Md_feed 49 = .ok (.bipush 12, 2) := by decide +kernel
theorem d_Md_feed_51 : decode bc_Md_feed 51 = .ok (.if_icmp .ge 7, 3) := by decide +kernel
theorem d_Md_feed_54 : decode bc_Md_feed 54 = .ok (.iload_n 3, 1) := by decide +kernel
theorem d_Md_feed_55 : decode bc_Md_feed 55 = .ok (.goto 17, 3) := by decide +kernel
theorem d_Md_feed_58 : decode bc_Md_feed 58 = .ok (.iload 6, 2) := by decide +kernel
theorem d_Md_feed_60 : decode bc_Md_feed 60 = .ok (.bipush 16, 2) := by decide +kernel
theorem d_Md_feed_62 : decode bc_Md_feed 62 = .ok (.if_icmp .ge 8, 3) := by decide +kernel
theorem d_Md_feed_65 : decode bc_Md_feed 65 = .ok (.iload 4, 2) := by decide +kernel
theorem d_Md_feed_67 : decode bc_Md_feed 67 = .ok (.goto 5, 3) := by decide +kernel
theorem d_Md_feed_70 : decode bc_Md_feed 70 = .ok (.iload 5, 2) := by decide +kernel
theorem d_Md_feed_72 : decode bc_Md_feed 72 = .ok (.istore 7, 2) := by decide +kernel
theorem d_Md_feed_74 : decode bc_Md_feed 74 = .ok (.aload_n 0, 1) := by decide +kernel
theorem d_Md_feed_75 : decode bc_Md_feed 75 = .ok (.getfield 7, 3) := by decide +kernel
theorem d_Md_feed_78 : decode bc_Md_feed 78 = .ok (.aload_n 0, 1) := by decide +kernel
theorem d_Md_feed_79 : decode bc_Md_feed 79 = .ok (.getfield 218, 3) := by decide +kernel
theorem d_Md_feed_82 : decode bc_Md_feed 82 = .ok (.iload 7, 2) := by decide +kernel
theorem d_Md_feed_84 : decode bc_Md_feed 84 = .ok (.bipush 24, 2) := by decide +kernel
theorem d_Md_feed_86 : decode bc_Md_feed 86 = .ok (.bipush 8, 2) := by decide +kernel
theorem d_Md_feed_88 : decode bc_Md_feed 88 = .ok (.iload 6, 2) := by decide +kernel
theorem d_Md_feed_90 : decode bc_Md_feed 90 = .ok (.iconst 4, 1) := by decide +kernel
theorem d_Md_feed_91 : decode bc_Md_feed 91 = .ok (.irem, 1) := by decide +kernel
theorem d_Md_feed_92 : decode bc_Md_feed 92 = .ok (.imul, 1) := by decide +kernel
theorem d_Md_feed_93 : decode bc_Md_feed 93 = .ok (.isub, 1) := by decide +kernel
theorem d_Md_feed_94 : decode bc_Md_feed 94 = .ok (.iushr, 1) := by decide +kernel
theorem d_Md_feed_95 : decode bc_Md_feed 95 = .ok (.sipush 255, 3) := by decide +kernel
theorem d_Md_feed_98 : decode bc_Md_feed 98 = .ok (.iand, 1) := by decide +kernel
theorem d_Md_feed_99 : decode bc_Md_feed 99 = .ok (.iastore, 1) := by decide +kernel
theorem d_Md_feed_100 : decode bc_Md_feed 100 = .ok (.aload_n 0, 1) := by decide +kernel
theorem d_Md_feed_101 : decode bc_Md_feed 101 = .ok (.dup, 1) := by decide +kernel
theorem d_Md_feed_102 : decode bc_Md_feed 102 = .ok (.getfield 218, 3) := by decide +kernel
theorem d_Md_feed_105 : decode bc_Md_feed 105 = .ok (.iconst 1, 1) := by decide +kernel
theorem d_Md_feed_106 : decode bc_Md_feed 106 = .ok (.iadd, 1) := by decide +kernel
theorem d_Md_feed_107 : decode bc_Md_feed 107 = .ok (.putfield 218, 3) := by decide +kernel
theorem d_Md_feed_110 : decode bc_Md_feed 110 = .ok (.iinc 6 1, 3) := by decide +kernel
theorem d_Md_feed_113 : decode bc_Md_feed 113 = .ok (.goto (-94), 3) := by decide +kernel
theorem d_Md_feed_116 : decode bc_Md_feed 116 = .ok (.aload_n 0, 1) := by decide +kernel
theorem d_Md_feed_117 : decode bc_Md_feed 117 = .ok (.getfield 218, 3) := by decide +kernel
theorem d_Md_feed_120 : decode bc_Md_feed 120 = .ok (.ireturn, 1) := by decide +kernel
abbrev bc_Md_cut : ByteArray := prog_14_method_4_code
abbrev y_Md_cut : MethodName := ⟨"KindRoundsModel", "cut", "(I)I"⟩
theorem d_Md_cut_0 : decode bc_Md_cut 0 = .ok (.iload_n 1, 1) := by decide +kernel
theorem d_Md_cut_1 : decode bc_Md_cut 1 = .ok (.ifCond .lt 11, 3) := by decide +kernel
theorem d_Md_cut_4 : decode bc_Md_cut 4 = .ok (.iload_n 1, 1) := by decide +kernel
theorem d_Md_cut_5 : decode bc_Md_cut 5 = .ok (.aload_n 0, 1) := by decide +kernel
theorem d_Md_cut_6 : decode bc_Md_cut 6 = .ok (.getfield 218, 3) := by decide +kernel
theorem d_Md_cut_9 : decode bc_Md_cut 9 = .ok (.if_icmp .le 6, 3) := by decide +kernel
theorem d_Md_cut_12 : decode bc_Md_cut 12 = .ok (.bipush (-2), 2) := by decide +kernel
theorem d_Md_cut_14 : decode bc_Md_cut 14 = .ok (.ireturn, 1) := by decide +kernel
theorem d_Md_cut_15 : decode bc_Md_cut 15 = .ok (.aload_n 0, 1) := by decide +kernel
theorem d_Md_cut_16 : decode bc_Md_cut 16 = .ok (.getfield 218, 3) := by decide +kernel
theorem d_Md_cut_19 : decode bc_Md_cut 19 = .ok (.iload_n 1, 1) := by decide +kernel
theorem d_Md_cut_20 : decode bc_Md_cut 20 = .ok (.isub, 1) := by decide +kernel
theorem d_Md_cut_21 : decode bc_Md_cut 21 = .ok (.istore_n 2, 1) := by decide +kernel
theorem d_Md_cut_22 : decode bc_Md_cut 22 = .ok (.aload_n 0, 1) := by decide +kernel
theorem d_Md_cut_23 : decode bc_Md_cut 23 = .ok (.iload_n 1, 1) := by decide +kernel
theorem d_Md_cut_24 : decode bc_Md_cut 24 = .ok (.putfield 218, 3) := by decide +kernel
theorem d_Md_cut_27 : decode bc_Md_cut 27 = .ok (.iload_n 2, 1) := by decide +kernel
theorem d_Md_cut_28 : decode bc_Md_cut 28 = .ok (.ireturn, 1) := by decide +kernel
abbrev bc_Md_wrong : ByteArray := prog_14_method_5_code
abbrev y_Md_wrong : MethodName := ⟨"KindRoundsModel", "wrong", "(II)V"⟩
theorem d_Md_wrong_0 : decode bc_Md_wrong 0 = .ok (.aload_n 0, 1) := by decide +kernel
theorem d_Md_wrong_1 : decode bc_Md_wrong 1 = .ok (.getfield 221, 3) := by decide +kernel
theorem d_Md_wrong_4 : decode bc_Md_wrong 4 = .ok (.ifCond .ne 13, 3) := by decide +kernel
theorem d_Md_wrong_7 : decode bc_Md_wrong 7 = .ok (.aload_n 0, 1) := by decide +kernel
theorem d_Md_wrong_8 : decode bc_Md_wrong 8 = .ok (.iload_n 1, 1) := by decide +kernel
theorem d_Md_wrong_9 : decode bc_Md_wrong 9 = .ok (.putfield 221, 3) := by decide +kernel
theorem d_Md_wrong_12 : decode bc_Md_wrong 12 = .ok (.aload_n 0, 1) := by decide +kernel
theorem d_Md_wrong_13 : decode bc_Md_wrong 13 = .ok (.iload_n 2, 1) := by decide +kernel
theorem d_Md_wrong_14 : decode bc_Md_wrong 14 = .ok (.putfield 13, 3) := by decide +kernel
theorem d_Md_wrong_17 : decode bc_Md_wrong 17 = .ok (.return_, 1) := by decide +kernel
abbrev bc_Md_byteAt : ByteArray := prog_14_method_6_code
abbrev y_Md_byteAt : MethodName := ⟨"KindRoundsModel", "byteAt", "(I)I"⟩
theorem d_Md_byteAt_0 : decode bc_Md_byteAt 0 = .ok (.iload_n 1, 1) := by decide +kernel
theorem d_Md_byteAt_1 : decode bc_Md_byteAt 1 = .ok (.aload_n 0, 1) := by decide +kernel
theorem d_Md_byteAt_2 : decode bc_Md_byteAt 2 = .ok (.getfield 218, 3) := by decide +kernel
theorem d_Md_byteAt_5 : decode bc_Md_byteAt 5 = .ok (.if_icmp .ge 12, 3) := by decide +kernel
theorem d_Md_byteAt_8 : decode bc_Md_byteAt 8 = .ok (.aload_n 0, 1) := by decide +kernel
theorem d_Md_byteAt_9 : decode bc_Md_byteAt 9 = .ok (.getfield 7, 3) := by decide +kernel
theorem d_Md_byteAt_12 : decode bc_Md_byteAt 12 = .ok (.iload_n 1, 1) := by decide +kernel
theorem d_Md_byteAt_13 : decode bc_Md_byteAt 13 = .ok (.iaload, 1) := by decide +kernel
theorem d_Md_byteAt_14 : decode bc_Md_byteAt 14 = .ok (.goto 4, 3) := by decide +kernel
theorem d_Md_byteAt_17 : decode bc_Md_byteAt 17 = .ok (.iconst (-1), 1) := by decide +kernel
theorem d_Md_byteAt_18 : decode bc_Md_byteAt 18 = .ok (.ireturn, 1) := by decide +kernel
abbrev bc_Md_isUpper : ByteArray := prog_14_method_7_code
abbrev y_Md_isUpper : MethodName := ⟨"KindRoundsModel", "isUpper", "(I)Z"⟩
theorem d_Md_isUpper_0 : decode bc_Md_isUpper 0 = .ok (.iload_n 0, 1) := by decide +kernel
theorem d_Md_isUpper_1 : decode bc_Md_isUpper 1 = .ok (.bipush 65, 2) := by decide +kernel
theorem d_Md_isUpper_3 : decode bc_Md_isUpper 3 = .ok (.if_icmp .lt 13, 3) := by decide +kernel
theorem d_Md_isUpper_6 : decode bc_Md_isUpper 6 = .ok (.iload_n 0, 1) := by decide +kernel
theorem d_Md_isUpper_7 : decode bc_Md_isUpper 7 = .ok (.bipush 90, 2) := by decide +kernel
theorem d_Md_isUpper_9 : decode bc_Md_isUpper 9 = .ok (.if_icmp .gt 7, 3) := by decide +kernel
theorem d_Md_isUpper_12 : decode bc_Md_isUpper 12 = .ok (.iconst 1, 1) := by decide +kernel
theorem d_Md_isUpper_13 : decode bc_Md_isUpper 13 = .ok (.goto 4, 3) := by decide +kernel
theorem d_Md_isUpper_16 : decode bc_Md_isUpper 16 = .ok (.iconst 0, 1) := by decide +kernel
theorem d_Md_isUpper_17 : decode bc_Md_isUpper 17 = .ok (.ireturn, 1) := by decide +kernel
abbrev bc_Md_isLower : ByteArray := prog_14_method_8_code
abbrev y_Md_isLower : MethodName := ⟨"KindRoundsModel", "isLower", "(I)Z"⟩
theorem d_Md_isLower_0 : decode bc_Md_isLower 0 = .ok (.iload_n 0, 1) := by decide +kernel
theorem d_Md_isLower_1 : decode bc_Md_isLower 1 = .ok (.bipush 97, 2) := by decide +kernel
theorem d_Md_isLower_3 : decode bc_Md_isLower 3 = .ok (.if_icmp .lt 13, 3) := by decide +kernel
theorem d_Md_isLower_6 : decode bc_Md_isLower 6 = .ok (.iload_n 0, 1) := by decide +kernel
theorem d_Md_isLower_7 : decode bc_Md_isLower 7 = .ok (.bipush 122, 2) := by decide +kernel
theorem d_Md_isLower_9 : decode bc_Md_isLower 9 = .ok (.if_icmp .gt 7, 3) := by decide +kernel
theorem d_Md_isLower_12 : decode bc_Md_isLower 12 = .ok (.iconst 1, 1) := by decide +kernel
theorem d_Md_isLower_13 : decode bc_Md_isLower 13 = .ok (.goto 4, 3) := by decide +kernel
theorem d_Md_isLower_16 : decode bc_Md_isLower 16 = .ok (.iconst 0, 1) := by decide +kernel
theorem d_Md_isLower_17 : decode bc_Md_isLower 17 = .ok (.ireturn, 1) := by decide +kernel
abbrev bc_Md_isOf : ByteArray := prog_14_method_9_code
abbrev y_Md_isOf : MethodName := ⟨"KindRoundsModel", "isOf", "(I)Z"⟩
theorem d_Md_isOf_0 : decode bc_Md_isOf 0 = .ok (.iload_n 0, 1) := by decide +kernel
theorem d_Md_isOf_1 : decode bc_Md_isOf 1 = .ok (.invokestatic 224, 3) := by decide +kernel
theorem d_Md_isOf_4 : decode bc_Md_isOf 4 = .ok (.ifCond .ne 22, 3) := by decide +kernel
theorem d_Md_isOf_7 : decode bc_Md_isOf 7 = .ok (.iload_n 0, 1) := by decide +kernel
theorem d_Md_isOf_8 : decode bc_Md_isOf 8 = .ok (.invokestatic 228, 3) := by decide +kernel
theorem d_Md_isOf_11 : decode bc_Md_isOf 11 = .ok (.ifCond .ne 15, 3) := by decide +kernel
theorem d_Md_isOf_14 : decode bc_Md_isOf 14 = .ok (.iload_n 0, 1) := by decide +kernel
theorem d_Md_isOf_15 : decode bc_Md_isOf 15 = .ok (.bipush 48, 2) := by decide +kernel
theorem d_Md_isOf_17 : decode bc_Md_isOf 17 = .ok (.if_icmp .lt 13, 3) := by decide +kernel
theorem d_Md_isOf_20 : decode bc_Md_isOf 20 = .ok (.iload_n 0, 1) := by decide +kernel
theorem d_Md_isOf_21 : decode bc_Md_isOf 21 = .ok (.bipush 57, 2) := by decide +kernel
theorem d_Md_isOf_23 : decode bc_Md_isOf 23 = .ok (.if_icmp .gt 7, 3) := by decide +kernel
theorem d_Md_isOf_26 : decode bc_Md_isOf 26 = .ok (.iconst 1, 1) := by decide +kernel
theorem d_Md_isOf_27 : decode bc_Md_isOf 27 = .ok (.goto 4, 3) := by decide +kernel
theorem d_Md_isOf_30 : decode bc_Md_isOf 30 = .ok (.iconst 0, 1) := by decide +kernel
theorem d_Md_isOf_31 : decode bc_Md_isOf 31 = .ok (.ireturn, 1) := by decide +kernel
abbrev bc_Md_next : ByteArray := prog_14_method_10_code
abbrev y_Md_next : MethodName := ⟨"KindRoundsModel", "next", "()V"⟩
theorem d_Md_next_0 : decode bc_Md_next 0 = .ok (.aload_n 0, 1) := by decide +kernel
theorem d_Md_next_1 : decode bc_Md_next 1 = .ok (.aload_n 0, 1) := by decide +kernel
theorem d_Md_next_2 : decode bc_Md_next 2 = .ok (.getfield 231, 3) := by decide +kernel
theorem d_Md_next_5 : decode bc_Md_next 5 = .ok (.invokevirtual 234, 3) := by decide +kernel
theorem d_Md_next_8 : decode bc_Md_next 8 = .ok (.bipush 32, 2) := by decide +kernel
theorem d_Md_next_10 : decode bc_Md_next 10 = .ok (.if_icmp .eq 16, 3) := by decide +kernel
theorem d_Md_next_13 : decode bc_Md_next 13 = .ok (.aload_n 0, 1) := by decide +kernel
theorem d_Md_next_14 : decode bc_Md_next 14 = .ok (.aload_n 0, 1) := by decide +kernel
theorem d_Md_next_15 : decode bc_Md_next 15 = .ok (.getfield 231, 3) := by decide +kernel
theorem d_Md_next_18 : decode bc_Md_next 18 = .ok (.invokevirtual 234, 3) := by decide +kernel
theorem d_Md_next_21 : decode bc_Md_next 21 = .ok (.bipush 10, 2) := by decide +kernel
theorem d_Md_next_23 : decode bc_Md_next 23 = .ok (.if_icmp .ne 16, 3) := by decide +kernel
theorem d_Md_next_26 : decode bc_Md_next 26 = .ok (.aload_n 0, 1) := by decide +kernel
theorem d_Md_next_27 : decode bc_Md_next 27 = .ok (.dup, 1) := by decide +kernel
theorem d_Md_next_28 : decode bc_Md_next 28 = .ok (.getfield 231, 3) := by decide +kernel
theorem d_Md_next_31 : decode bc_Md_next 31 = .ok (.iconst 1, 1) := by decide +kernel
theorem d_Md_next_32 : decode bc_Md_next 32 = .ok (.iadd, 1) := by decide +kernel
theorem d_Md_next_33 : decode bc_Md_next 33 = .ok (.putfield 231, 3) := by decide +kernel
theorem d_Md_next_36 : decode bc_Md_next 36 = .ok (.goto (-36), 3) := by decide +kernel
theorem d_Md_next_39 : decode bc_Md_next 39 = .ok (.aload_n 0, 1) := by decide +kernel
theorem d_Md_next_40 : decode bc_Md_next 40 = .ok (.aload_n 0, 1) := by decide +kernel
theorem d_Md_next_41 : decode bc_Md_next 41 = .ok (.getfield 231, 3) := by decide +kernel
theorem d_Md_next_44 : decode bc_Md_next 44 = .ok (.putfield 238, 3) := by decide +kernel
theorem d_Md_next_47 : decode bc_Md_next 47 = .ok (.aload_n 0, 1) := by decide +kernel
theorem d_Md_next_48 : decode bc_Md_next 48 = .ok (.aload_n 0, 1) := by decide +kernel
theorem d_Md_next_49 : decode bc_Md_next 49 = .ok (.getfield 231, 3) := by decide +kernel
theorem d_Md_next_52 : decode bc_Md_next 52 = .ok (.invokevirtual 234, 3) := by decide +kernel
theorem d_Md_next_55 : decode bc_Md_next 55 = .ok (.istore_n 1, 1) := by decide +kernel
theorem d_Md_next_56 : decode bc_Md_next 56 = .ok (.aload_n 0, 1) := by decide +kernel
theorem d_Md_next_57 : decode bc_Md_next 57 = .ok (.getfield 221, 3) := by decide +kernel
theorem d_Md_next_60 : decode bc_Md_next 60 = .ok (.ifCond .gt 7, 3) := by decide +kernel
theorem d_Md_next_63 : decode bc_Md_next 63 = .ok (.iload_n 1, 1) := by decide +kernel
theorem d_Md_next_64 : decode bc_Md_next 64 = .ok (.ifCond .ge 9, 3) := by decide +kernel
theorem d_Md_next_67 : decode bc_Md_next 67 = .ok (.aload_n 0, 1) := by decide +kernel
theorem d_Md_next_68 : decode bc_Md_next 68 = .ok (.iconst 5, 1) := by decide +kernel
theorem d_Md_next_69 : decode bc_Md_next 69 = .ok (.putfield 241, 3) := by decide +kernel
theorem d_Md_next_72 : decode bc_Md_next 72 = .ok (.return_, 1) := by decide +kernel
theorem d_Md_next_73 : decode bc_Md_next 73 = .ok (.iload_n 1, 1) := by decide +kernel
theorem d_Md_next_74 : decode bc_Md_next 74 = .ok (.invokestatic 224, 3) := by decide +kernel
theorem d_Md_next_77 : decode bc_Md_next 77 = .ok (.ifCond .ne 10, 3) := by decide +kernel
theorem d_Md_next_80 : decode bc_Md_next 80 = .ok (.iload_n 1, 1) := by decide +kernel
theorem d_Md_next_81 : decode bc_Md_next 81 = .ok (.invokestatic 228, 3) := by decide +kernel
theorem d_Md_next_84 : decode bc_Md_next 84 = .ok (.ifCond .eq 12, 3) := by decide +kernel
theorem d_Md_next_87 : decode bc_Md_next 87 = .ok (.aload_n 0, 1) := by decide +kernel
theorem d_Md_next_88 : decode bc_Md_next 88 = .ok (.iload_n 1, 1) := by decide +kernel
theorem d_Md_next_89 : decode bc_Md_next 89 = .ok (.invokestatic 224, 3) := by decide +kernel
theorem d_Md_next_92 : decode bc_Md_next 92 = .ok (.invokevirtual 244, 3) := by decide +kernel
theorem d_Md_next_95 : decode bc_Md_next 95 = .ok (.return_, 1) := by decide +kernel
theorem d_Md_next_96 : decode bc_Md_next 96 = .ok (.aload_n 0, 1) := by decide +kernel
theorem d_Md_next_97 : decode bc_Md_next 97 = .ok (.iconst 4, 1) := by decide +kernel
theorem d_Md_next_98 : decode bc_Md_next 98 = .ok (.putfield 241, 3) := by decide +kernel
theorem d_Md_next_101 : decode bc_Md_next 101 = .ok (.aload_n 0, 1) := by decide +kernel
theorem d_Md_next_102 : decode bc_Md_next 102 = .ok (.aload_n 0, 1) := by decide +kernel
theorem d_Md_next_103 : decode bc_Md_next 103 = .ok (.getfield 231, 3) := by decide +kernel
theorem d_Md_next_106 : decode bc_Md_next 106 = .ok (.iconst 1, 1) := by decide +kernel
theorem d_Md_next_107 : decode bc_Md_next 107 = .ok (.iadd, 1) := by decide +kernel
theorem d_Md_next_108 : decode bc_Md_next 108 = .ok (.invokevirtual 234, 3) := by decide +kernel
theorem d_Md_next_111 : decode bc_Md_next 111 = .ok (.istore_n 2, 1) := by decide +kernel
theorem d_Md_next_112 : decode bc_Md_next 112 = .ok (.iload_n 1, 1) := by decide +kernel
theorem d_Md_next_113 : decode bc_Md_next 113 = .ok (.bipush 58, 2) := by decide +kernel
theorem d_Md_next_115 : decode bc_Md_next 115 = .ok (.if_icmp .ne 9, 3) := by decide +kernel
theorem d_Md_next_118 : decode bc_Md_next 118 = .ok (.iload_n 2, 1) := by decide +kernel
theorem d_Md_next_119 : decode bc_Md_next 119 = .ok (.bipush 58, 2) := by decide +kernel
theorem d_Md_next_121 : decode bc_Md_next 121 = .ok (.if_icmp .eq 15, 3) := by decide +kernel
theorem d_Md_next_124 : decode bc_Md_next 124 = .ok (.iload_n 1, 1) := by decide +kernel
theorem d_Md_next_125 : decode bc_Md_next 125 = .ok (.bipush 45, 2) := by decide +kernel
theorem d_Md_next_127 : decode bc_Md_next 127 = .ok (.if_icmp .ne 39, 3) := by decide +kernel
theorem d_Md_next_130 : decode bc_Md_next 130 = .ok (.iload_n 2, 1) := by decide +kernel
theorem d_Md_next_131 : decode bc_Md_next 131 = .ok (.bipush 62, 2) := by decide +kernel
theorem d_Md_next_133 : decode bc_Md_next 133 = .ok (.if_icmp .ne 33, 3) := by decide +kernel
theorem d_Md_next_136 : decode bc_Md_next 136 = .ok (.aload_n 0, 1) := by decide +kernel
theorem d_Md_next_137 : decode bc_Md_next 137 = .ok (.iload_n 1, 1) := by decide +kernel
theorem d_Md_next_138 : decode bc_Md_next 138 = .ok (.bipush 58, 2) := by decide +kernel
theorem d_Md_next_140 : decode bc_Md_next 140 = .ok (.if_icmp .ne 9, 3) := by decide +kernel
theorem d_Md_next_143 : decode bc_Md_next 143 = .ok (.sipush 1001, 3) := by decide +kernel
theorem d_Md_next_146 : decode bc_Md_next 146 = .ok (.goto 6, 3) := by decide +kernel
theorem d_Md_next_149 : decode bc_Md_next 149 = .ok (.sipush 1000, 3) := by decide +kernel
theorem d_Md_next_152 : decode bc_Md_next 152 = .ok (.putfield 248, 3) := by decide +kernel
theorem d_Md_next_155 : decode bc_Md_next 155 = .ok (.aload_n 0, 1) := by decide +kernel
theorem d_Md_next_156 : decode bc_Md_next 156 = .ok (.dup, 1) := by decide +kernel
theorem d_Md_next_157 : decode bc_Md_next 157 = .ok (.getfield 231, 3) := by decide +kernel
theorem d_Md_next_160 : decode bc_Md_next 160 = .ok (.iconst 2, 1) := by decide +kernel
theorem d_Md_next_161 : decode bc_Md_next 161 = .ok (.iadd, 1) := by decide +kernel
theorem d_Md_next_162 : decode bc_Md_next 162 = .ok (.putfield 231, 3) := by decide +kernel
theorem d_Md_next_165 : decode bc_Md_next 165 = .ok (.return_, 1) := by decide +kernel
theorem d_Md_next_166 : decode bc_Md_next 166 = .ok (.iload_n 1, 1) := by decide +kernel
theorem d_Md_next_167 : decode bc_Md_next 167 = .ok (.bipush 61, 2) := by decide +kernel
theorem d_Md_next_169 : decode bc_Md_next 169 = .ok (.if_icmp .eq 63, 3) := by decide +kernel
theorem d_Md_next_172 : decode bc_Md_next 172 = .ok (.iload_n 1, 1) := by decide +kernel
theorem d_Md_next_173 : decode bc_Md_next 173 = .ok (.bipush 124, 2) := by decide +kernel
theorem d_Md_next_175 : decode bc_Md_next 175 = .ok (.if_icmp .eq 57, 3) := by decide +kernel
theorem d_Md_next_178 : decode bc_Md_next 178 = .ok (.iload_n 1, 1) := by decide +kernel
theorem d_Md_next_179 : decode bc_Md_next 179 = .ok (.bipush 40, 2) := by decide +kernel
theorem d_Md_next_181 : decode bc_Md_next 181 = .ok (.if_icmp .eq 51, 3) := by decide +kernel
theorem d_Md_next_184 : decode bc_Md_next 184 = .ok (.iload_n 1, 1) := by decide +kernel
theorem d_Md_next_185 : decode bc_Md_next 185 = .ok (.bipush 41, 2) := by decide +kernel
theorem d_Md_next_187 : decode bc_Md_next 187 = .ok (.if_icmp .eq 45, 3) := by decide +kernel
theorem d_Md_next_190 : decode bc_Md_next 190 = .ok (.iload_n 1, 1) := by decide +kernel
theorem d_Md_next_191 : decode bc_Md_next 191 = .ok (.bipush 91, 2) := by decide +kernel
theorem d_Md_next_193 : decode bc_Md_next 193 = .ok (.if_icmp .eq 39, 3) := by decide +kernel
theorem d_Md_next_196 : decode bc_Md_next 196 = .ok (.iload_n 1, 1) := by decide +kernel
theorem d_Md_next_197 : decode bc_Md_next 197 = .ok (.bipush 93, 2) := by decide +kernel
theorem d_Md_next_199 : decode bc_Md_next 199 = .ok (.if_icmp .eq 33, 3) := by decide +kernel
theorem d_Md_next_202 : decode bc_Md_next 202 = .ok (.iload_n 1, 1) := by decide +kernel
theorem d_Md_next_203 : decode bc_Md_next 203 = .ok (.bipush 123, 2) := by decide +kernel
theorem d_Md_next_205 : decode bc_Md_next 205 = .ok (.if_icmp .eq 27, 3) := by decide +kernel
theorem d_Md_next_208 : decode bc_Md_next 208 = .ok (.iload_n 1, 1) := by decide +kernel
theorem d_Md_next_209 : decode bc_Md_next 209 = .ok (.bipush 125, 2) := by decide +kernel
theorem d_Md_next_211 : decode bc_Md_next 211 = .ok (.if_icmp .eq 21, 3) := by decide +kernel
theorem d_Md_next_214 : decode bc_Md_next 214 = .ok (.iload_n 1, 1) := by decide +kernel
theorem d_Md_next_215 : decode bc_Md_next 215 = .ok (.bipush 59, 2) := by decide +kernel
theorem d_Md_next_217 : decode bc_Md_next 217 = .ok (.if_icmp .eq 15, 3) := by decide +kernel
theorem d_Md_next_220 : decode bc_Md_next 220 = .ok (.iload_n 1, 1) := by decide +kernel
theorem d_Md_next_221 : decode bc_Md_next 221 = .ok (.bipush 44, 2) := by decide +kernel
theorem d_Md_next_223 : decode bc_Md_next 223 = .ok (.if_icmp .eq 9, 3) := by decide +kernel
theorem d_Md_next_226 : decode bc_Md_next 226 = .ok (.iload_n 1, 1) := by decide +kernel
theorem d_Md_next_227 : decode bc_Md_next 227 = .ok (.bipush 42, 2) := by decide +kernel
theorem d_Md_next_229 : decode bc_Md_next 229 = .ok (.if_icmp .ne 7, 3) := by decide +kernel
theorem d_Md_next_232 : decode bc_Md_next 232 = .ok (.iconst 1, 1) := by decide +kernel
theorem d_Md_next_233 : decode bc_Md_next 233 = .ok (.goto 4, 3) := by decide +kernel
theorem d_Md_next_236 : decode bc_Md_next 236 = .ok (.iconst 0, 1) := by decide +kernel
theorem d_Md_next_237 : decode bc_Md_next 237 = .ok (.istore_n 3, 1) := by decide +kernel
theorem d_Md_next_238 : decode bc_Md_next 238 = .ok (.aload_n 0, 1) := by decide +kernel
theorem d_Md_next_239 : decode bc_Md_next 239 = .ok (.iload_n 1, 1) := by decide +kernel
theorem d_Md_next_240 : decode bc_Md_next 240 = .ok (.putfield 248, 3) := by decide +kernel
theorem d_Md_next_243 : decode bc_Md_next 243 = .ok (.aload_n 0, 1) := by decide +kernel
theorem d_Md_next_244 : decode bc_Md_next 244 = .ok (.dup, 1) := by decide +kernel
theorem d_Md_next_245 : decode bc_Md_next 245 = .ok (.getfield 231, 3) := by decide +kernel
theorem d_Md_next_248 : decode bc_Md_next 248 = .ok (.iconst 1, 1) := by decide +kernel
theorem d_Md_next_249 : decode bc_Md_next 249 = .ok (.iadd, 1) := by decide +kernel
theorem d_Md_next_250 : decode bc_Md_next 250 = .ok (.putfield 231, 3) := by decide +kernel
theorem d_Md_next_253 : decode bc_Md_next 253 = .ok (.iload_n 3, 1) := by decide +kernel
theorem d_Md_next_254 : decode bc_Md_next 254 = .ok (.ifCond .ne 17, 3) := by decide +kernel
theorem d_Md_next_257 : decode bc_Md_next 257 = .ok (.aload_n 0, 1) := by decide +kernel
theorem d_Md_next_258 : decode bc_Md_next 258 = .ok (.iconst 1, 1) := by decide +kernel
theorem d_Md_next_259 : decode bc_Md_next 259 = .ok (.aload_n 0, 1) := by decide +kernel
theorem d_Md_next_260 : decode bc_Md_next 260 = .ok (.getfield 238, 3) := by decide +kernel
theorem d_Md_next_263 : decode bc_Md_next 263 = .ok (.invokevirtual 251, 3) := by decide +kernel
theorem d_Md_next_266 : decode bc_Md_next 266 = .ok (.aload_n 0, 1) := by decide +kernel
theorem d_Md_next_267 : decode bc_Md_next 267 = .ok (.iconst 5, 1) := by decide +kernel
theorem d_Md_next_268 : decode bc_Md_next 268 = .ok (.putfield 241, 3) := by decide +kernel
theorem d_Md_next_271 : decode bc_Md_next 271 = .ok (.return_, 1) := by decide +kernel
abbrev bc_Md_name : ByteArray := prog_14_method_11_code
abbrev y_Md_name : MethodName := ⟨"KindRoundsModel", "name", "(Z)V"⟩
theorem d_Md_name_0 : decode bc_Md_name 0 = .ok (.aload_n 0, 1) := by decide +kernel
theorem d_Md_name_1 : decode bc_Md_name 1 = .ok (.lconst 0, 1) := by decide +kernel
theorem d_Md_name_2 : decode bc_Md_name 2 = .ok (.putfield 255, 3) := by decide +kernel
theorem d_Md_name_5 : decode bc_Md_name 5 = .ok (.iconst 0, 1) := by decide +kernel
theorem d_Md_name_6 : decode bc_Md_name 6 = .ok (.istore_n 2, 1) := by decide +kernel
theorem d_Md_name_7 : decode bc_Md_name 7 = .ok (.aload_n 0, 1) := by decide +kernel
theorem d_Md_name_8 : decode bc_Md_name 8 = .ok (.aload_n 0, 1) := by decide +kernel
theorem d_Md_name_9 : decode bc_Md_name 9 = .ok (.getfield 231, 3) := by decide +kernel
theorem d_Md_name_12 : decode bc_Md_name 12 = .ok (.invokevirtual 234, 3) := by decide +kernel
theorem d_Md_name_15 : decode bc_Md_name 15 = .ok (.invokestatic 259, 3) := by decide +kernel
theorem d_Md_name_18 : decode bc_Md_name 18 = .ok (.ifCond .eq 53, 3) := by decide +kernel
theorem d_Md_name_21 : decode bc_Md_name 21 = .ok (.aload_n 0, 1) := by decide +kernel
theorem d_Md_name_22 : decode bc_Md_name 22 = .ok (.iload_n 2, 1) := by decide +kernel
theorem d_Md_name_23 : decode bc_Md_name 23 = .ok (.bipush 8, 2) := by decide +kernel
theorem d_Md_name_25 : decode bc_Md_name 25 = .ok (.if_icmp .ge 23, 3) := by decide +kernel
theorem d_Md_name_28 : decode bc_Md_name 28 = .ok (.aload_n 0, 1) := by decide +kernel
theorem d_Md_name_29 : decode bc_Md_name 29 = .ok (.getfield 255, 3) := by decide +kernel
theorem d_Md_name_32 : decode bc_Md_name 32 = .ok (.bipush 8, 2) := by decide +kernel
theorem d_Md_name_34 : decode bc_Md_name 34 = .ok (.lshl, 1) := by decide +kernel
theorem d_Md_name_35 : decode bc_Md_name 35 = .ok (.aload_n 0, 1) := by decide +kernel
theorem d_Md_name_36 : decode bc_Md_name 36 = .ok (.aload_n 0, 1) := by decide +kernel
theorem d_Md_name_37 : decode bc_Md_name 37 = .ok (.getfield 231, 3) := by decide +kernel
theorem d_Md_name_40 : decode bc_Md_name 40 = .ok (.invokevirtual 234, 3) := by decide +kernel
theorem d_Md_name_43 : decode bc_Md_name 43 = .ok (.i2l, 1) := by decide +kernel
theorem d_Md_name_44 : decode bc_Md_name 44 = .ok (.lor, 1) := by decide +kernel
theorem d_Md_name_45 : decode bc_Md_name 45 = .ok (.goto 7, 3) := by decide +kernel
theorem d_Md_name_48 : decode bc_Md_name 48 = .ok (.aload_n 0, 1) := by decide +kernel
theorem d_Md_name_49 : decode bc_Md_name 49 = .ok (.getfield 255, 3) := by decide +kernel
theorem d_Md_name_52 : decode bc_Md_name 52 = .ok (.putfield 255, 3) := by decide +kernel
theorem d_Md_name_55 : decode bc_Md_name 55 = .ok (.iinc 2 1, 3) := by decide +kernel
theorem d_Md_name_58 : decode bc_Md_name 58 = .ok (.aload_n 0, 1) := by decide +kernel
theorem d_Md_name_59 : decode bc_Md_name 59 = .ok (.dup, 1) := by decide +kernel
theorem d_Md_name_60 : decode bc_Md_name 60 = .ok (.getfield 231, 3) := by decide +kernel
theorem d_Md_name_63 : decode bc_Md_name 63 = .ok (.iconst 1, 1) := by decide +kernel
theorem d_Md_name_64 : decode bc_Md_name 64 = .ok (.iadd, 1) := by decide +kernel
theorem d_Md_name_65 : decode bc_Md_name 65 = .ok (.putfield 231, 3) := by decide +kernel
theorem d_Md_name_68 : decode bc_Md_name 68 = .ok (.goto (-61), 3) := by decide +kernel
theorem d_Md_name_71 : decode bc_Md_name 71 = .ok (.aload_n 0, 1) := by decide +kernel
theorem d_Md_name_72 : decode bc_Md_name 72 = .ok (.iload_n 1, 1) := by decide +kernel
theorem d_Md_name_73 : decode bc_Md_name 73 = .ok (.ifCond .eq 7, 3) := by decide +kernel
theorem d_Md_name_76 : decode bc_Md_name 76 = .ok (.iconst 1, 1) := by decide +kernel
theorem d_Md_name_77 : decode bc_Md_name 77 = .ok (.goto 72, 3) := by decide +kernel
theorem d_Md_name_80 : decode bc_Md_name 80 = .ok (.aload_n 0, 1) := by decide +kernel
theorem d_Md_name_81 : decode bc_Md_name 81 = .ok (.getfield 255, 3) := by decide +kernel
theorem d_Md_name_84 : decode bc_Md_name 84 = .ok (.ldc2_w 262, 3) := by decide +kernel
theorem d_Md_name_87 : decode bc_Md_name 87 = .ok (.lcmp, 1) := by decide +kernel
theorem d_Md_name_88 : decode bc_Md_name 88 = .ok (.ifCond .ne 8, 3) := by decide +kernel
theorem d_Md_name_91 : decode bc_Md_name 91 = .ok (.iload_n 2, 1) := by decide +kernel
theorem d_Md_name_92 : decode bc_Md_name 92 = .ok (.iconst 4, 1) := by decide +kernel
theorem d_Md_name_93 : decode bc_Md_name 93 = .ok (.if_icmp .eq 51, 3) := by decide +kernel
theorem d_Md_name_96 : decode bc_Md_name 96 = .ok (.aload_n 0, 1) := by decide +kernel
theorem d_Md_name_97 : decode bc_Md_name 97 = .ok (.getfield 255, 3) := by decide +kernel
theorem d_Md_name_100 : decode bc_Md_name 100 = .ok (.ldc2_w 264, 3) := by decide +kernel
theorem d_Md_name_103 : decode bc_Md_name 103 = .ok (.lcmp, 1) := by decide +kernel
theorem d_Md_name_104 : decode bc_Md_name 104 = .ok (.ifCond .ne 8, 3) := by decide +kernel
theorem d_Md_name_107 : decode bc_Md_name 107 = .ok (.iload_n 2, 1) := by decide +kernel
theorem d_Md_name_108 : decode bc_Md_name 108 = .ok (.iconst 4, 1) := by decide +kernel
theorem d_Md_name_109 : decode bc_Md_name 109 = .ok (.if_icmp .eq 35, 3) := by decide +kernel
theorem d_Md_name_112 : decode bc_Md_name 112 = .ok (.aload_n 0, 1) := by decide +kernel
theorem d_Md_name_113 : decode bc_Md_name 113 = .ok (.getfield 255, 3) := by decide +kernel
theorem d_Md_name_116 : decode bc_Md_name 116 = .ok (.ldc2_w 266, 3) := by decide +kernel
theorem d_Md_name_119 : decode bc_Md_name 119 = .ok (.lcmp, 1) := by decide +kernel
theorem d_Md_name_120 : decode bc_Md_name 120 = .ok (.ifCond .ne 8, 3) := by decide +kernel
theorem d_Md_name_123 : decode bc_Md_name 123 = .ok (.iload_n 2, 1) := by decide +kernel
theorem d_Md_name_124 : decode bc_Md_name 124 = .ok (.iconst 5, 1) := by decide +kernel
theorem d_Md_name_125 : decode bc_Md_name 125 = .ok (.if_icmp .eq 19, 3) := by decide +kernel
theorem d_Md_name_128 : decode bc_Md_name 128 = .ok (.aload_n 0, 1) := by decide +kernel
theorem d_Md_name_129 : decode bc_Md_name 129 = .ok (.getfield 255, 3) := by decide +kernel
theorem d_Md_name_132 : decode bc_Md_name 132 = .ok (.ldc2_w 268, 3) := by decide +kernel
theorem d_Md_name_135 : decode bc_Md_name 135 = .ok (.lcmp, 1) := by decide +kernel
theorem d_Md_name_136 : decode bc_Md_name 136 = .ok (.ifCond .ne 12, 3) := by decide +kernel
theorem d_Md_name_139 : decode bc_Md_name 139 = .ok (.iload_n 2, 1) := by decide +kernel
theorem d_Md_name_140 : decode bc_Md_name 140 = .ok (.iconst 4, 1) := by decide +kernel
theorem d_Md_name_141 : decode bc_Md_name 141 = .ok (.if_icmp .ne 7, 3) := by decide +kernel
theorem d_Md_name_144 : decode bc_Md_name 144 = .ok (.iconst 3, 1) := by decide +kernel
theorem d_Md_name_145 : decode bc_Md_name 145 = .ok (.goto 4, 3) := by decide +kernel
theorem d_Md_name_148 : decode bc_Md_name 148 = .ok (.iconst 2, 1) := by decide +kernel
theorem d_Md_name_149 : decode bc_Md_name 149 = .ok (.putfield 241, 3) := by decide +kernel
theorem d_Md_name_152 : decode bc_Md_name 152 = .ok (.iload_n 2, 1) := by decide +kernel
theorem d_Md_name_153 : decode bc_Md_name 153 = .ok (.bipush 8, 2) := by decide +kernel
theorem d_Md_name_155 : decode bc_Md_name 155 = .ok (.if_icmp .le 17, 3) := by decide +kernel
theorem d_Md_name_158 : decode bc_Md_name 158 = .ok (.aload_n 0, 1) := by decide +kernel
theorem d_Md_name_159 : decode bc_Md_name 159 = .ok (.iconst 1, 1) := by decide +kernel
theorem d_Md_name_160 : decode bc_Md_name 160 = .ok (.aload_n 0, 1) := by decide +kernel
theorem d_Md_name_161 : decode bc_Md_name 161 = .ok (.getfield 238, 3) := by decide +kernel
theorem d_Md_name_164 : decode bc_Md_name 164 = .ok (.invokevirtual 251, 3) := by decide +kernel
theorem d_Md_name_167 : decode bc_Md_name 167 = .ok (.aload_n 0, 1) := by decide +kernel
theorem d_Md_name_168 : decode bc_Md_name 168 = .ok (.iconst 5, 1) := by decide +kernel
theorem d_Md_name_169 : decode bc_Md_name 169 = .ok (.putfield 241, 3) := by decide +kernel
theorem d_Md_name_172 : decode bc_Md_name 172 = .ok (.return_, 1) := by decide +kernel
abbrev bc_Md_isSign : ByteArray := prog_14_method_12_code
abbrev y_Md_isSign : MethodName := ⟨"KindRoundsModel", "isSign", "(I)Z"⟩
theorem d_Md_isSign_0 : decode bc_Md_isSign 0 = .ok (.aload_n 0, 1) := by decide +kernel
theorem d_Md_isSign_1 : decode bc_Md_isSign 1 = .ok (.getfield 221, 3) := by decide +kernel
theorem d_Md_isSign_4 : decode bc_Md_isSign 4 = .ok (.ifCond .ne 23, 3) := by decide +kernel
theorem d_Md_isSign_7 : decode bc_Md_isSign 7 = .ok (.aload_n 0, 1) := by decide +kernel
theorem d_Md_isSign_8 : decode bc_Md_isSign 8 = .ok (.getfield 241, 3) := by decide +kernel
theorem d_Md_isSign_11 : decode bc_Md_isSign 11 = .ok (.iconst 4, 1) := by decide +kernel
theorem d_Md_isSign_12 : decode bc_Md_isSign 12 = .ok (.if_icmp .ne 15, 3) := by decide +kernel
theorem d_Md_isSign_15 : decode bc_Md_isSign 15 = .ok (.aload_n 0, 1) := by decide +kernel
theorem d_Md_isSign_16 : decode bc_Md_isSign 16 = .ok (.getfield 248, 3) := by decide +kernel
theorem d_Md_isSign_19 : decode bc_Md_isSign 19 = .ok (.iload_n 1, 1) := by decide +kernel
theorem d_Md_isSign_20 : decode bc_Md_isSign 20 = .ok (.if_icmp .ne 7, 3) := by decide +kernel
theorem d_Md_isSign_23 : decode bc_Md_isSign 23 = .ok (.iconst 1, 1) := by decide +kernel
theorem d_Md_isSign_24 : decode bc_Md_isSign 24 = .ok (.goto 4, 3) := by decide +kernel
theorem d_Md_isSign_27 : decode bc_Md_isSign 27 = .ok (.iconst 0, 1) := by decide +kernel
theorem d_Md_isSign_28 : decode bc_Md_isSign 28 = .ok (.ireturn, 1) := by decide +kernel
abbrev bc_Md_cannot : ByteArray := prog_14_method_13_code
abbrev y_Md_cannot : MethodName := ⟨"KindRoundsModel", "cannot", "()V"⟩
theorem d_Md_cannot_0 : decode bc_Md_cannot 0 = .ok (.aload_n 0, 1) := by decide +kernel
theorem d_Md_cannot_1 : decode bc_Md_cannot 1 = .ok (.iconst 1, 1) := by decide +kernel
theorem d_Md_cannot_2 : decode bc_Md_cannot 2 = .ok (.aload_n 0, 1) := by decide +kernel
theorem d_Md_cannot_3 : decode bc_Md_cannot 3 = .ok (.getfield 238, 3) := by decide +kernel
theorem d_Md_cannot_6 : decode bc_Md_cannot 6 = .ok (.invokevirtual 251, 3) := by decide +kernel
theorem d_Md_cannot_9 : decode bc_Md_cannot 9 = .ok (.return_, 1) := by decide +kernel
abbrev bc_Md_want : ByteArray := prog_14_method_14_code
abbrev y_Md_want : MethodName := ⟨"KindRoundsModel", "want", "(I)V"⟩
theorem d_Md_want_0 : decode bc_Md_want 0 = .ok (.aload_n 0, 1) := by decide +kernel
theorem d_Md_want_1 : decode bc_Md_want 1 = .ok (.iload_n 1, 1) := by decide +kernel
theorem d_Md_want_2 : decode bc_Md_want 2 = .ok (.invokevirtual 270, 3) := by decide +kernel
theorem d_Md_want_5 : decode bc_Md_want 5 = .ok (.ifCond .eq 10, 3) := by decide +kernel
theorem d_Md_want_8 : decode bc_Md_want 8 = .ok (.aload_n 0, 1) := by decide +kernel
theorem d_Md_want_9 : decode bc_Md_want 9 = .ok (.invokevirtual 273, 3) := by decide +kernel
theorem d_Md_want_12 : decode bc_Md_want 12 = .ok (.goto 7, 3) := by decide +kernel
theorem d_Md_want_15 : decode bc_Md_want 15 = .ok (.aload_n 0, 1) := by decide +kernel
theorem d_Md_want_16 : decode bc_Md_want 16 = .ok (.invokevirtual 276, 3) := by decide +kernel
theorem d_Md_want_19 : decode bc_Md_want 19 = .ok (.return_, 1) := by decide +kernel
abbrev bc_Md_tell : ByteArray := prog_14_method_15_code
abbrev y_Md_tell : MethodName := ⟨"KindRoundsModel", "tell", "(II)V"⟩
theorem d_Md_tell_0 : decode bc_Md_tell 0 = .ok (.aload_n 0, 1) := by decide +kernel
theorem d_Md_tell_1 : decode bc_Md_tell 1 = .ok (.getfield 42, 3) := by decide +kernel
theorem d_Md_tell_4 : decode bc_Md_tell 4 = .ok (.aload_n 0, 1) := by decide +kernel
theorem d_Md_tell_5 : decode bc_Md_tell 5 = .ok (.getfield 279, 3) := by decide +kernel
theorem d_Md_tell_8 : decode bc_Md_tell 8 = .ok (.iload_n 1, 1) := by decide +kernel
theorem d_Md_tell_9 : decode bc_Md_tell 9 = .ok (.iastore, 1) := by decide +kernel
theorem d_Md_tell_10 : decode bc_Md_tell 10 = .ok (.aload_n 0, 1) := by decide +kernel
theorem d_Md_tell_11 : decode bc_Md_tell 11 = .ok (.getfield 45, 3) := by decide +kernel
theorem d_Md_tell_14 : decode bc_Md_tell 14 = .ok (.aload_n 0, 1) := by decide +kernel
theorem d_Md_tell_15 : decode bc_Md_tell 15 = .ok (.getfield 279, 3) := by decide +kernel
theorem d_Md_tell_18 : decode bc_Md_tell 18 = .ok (.aload_n 0, 1) := by decide +kernel
theorem d_Md_tell_19 : decode bc_Md_tell 19 = .ok (.getfield 255, 3) := by decide +kernel
theorem d_Md_tell_22 : decode bc_Md_tell 22 = .ok (.lastore, 1) := by decide +kernel
theorem d_Md_tell_23 : decode bc_Md_tell 23 = .ok (.aload_n 0, 1) := by decide +kernel
theorem d_Md_tell_24 : decode bc_Md_tell 24 = .ok (.getfield 48, 3) := by decide +kernel
theorem d_Md_tell_27 : decode bc_Md_tell 27 = .ok (.aload_n 0, 1) := by decide +kernel
theorem d_Md_tell_28 : decode bc_Md_tell 28 = .ok (.getfield 279, 3) := by decide +kernel
theorem d_Md_tell_31 : decode bc_Md_tell 31 = .ok (.aload_n 0, 1) := by decide +kernel
theorem d_Md_tell_32 : decode bc_Md_tell 32 = .ok (.getfield 238, 3) := by decide +kernel
theorem d_Md_tell_35 : decode bc_Md_tell 35 = .ok (.iastore, 1) := by decide +kernel
theorem d_Md_tell_36 : decode bc_Md_tell 36 = .ok (.aload_n 0, 1) := by decide +kernel
theorem d_Md_tell_37 : decode bc_Md_tell 37 = .ok (.getfield 51, 3) := by decide +kernel
theorem d_Md_tell_40 : decode bc_Md_tell 40 = .ok (.aload_n 0, 1) := by decide +kernel
theorem d_Md_tell_41 : decode bc_Md_tell 41 = .ok (.getfield 279, 3) := by decide +kernel
theorem d_Md_tell_44 : decode bc_Md_tell 44 = .ok (.aload_n 0, 1) := by decide +kernel
theorem d_Md_tell_45 : decode bc_Md_tell 45 = .ok (.getfield 282, 3) := by decide +kernel
theorem d_Md_tell_48 : decode bc_Md_tell 48 = .ok (.iastore, 1) := by decide +kernel
theorem d_Md_tell_49 : decode bc_Md_tell 49 = .ok (.aload_n 0, 1) := by decide +kernel
theorem d_Md_tell_50 : decode bc_Md_tell 50 = .ok (.getfield 54, 3) := by decide +kernel
theorem d_Md_tell_53 : decode bc_Md_tell 53 = .ok (.aload_n 0, 1) := by decide +kernel
theorem d_Md_tell_54 : decode bc_Md_tell 54 = .ok (.getfield 279, 3) := by decide +kernel
theorem d_Md_tell_57 : decode bc_Md_tell 57 = .ok (.iload_n 2, 1) := by decide +kernel
theorem d_Md_tell_58 : decode bc_Md_tell 58 = .ok (.iastore, 1) := by decide +kernel
theorem d_Md_tell_59 : decode bc_Md_tell 59 = .ok (.aload_n 0, 1) := by decide +kernel
theorem d_Md_tell_60 : decode bc_Md_tell 60 = .ok (.getfield 57, 3) := by decide +kernel
theorem d_Md_tell_63 : decode bc_Md_tell 63 = .ok (.aload_n 0, 1) := by decide +kernel
theorem d_Md_tell_64 : decode bc_Md_tell 64 = .ok (.getfield 279, 3) := by decide +kernel
theorem d_Md_tell_67 : decode bc_Md_tell 67 = .ok (.iconst 1, 1) := by decide +kernel
theorem d_Md_tell_68 : decode bc_Md_tell 68 = .ok (.bastore, 1) := by decide +kernel
theorem d_Md_tell_69 : decode bc_Md_tell 69 = .ok (.aload_n 0, 1) := by decide +kernel
theorem d_Md_tell_70 : decode bc_Md_tell 70 = .ok (.getfield 61, 3) := by decide +kernel
theorem d_Md_tell_73 : decode bc_Md_tell 73 = .ok (.aload_n 0, 1) := by decide +kernel
theorem d_Md_tell_74 : decode bc_Md_tell 74 = .ok (.getfield 279, 3) := by decide +kernel
theorem d_Md_tell_77 : decode bc_Md_tell 77 = .ok (.iconst 0, 1) := by decide +kernel
theorem d_Md_tell_78 : decode bc_Md_tell 78 = .ok (.iastore, 1) := by decide +kernel
theorem d_Md_tell_79 : decode bc_Md_tell 79 = .ok (.aload_n 0, 1) := by decide +kernel
theorem d_Md_tell_80 : decode bc_Md_tell 80 = .ok (.dup, 1) := by decide +kernel
theorem d_Md_tell_81 : decode bc_Md_tell 81 = .ok (.getfield 279, 3) := by decide +kernel
theorem d_Md_tell_84 : decode bc_Md_tell 84 = .ok (.iconst 1, 1) := by decide +kernel
theorem d_Md_tell_85 : decode bc_Md_tell 85 = .ok (.iadd, 1) := by decide +kernel
theorem d_Md_tell_86 : decode bc_Md_tell 86 = .ok (.putfield 279, 3) := by decide +kernel
theorem d_Md_tell_89 : decode bc_Md_tell 89 = .ok (.return_, 1) := by decide +kernel
abbrev bc_Md_act : ByteArray := prog_14_method_16_code
abbrev y_Md_act : MethodName := ⟨"KindRoundsModel", "act", "(III)V"⟩
theorem d_Md_act_0 : decode bc_Md_act 0 = .ok (.aload_n 0, 1) := by decide +kernel
theorem d_Md_act_1 : decode bc_Md_act 1 = .ok (.getfield 33, 3) := by decide +kernel
theorem d_Md_act_4 : decode bc_Md_act 4 = .ok (.aload_n 0, 1) := by decide +kernel
theorem d_Md_act_5 : decode bc_Md_act 5 = .ok (.getfield 285, 3) := by decide +kernel
theorem d_Md_act_8 : decode bc_Md_act 8 = .ok (.iload_n 1, 1) := by decide +kernel
theorem d_Md_act_9 : decode bc_Md_act 9 = .ok (.iastore, 1) := by decide +kernel
theorem d_Md_act_10 : decode bc_Md_act 10 = .ok (.aload_n 0, 1) := by decide +kernel
theorem d_Md_act_11 : decode bc_Md_act 11 = .ok (.getfield 36, 3) := by decide +kernel
theorem d_Md_act_14 : decode bc_Md_act 14 = .ok (.aload_n 0, 1) := by decide +kernel
theorem d_Md_act_15 : decode bc_Md_act 15 = .ok (.getfield 285, 3) := by decide +kernel
theorem d_Md_act_18 : decode bc_Md_act 18 = .ok (.iload_n 2, 1) := by decide +kernel
theorem d_Md_act_19 : decode bc_Md_act 19 = .ok (.iastore, 1) := by decide +kernel
theorem d_Md_act_20 : decode bc_Md_act 20 = .ok (.aload_n 0, 1) := by decide +kernel
theorem d_Md_act_21 : decode bc_Md_act 21 = .ok (.getfield 39, 3) := by decide +kernel
theorem d_Md_act_24 : decode bc_Md_act 24 = .ok (.aload_n 0, 1) := by decide +kernel
theorem d_Md_act_25 : decode bc_Md_act 25 = .ok (.getfield 285, 3) := by decide +kernel
theorem d_Md_act_28 : decode bc_Md_act 28 = .ok (.iload_n 3, 1) := by decide +kernel
theorem d_Md_act_29 : decode bc_Md_act 29 = .ok (.iastore, 1) := by decide +kernel
theorem d_Md_act_30 : decode bc_Md_act 30 = .ok (.aload_n 0, 1) := by decide +kernel
theorem d_Md_act_31 : decode bc_Md_act 31 = .ok (.dup, 1) := by decide +kernel
theorem d_Md_act_32 : decode bc_Md_act 32 = .ok (.getfield 285, 3) := by decide +kernel
theorem d_Md_act_35 : decode bc_Md_act 35 = .ok (.iconst 1, 1) := by decide +kernel
theorem d_Md_act_36 : decode bc_Md_act 36 = .ok (.iadd, 1) := by decide +kernel
theorem d_Md_act_37 : decode bc_Md_act 37 = .ok (.putfield 285, 3) := by decide +kernel
theorem d_Md_act_40 : decode bc_Md_act 40 = .ok (.return_, 1) := by decide +kernel
abbrev bc_Md_node : ByteArray := prog_14_method_17_code
abbrev y_Md_node : MethodName := ⟨"KindRoundsModel", "node", "(III)I"⟩
theorem d_Md_node_0 : decode bc_Md_node 0 = .ok (.aload_n 0, 1) := by decide +kernel
theorem d_Md_node_1 : decode bc_Md_node 1 = .ok (.getfield 17, 3) := by decide +kernel
theorem d_Md_node_4 : decode bc_Md_node 4 = .ok (.aload_n 0, 1) := by decide +kernel
theorem d_Md_node_5 : decode bc_Md_node 5 = .ok (.getfield 288, 3) := by decide +kernel
theorem d_Md_node_8 : decode bc_Md_node 8 = .ok (.iload_n 1, 1) := by decide +kernel
theorem d_Md_node_9 : decode bc_Md_node 9 = .ok (.iastore, 1) := by decide +kernel
theorem d_Md_node_10 : decode bc_Md_node 10 = .ok (.aload_n 0, 1) := by decide +kernel
theorem d_Md_node_11 : decode bc_Md_node 11 = .ok (.getfield 24, 3) := by decide +kernel
theorem d_Md_node_14 : decode bc_Md_node 14 = .ok (.aload_n 0, 1) := by decide +kernel
theorem d_Md_node_15 : decode bc_Md_node 15 = .ok (.getfield 288, 3) := by decide +kernel
theorem d_Md_node_18 : decode bc_Md_node 18 = .ok (.iload_n 2, 1) := by decide +kernel
theorem d_Md_node_19 : decode bc_Md_node 19 = .ok (.iastore, 1) := by decide +kernel
theorem d_Md_node_20 : decode bc_Md_node 20 = .ok (.aload_n 0, 1) := by decide +kernel
theorem d_Md_node_21 : decode bc_Md_node 21 = .ok (.getfield 27, 3) := by decide +kernel
theorem d_Md_node_24 : decode bc_Md_node 24 = .ok (.aload_n 0, 1) := by decide +kernel
theorem d_Md_node_25 : decode bc_Md_node 25 = .ok (.getfield 288, 3) := by decide +kernel
theorem d_Md_node_28 : decode bc_Md_node 28 = .ok (.iload_n 3, 1) := by decide +kernel
theorem d_Md_node_29 : decode bc_Md_node 29 = .ok (.iastore, 1) := by decide +kernel
theorem d_Md_node_30 : decode bc_Md_node 30 = .ok (.aload_n 0, 1) := by decide +kernel
theorem d_Md_node_31 : decode bc_Md_node 31 = .ok (.dup, 1) := by decide +kernel
theorem d_Md_node_32 : decode bc_Md_node 32 = .ok (.getfield 288, 3) := by decide +kernel
theorem d_Md_node_35 : decode bc_Md_node 35 = .ok (.iconst 1, 1) := by decide +kernel
theorem d_Md_node_36 : decode bc_Md_node 36 = .ok (.iadd, 1) := by decide +kernel
theorem d_Md_node_37 : decode bc_Md_node 37 = .ok (.putfield 288, 3) := by decide +kernel
theorem d_Md_node_40 : decode bc_Md_node 40 = .ok (.aload_n 0, 1) := by decide +kernel
theorem d_Md_node_41 : decode bc_Md_node 41 = .ok (.getfield 288, 3) := by decide +kernel
theorem d_Md_node_44 : decode bc_Md_node 44 = .ok (.iconst 1, 1) := by decide +kernel
theorem d_Md_node_45 : decode bc_Md_node 45 = .ok (.isub, 1) := by decide +kernel
theorem d_Md_node_46 : decode bc_Md_node 46 = .ok (.ireturn, 1) := by decide +kernel
abbrev bc_Md_count : ByteArray := prog_14_method_18_code
abbrev y_Md_count : MethodName := ⟨"KindRoundsModel", "count", "()V"⟩
theorem d_Md_count_0 : decode bc_Md_count 0 = .ok (.aload_n 0, 1) := by decide +kernel
theorem d_Md_count_1 : decode bc_Md_count 1 = .ok (.dup, 1) := by decide +kernel
theorem d_Md_count_2 : decode bc_Md_count 2 = .ok (.getfield 291, 3) := by decide +kernel
theorem d_Md_count_5 : decode bc_Md_count 5 = .ok (.iconst 1, 1) := by decide +kernel
theorem d_Md_count_6 : decode bc_Md_count 6 = .ok (.iadd, 1) := by decide +kernel
theorem d_Md_count_7 : decode bc_Md_count 7 = .ok (.putfield 291, 3) := by decide +kernel
theorem d_Md_count_10 : decode bc_Md_count 10 = .ok (.aload_n 0, 1) := by decide +kernel
theorem d_Md_count_11 : decode bc_Md_count 11 = .ok (.getfield 291, 3) := by decide +kernel
theorem d_Md_count_14 : decode bc_Md_count 14 = .ok (.sipush 200, 3) := by decide +kernel
theorem d_Md_count_17 : decode bc_Md_count 17 = .ok (.if_icmp .le 12, 3) := by decide +kernel
theorem d_Md_count_20 : decode bc_Md_count 20 = .ok (.aload_n 0, 1) := by decide +kernel
theorem d_Md_count_21 : decode bc_Md_count 21 = .ok (.iconst 2, 1) := by decide +kernel
theorem d_Md_count_22 : decode bc_Md_count 22 = .ok (.aload_n 0, 1) := by decide +kernel
theorem d_Md_count_23 : decode bc_Md_count 23 = .ok (.getfield 238, 3) := by decide +kernel
theorem d_Md_count_26 : decode bc_Md_count 26 = .ok (.invokevirtual 251, 3) := by decide +kernel
theorem d_Md_count_29 : decode bc_Md_count 29 = .ok (.return_, 1) := by decide +kernel
abbrev bc_Md_deeper : ByteArray := prog_14_method_19_code
abbrev y_Md_deeper : MethodName := ⟨"KindRoundsModel", "deeper", "()V"⟩
theorem d_Md_deeper_0 : decode bc_Md_deeper 0 = .ok (.aload_n 0, 1) := by decide +kernel
theorem d_Md_deeper_1 : decode bc_Md_deeper 1 = .ok (.dup, 1) := by decide +kernel
theorem d_Md_deeper_2 : decode bc_Md_deeper 2 = .ok (.getfield 294, 3) := by decide +kernel
theorem d_Md_deeper_5 : decode bc_Md_deeper 5 = .ok (.iconst 1, 1) := by decide +kernel
theorem d_Md_deeper_6 : decode bc_Md_deeper 6 = .ok (.iadd, 1) := by decide +kernel
theorem d_Md_deeper_7 : decode bc_Md_deeper 7 = .ok (.putfield 294, 3) := by decide +kernel
theorem d_Md_deeper_10 : decode bc_Md_deeper 10 = .ok (.aload_n 0, 1) := by decide +kernel
theorem d_Md_deeper_11 : decode bc_Md_deeper 11 = .ok (.getfield 294, 3) := by decide +kernel
theorem d_Md_deeper_14 : decode bc_Md_deeper 14 = .ok (.bipush 8, 2) := by decide +kernel
theorem d_Md_deeper_16 : decode bc_Md_deeper 16 = .ok (.if_icmp .le 12, 3) := by decide +kernel
theorem d_Md_deeper_19 : decode bc_Md_deeper 19 = .ok (.aload_n 0, 1) := by decide +kernel
theorem d_Md_deeper_20 : decode bc_Md_deeper 20 = .ok (.iconst 2, 1) := by decide +kernel
theorem d_Md_deeper_21 : decode bc_Md_deeper 21 = .ok (.aload_n 0, 1) := by decide +kernel
theorem d_Md_deeper_22 : decode bc_Md_deeper 22 = .ok (.getfield 238, 3) := by decide +kernel
theorem d_Md_deeper_25 : decode bc_Md_deeper 25 = .ok (.invokevirtual 251, 3) := by decide +kernel
theorem d_Md_deeper_28 : decode bc_Md_deeper 28 = .ok (.return_, 1) := by decide +kernel
abbrev bc_Md_canBegin : ByteArray := prog_14_method_20_code
abbrev y_Md_canBegin : MethodName := ⟨"KindRoundsModel", "canBegin", "()Z"⟩
theorem d_Md_canBegin_0 : decode bc_Md_canBegin 0 = .ok (.aload_n 0, 1) := by decide +kernel
theorem d_Md_canBegin_1 : decode bc_Md_canBegin 1 = .ok (.getfield 221, 3) := by decide +kernel
theorem d_Md_canBegin_4 : decode bc_Md_canBegin 4 = .ok (.ifCond .ne 41, 3) := by decide +kernel
theorem d_Md_canBegin_7 : decode bc_Md_canBegin 7 = .ok (.aload_n 0, 1) := by decide +kernel
theorem d_Md_canBegin_8 : decode bc_Md_canBegin 8 = .ok (.getfield 241, 3) := by decide +kernel
theorem d_Md_canBegin_11 : decode bc_Md_canBegin 11 = .ok (.iconst 1, 1) := by decide +kernel
theorem d_Md_canBegin_12 : decode bc_Md_canBegin 12 = .ok (.if_icmp .eq 29, 3) := by decide +kernel
theorem d_Md_canBegin_15 : decode bc_Md_canBegin 15 = .ok (.aload_n 0, 1) := by decide +kernel
theorem d_Md_canBegin_16 : decode bc_Md_canBegin 16 = .ok (.getfield 241, 3) := by decide +kernel
theorem d_Md_canBegin_19 : decode bc_Md_canBegin 19 = .ok (.iconst 2, 1) := by decide +kernel
theorem d_Md_canBegin_20 : decode bc_Md_canBegin 20 = .ok (.if_icmp .eq 21, 3) := by decide +kernel
theorem d_Md_canBegin_23 : decode bc_Md_canBegin 23 = .ok (.aload_n 0, 1) := by decide +kernel
theorem d_Md_canBegin_24 : decode bc_Md_canBegin 24 = .ok (.bipush 40, 2) := by decide +kernel
theorem d_Md_canBegin_26 : decode bc_Md_canBegin 26 = .ok (.invokevirtual 270, 3) := by decide +kernel
theorem d_Md_canBegin_29 : decode bc_Md_canBegin 29 = .ok (.ifCond .ne 12, 3) := by decide +kernel
theorem d_Md_canBegin_32 : decode bc_Md_canBegin 32 = .ok (.aload_n 0, 1) := by decide +kernel
theorem d_Md_canBegin_33 : decode bc_Md_canBegin 33 = .ok (.bipush 91, 2) := by decide +kernel
theorem d_Md_canBegin_35 : decode bc_Md_canBegin 35 = .ok (.invokevirtual 270, 3) := by decide +kernel
theorem d_Md_canBegin_38 : decode bc_Md_canBegin 38 = .ok (.ifCond .eq 7, 3) := by decide +kernel
theorem d_Md_canBegin_41 : decode bc_Md_canBegin 41 = .ok (.iconst 1, 1) := by decide +kernel
theorem d_Md_canBegin_42 : decode bc_Md_canBegin 42 = .ok (.goto 4, 3) := by decide +kernel
theorem d_Md_canBegin_45 : decode bc_Md_canBegin 45 = .ok (.iconst 0, 1) := by decide +kernel
theorem d_Md_canBegin_46 : decode bc_Md_canBegin 46 = .ok (.ireturn, 1) := by decide +kernel
abbrev bc_Md_open : ByteArray := prog_14_method_21_code
abbrev y_Md_open : MethodName := ⟨"KindRoundsModel", "open", "(I)V"⟩
theorem d_Md_open_0 : decode bc_Md_open 0 = .ok (.aload_n 0, 1) := by decide +kernel
theorem d_Md_open_1 : decode bc_Md_open 1 = .ok (.dup, 1) := by decide +kernel
theorem d_Md_open_2 : decode bc_Md_open 2 = .ok (.getfield 297, 3) := by decide +kernel
theorem d_Md_open_5 : decode bc_Md_open 5 = .ok (.iconst 1, 1) := by decide +kernel
theorem d_Md_open_6 : decode bc_Md_open 6 = .ok (.iadd, 1) := by decide +kernel
theorem d_Md_open_7 : decode bc_Md_open 7 = .ok (.putfield 297, 3) := by decide +kernel
theorem d_Md_open_10 : decode bc_Md_open 10 = .ok (.aload_n 0, 1) := by decide +kernel
theorem d_Md_open_11 : decode bc_Md_open 11 = .ok (.getfield 64, 3) := by decide +kernel
theorem d_Md_open_14 : decode bc_Md_open 14 = .ok (.aload_n 0, 1) := by decide +kernel
theorem d_Md_open_15 : decode bc_Md_open 15 = .ok (.getfield 297, 3) := by decide +kernel
theorem d_Md_open_18 : decode bc_Md_open 18 = .ok (.iload_n 1, 1) := by decide +kernel
theorem d_Md_open_19 : decode bc_Md_open 19 = .ok (.iastore, 1) := by decide +kernel
theorem d_Md_open_20 : decode bc_Md_open 20 = .ok (.aload_n 0, 1) := by decide +kernel
theorem d_Md_open_21 : decode bc_Md_open 21 = .ok (.getfield 67, 3) := by decide +kernel
theorem d_Md_open_24 : decode bc_Md_open 24 = .ok (.aload_n 0, 1) := by decide +kernel
theorem d_Md_open_25 : decode bc_Md_open 25 = .ok (.getfield 297, 3) := by decide +kernel
theorem d_Md_open_28 : decode bc_Md_open 28 = .ok (.aload_n 0, 1) := by decide +kernel
theorem d_Md_open_29 : decode bc_Md_open 29 = .ok (.getfield 238, 3) := by decide +kernel
theorem d_Md_open_32 : decode bc_Md_open 32 = .ok (.iastore, 1) := by decide +kernel
theorem d_Md_open_33 : decode bc_Md_open 33 = .ok (.aload_n 0, 1) := by decide +kernel
theorem d_Md_open_34 : decode bc_Md_open 34 = .ok (.getfield 70, 3) := by decide +kernel
theorem d_Md_open_37 : decode bc_Md_open 37 = .ok (.aload_n 0, 1) := by decide +kernel
theorem d_Md_open_38 : decode bc_Md_open 38 = .ok (.getfield 297, 3) := by decide +kernel
theorem d_Md_open_41 : decode bc_Md_open 41 = .ok (.iconst (-1), 1) := by decide +kernel
theorem d_Md_open_42 : decode bc_Md_open 42 = .ok (.iastore, 1) := by decide +kernel
theorem d_Md_open_43 : decode bc_Md_open 43 = .ok (.aload_n 0, 1) := by decide +kernel
theorem d_Md_open_44 : decode bc_Md_open 44 = .ok (.getfield 82, 3) := by decide +kernel
theorem d_Md_open_47 : decode bc_Md_open 47 = .ok (.aload_n 0, 1) := by decide +kernel
theorem d_Md_open_48 : decode bc_Md_open 48 = .ok (.getfield 297, 3) := by decide +kernel
theorem d_Md_open_51 : decode bc_Md_open 51 = .ok (.iconst (-1), 1) := by decide +kernel
theorem d_Md_open_52 : decode bc_Md_open 52 = .ok (.iastore, 1) := by decide +kernel
theorem d_Md_open_53 : decode bc_Md_open 53 = .ok (.aload_n 0, 1) := by decide +kernel
theorem d_Md_open_54 : decode bc_Md_open 54 = .ok (.getfield 85, 3) := by decide +kernel
theorem d_Md_open_57 : decode bc_Md_open 57 = .ok (.aload_n 0, 1) := by decide +kernel
theorem d_Md_open_58 : decode bc_Md_open 58 = .ok (.getfield 297, 3) := by decide +kernel
theorem d_Md_open_61 : decode bc_Md_open 61 = .ok (.iconst (-1), 1) := by decide +kernel
theorem d_Md_open_62 : decode bc_Md_open 62 = .ok (.iastore, 1) := by decide +kernel
theorem d_Md_open_63 : decode bc_Md_open 63 = .ok (.aload_n 0, 1) := by decide +kernel
theorem d_Md_open_64 : decode bc_Md_open 64 = .ok (.getfield 88, 3) := by decide +kernel
theorem d_Md_open_67 : decode bc_Md_open 67 = .ok (.aload_n 0, 1) := by decide +kernel
theorem d_Md_open_68 : decode bc_Md_open 68 = .ok (.getfield 297, 3) := by decide +kernel
theorem d_Md_open_71 : decode bc_Md_open 71 = .ok (.iconst (-1), 1) := by decide +kernel
theorem d_Md_open_72 : decode bc_Md_open 72 = .ok (.iastore, 1) := by decide +kernel
theorem d_Md_open_73 : decode bc_Md_open 73 = .ok (.return_, 1) := by decide +kernel
abbrev bc_Md_addOne : ByteArray := prog_14_method_22_code
abbrev y_Md_addOne : MethodName := ⟨"KindRoundsModel", "addOne", "(III)V"⟩
theorem d_Md_addOne_0 : decode bc_Md_addOne 0 = .ok (.aload_n 0, 1) := by decide +kernel
theorem d_Md_addOne_1 : decode bc_Md_addOne 1 = .ok (.getfield 70, 3) := by decide +kernel
theorem d_Md_addOne_4 : decode bc_Md_addOne 4 = .ok (.aload_n 0, 1) := by decide +kernel
theorem d_Md_addOne_5 : decode bc_Md_addOne 5 = .ok (.getfield 297, 3) := by decide +kernel
theorem d_Md_addOne_8 : decode bc_Md_addOne 8 = .ok (.iaload, 1) := by decide +kernel
theorem d_Md_addOne_9 : decode bc_Md_addOne 9 = .ok (.ifCond .ge 78, 3) := by decide +kernel
theorem d_Md_addOne_12 : decode bc_Md_addOne 12 = .ok (.aload_n 0, 1) := by decide +kernel
theorem d_Md_addOne_13 : decode bc_Md_addOne 13 = .ok (.getfield 70, 3) := by decide +kernel
theorem d_Md_addOne_16 : decode bc_Md_addOne 16 = .ok (.aload_n 0, 1) := by decide +kernel
theorem d_Md_addOne_17 : decode bc_Md_addOne 17 = .ok (.getfield 297, 3) := by decide +kernel
theorem d_Md_addOne_20 : decode bc_Md_addOne 20 = .ok (.iload_n 1, 1) := by decide +kernel
theorem d_Md_addOne_21 : decode bc_Md_addOne 21 = .ok (.iastore, 1) := by decide +kernel
theorem d_Md_addOne_22 : decode bc_Md_addOne 22 = .ok (.aload_n 0, 1) := by decide +kernel
theorem d_Md_addOne_23 : decode bc_Md_addOne 23 = .ok (.getfield 73, 3) := by decide +kernel
theorem d_Md_addOne_26 : decode bc_Md_addOne 26 = .ok (.aload_n 0, 1) := by decide +kernel
theorem d_Md_addOne_27 : decode bc_Md_addOne 27 = .ok (.getfield 297, 3) := by decide +kernel
theorem d_Md_addOne_30 : decode bc_Md_addOne 30 = .ok (.iload_n 2, 1) := by decide +kernel
theorem d_Md_addOne_31 : decode bc_Md_addOne 31 = .ok (.iastore, 1) := by decide +kernel
theorem d_Md_addOne_32 : decode bc_Md_addOne 32 = .ok (.aload_n 0, 1) := by decide +kernel
theorem d_Md_addOne_33 : decode bc_Md_addOne 33 = .ok (.getfield 76, 3) := by decide +kernel
theorem d_Md_addOne_36 : decode bc_Md_addOne 36 = .ok (.aload_n 0, 1) := by decide +kernel
theorem d_Md_addOne_37 : decode bc_Md_addOne 37 = .ok (.getfield 297, 3) := by decide +kernel
theorem d_Md_addOne_40 : decode bc_Md_addOne 40 = .ok (.iconst 0, 1) := by decide +kernel
theorem d_Md_addOne_41 : decode bc_Md_addOne 41 = .ok (.iastore, 1) := by decide +kernel
theorem d_Md_addOne_42 : decode bc_Md_addOne 42 = .ok (.aload_n 0, 1) := by decide +kernel
theorem d_Md_addOne_43 : decode bc_Md_addOne 43 = .ok (.getfield 79, 3) := by decide +kernel
theorem d_Md_addOne_46 : decode bc_Md_addOne 46 = .ok (.aload_n 0, 1) := by decide +kernel
theorem d_Md_addOne_47 : decode bc_Md_addOne 47 = .ok (.getfield 297, 3) := by decide +kernel
theorem d_Md_addOne_50 : decode bc_Md_addOne 50 = .ok (.iload_n 3, 1) := by decide +kernel
theorem d_Md_addOne_51 : decode bc_Md_addOne 51 = .ok (.iastore, 1) := by decide +kernel
theorem d_Md_addOne_52 : decode bc_Md_addOne 52 = .ok (.aload_n 0, 1) := by decide +kernel
theorem d_Md_addOne_53 : decode bc_Md_addOne 53 = .ok (.getfield 88, 3) := by decide +kernel
theorem d_Md_addOne_56 : decode bc_Md_addOne 56 = .ok (.aload_n 0, 1) := by decide +kernel
theorem d_Md_addOne_57 : decode bc_Md_addOne 57 = .ok (.getfield 297, 3) := by decide +kernel
theorem d_Md_addOne_60 : decode bc_Md_addOne 60 = .ok (.aload_n 0, 1) := by decide +kernel
theorem d_Md_addOne_61 : decode bc_Md_addOne 61 = .ok (.getfield 88, 3) := by decide +kernel
theorem d_Md_addOne_64 : decode bc_Md_addOne 64 = .ok (.aload_n 0, 1) := by decide +kernel
theorem d_Md_addOne_65 : decode bc_Md_addOne 65 = .ok (.getfield 297, 3) := by decide +kernel
theorem d_Md_addOne_68 : decode bc_Md_addOne 68 = .ok (.iaload, 1) := by decide +kernel
theorem d_Md_addOne_69 : decode bc_Md_addOne 69 = .ok (.ifCond .ge 7, 3) := by decide +kernel
theorem d_Md_addOne_72 : decode bc_Md_addOne 72 = .ok (.iload_n 3, 1) := by decide +kernel
theorem d_Md_addOne_73 : decode bc_Md_addOne 73 = .ok (.goto 12, 3) := by decide +kernel
theorem d_Md_addOne_76 : decode bc_Md_addOne 76 = .ok (.aload_n 0, 1) := by decide +kernel
theorem d_Md_addOne_77 : decode bc_Md_addOne 77 = .ok (.getfield 88, 3) := by decide +kernel
theorem d_Md_addOne_80 : decode bc_Md_addOne 80 = .ok (.aload_n 0, 1) := by decide +kernel
theorem d_Md_addOne_81 : decode bc_Md_addOne 81 = .ok (.getfield 297, 3) := by decide +kernel
theorem d_Md_addOne_84 : decode bc_Md_addOne 84 = .ok (.iaload, 1) := by decide +kernel
theorem d_Md_addOne_85 : decode bc_Md_addOne 85 = .ok (.iastore, 1) := by decide +kernel
theorem d_Md_addOne_86 : decode bc_Md_addOne 86 = .ok (.return_, 1) := by decide +kernel
theorem d_Md_addOne_87 : decode bc_Md_addOne 87 = .ok (.iload_n 2, 1) := by decide +kernel
theorem d_Md_addOne_88 : decode bc_Md_addOne 88 = .ok (.ifCond .lt 10, 3) := by decide +kernel
theorem d_Md_addOne_91 : decode bc_Md_addOne 91 = .ok (.aload_n 0, 1) := by decide +kernel
theorem d_Md_addOne_92 : decode bc_Md_addOne 92 = .ok (.getfield 57, 3) := by decide +kernel
theorem d_Md_addOne_95 : decode bc_Md_addOne 95 = .ok (.iload_n 2, 1) := by decide +kernel
theorem d_Md_addOne_96 : decode bc_Md_addOne 96 = .ok (.iconst 0, 1) := by decide +kernel
theorem d_Md_addOne_97 : decode bc_Md_addOne 97 = .ok (.bastore, 1) := by decide +kernel
theorem d_Md_addOne_98 : decode bc_Md_addOne 98 = .ok (.aload_n 0, 1) := by decide +kernel
theorem d_Md_addOne_99 : decode bc_Md_addOne 99 = .ok (.getfield 70, 3) := by decide +kernel
theorem d_Md_addOne_102 : decode bc_Md_addOne 102 = .ok (.aload_n 0, 1) := by decide +kernel
theorem d_Md_addOne_103 : decode bc_Md_addOne 103 = .ok (.getfield 297, 3) := by decide +kernel
theorem d_Md_addOne_106 : decode bc_Md_addOne 106 = .ok (.aload_n 0, 1) := by decide +kernel
theorem d_Md_addOne_107 : decode bc_Md_addOne 107 = .ok (.iconst 2, 1) := by decide +kernel
theorem d_Md_addOne_108 : decode bc_Md_addOne 108 = .ok (.aload_n 0, 1) := by decide +kernel
theorem d_Md_addOne_109 : decode bc_Md_addOne 109 = .ok (.getfield 70, 3) := by decide +kernel
theorem d_Md_addOne_112 : decode bc_Md_addOne 112 = .ok (.aload_n 0, 1) := by decide +kernel
theorem d_Md_addOne_113 : decode bc_Md_addOne 113 = .ok (.getfield 297, 3) := by decide +kernel
theorem d_Md_addOne_116 : decode bc_Md_addOne 116 = .ok (.iaload, 1) := by decide +kernel
theorem d_Md_addOne_117 : decode bc_Md_addOne 117 = .ok (.iload_n 1, 1) := by decide +kernel
theorem d_Md_addOne_118 : decode bc_Md_addOne 118 = .ok (.invokevirtual 300, 3) := by decide +kernel
theorem d_Md_addOne_121 : decode bc_Md_addOne 121 = .ok (.iastore, 1) := by decide +kernel
theorem d_Md_addOne_122 : decode bc_Md_addOne 122 = .ok (.aload_n 0, 1) := by decide +kernel
theorem d_Md_addOne_123 : decode bc_Md_addOne 123 = .ok (.iconst 0, 1) := by decide +kernel
theorem d_Md_addOne_124 : decode bc_Md_addOne 124 = .ok (.aload_n 0, 1) := by decide +kernel
theorem d_Md_addOne_125 : decode bc_Md_addOne 125 = .ok (.getfield 70, 3) := by decide +kernel
theorem d_Md_addOne_128 : decode bc_Md_addOne 128 = .ok (.aload_n 0, 1) := by decide +kernel
theorem d_Md_addOne_129 : decode bc_Md_addOne 129 = .ok (.getfield 297, 3) := by decide +kernel
theorem d_Md_addOne_132 : decode bc_Md_addOne 132 = .ok (.iaload, 1) := by decide +kernel
theorem d_Md_addOne_133 : decode bc_Md_addOne 133 = .ok (.iload_n 3, 1) := by decide +kernel
theorem d_Md_addOne_134 : decode bc_Md_addOne 134 = .ok (.invokevirtual 303, 3) := by decide +kernel
theorem d_Md_addOne_137 : decode bc_Md_addOne 137 = .ok (.aload_n 0, 1) := by decide +kernel
theorem d_Md_addOne_138 : decode bc_Md_addOne 138 = .ok (.getfield 76, 3) := by decide +kernel
theorem d_Md_addOne_141 : decode bc_Md_addOne 141 = .ok (.aload_n 0, 1) := by decide +kernel
theorem d_Md_addOne_142 : decode bc_Md_addOne 142 = .ok (.getfield 297, 3) := by decide +kernel
theorem d_Md_addOne_145 : decode bc_Md_addOne 145 = .ok (.dup2, 1) := by decide +kernel
theorem d_Md_addOne_146 : decode bc_Md_addOne 146 = .ok (.iaload, 1) := by decide +kernel
theorem d_Md_addOne_147 : decode bc_Md_addOne 147 = .ok (.iconst 1, 1) := by decide +kernel
theorem d_Md_addOne_148 : decode bc_Md_addOne 148 = .ok (.iadd, 1) := by decide +kernel
theorem d_Md_addOne_149 : decode bc_Md_addOne 149 = .ok (.iastore, 1) := by decide +kernel
theorem d_Md_addOne_150 : decode bc_Md_addOne 150 = .ok (.return_, 1) := by decide +kernel
abbrev bc_Md_endSome : ByteArray := prog_14_method_23_code
abbrev y_Md_endSome : MethodName := ⟨"KindRoundsModel", "endSome", "()V"⟩
theorem d_Md_endSome_0 : decode bc_Md_endSome 0 = .ok (.aload_n 0, 1) := by decide +kernel
theorem d_Md_endSome_1 : decode bc_Md_endSome 1 = .ok (.getfield 73, 3) := by decide +kernel
theorem d_Md_endSome_4 : decode bc_Md_endSome 4 = .ok (.aload_n 0, 1) := by decide +kernel
theorem d_Md_endSome_5 : decode bc_Md_endSome 5 = .ok (.getfield 297, 3) := by decide +kernel
theorem d_Md_endSome_8 : decode bc_Md_endSome 8 = .ok (.iaload, 1) := by decide +kernel
theorem d_Md_endSome_9 : decode bc_Md_endSome 9 = .ok (.ifCond .lt 26, 3) := by decide +kernel
theorem d_Md_endSome_12 : decode bc_Md_endSome 12 = .ok (.aload_n 0, 1) := by decide +kernel
theorem d_Md_endSome_13 : decode bc_Md_endSome 13 = .ok (.getfield 61, 3) := by decide +kernel
theorem d_Md_endSome_16 : decode bc_Md_endSome 16 = .ok (.aload_n 0, 1) := by decide +kernel
theorem d_Md_endSome_17 : decode bc_Md_endSome 17 = .ok (.getfield 73, 3) := by decide +kernel
theorem d_Md_endSome_20 : decode bc_Md_endSome 20 = .ok (.aload_n 0, 1) := by decide +kernel
theorem d_Md_endSome_21 : decode bc_Md_endSome 21 = .ok (.getfield 297, 3) := by decide +kernel
theorem d_Md_endSome_24 : decode bc_Md_endSome 24 = .ok (.iaload, 1) := by decide +kernel
theorem d_Md_endSome_25 : decode bc_Md_endSome 25 = .ok (.aload_n 0, 1) := by decide +kernel
theorem d_Md_endSome_26 : decode bc_Md_endSome 26 = .ok (.getfield 76, 3) := by decide +kernel
theorem d_Md_endSome_29 : decode bc_Md_endSome 29 = .ok (.aload_n 0, 1) := by decide +kernel
theorem d_Md_endSome_30 : decode bc_Md_endSome 30 = .ok (.getfield 297, 3) := by decide +kernel
theorem d_Md_endSome_33 : decode bc_Md_endSome 33 = .ok (.iaload, 1) := by decide +kernel
theorem d_Md_endSome_34 : decode bc_Md_endSome 34 = .ok (.iastore, 1) := by decide +kernel
theorem d_Md_endSome_35 : decode bc_Md_endSome 35 = .ok (.aload_n 0, 1) := by decide +kernel
theorem d_Md_endSome_36 : decode bc_Md_endSome 36 = .ok (.getfield 82, 3) := by decide +kernel
theorem d_Md_endSome_39 : decode bc_Md_endSome 39 = .ok (.aload_n 0, 1) := by decide +kernel
theorem d_Md_endSome_40 : decode bc_Md_endSome 40 = .ok (.getfield 297, 3) := by decide +kernel
theorem d_Md_endSome_43 : decode bc_Md_endSome 43 = .ok (.iaload, 1) := by decide +kernel
theorem d_Md_endSome_44 : decode bc_Md_endSome 44 = .ok (.ifCond .ge 22, 3) := by decide +kernel
theorem d_Md_endSome_47 : decode bc_Md_endSome 47 = .ok (.aload_n 0, 1) := by decide +kernel
theorem d_Md_endSome_48 : decode bc_Md_endSome 48 = .ok (.getfield 82, 3) := by decide +kernel
theorem d_Md_endSome_51 : decode bc_Md_endSome 51 = .ok (.aload_n 0, 1) := by decide +kernel
theorem d_Md_endSome_52 : decode bc_Md_endSome 52 = .ok (.getfield 297, 3) := by decide +kernel
theorem d_Md_endSome_55 : decode bc_Md_endSome 55 = .ok (.aload_n 0, 1) := by decide +kernel
theorem d_Md_endSome_56 : decode bc_Md_endSome 56 = .ok (.getfield 70, 3) := by decide +kernel
theorem d_Md_endSome_59 : decode bc_Md_endSome 59 = .ok (.aload_n 0, 1) := by decide +kernel
theorem d_Md_endSome_60 : decode bc_Md_endSome 60 = .ok (.getfield 297, 3) := by decide +kernel
theorem d_Md_endSome_63 : decode bc_Md_endSome 63 = .ok (.iaload, 1) := by decide +kernel
theorem d_Md_endSome_64 : decode bc_Md_endSome 64 = .ok (.iastore, 1) := by decide +kernel
theorem d_Md_endSome_65 : decode bc_Md_endSome 65 = .ok (.return_, 1) := by decide +kernel
theorem d_Md_endSome_66 : decode bc_Md_endSome 66 = .ok (.aload_n 0, 1) := by decide +kernel
theorem d_Md_endSome_67 : decode bc_Md_endSome 67 = .ok (.getfield 85, 3) := by decide +kernel
theorem d_Md_endSome_70 : decode bc_Md_endSome 70 = .ok (.aload_n 0, 1) := by decide +kernel
theorem d_Md_endSome_71 : decode bc_Md_endSome 71 = .ok (.getfield 297, 3) := by decide +kernel
theorem d_Md_endSome_74 : decode bc_Md_endSome 74 = .ok (.iaload, 1) := by decide +kernel
theorem d_Md_endSome_75 : decode bc_Md_endSome 75 = .ok (.istore_n 1, 1) := by decide +kernel
theorem d_Md_endSome_76 : decode bc_Md_endSome 76 = .ok (.aload_n 0, 1) := by decide +kernel
theorem d_Md_endSome_77 : decode bc_Md_endSome 77 = .ok (.iconst 4, 1) := by decide +kernel
theorem d_Md_endSome_78 : decode bc_Md_endSome 78 = .ok (.iload_n 1, 1) := by decide +kernel
theorem d_Md_endSome_79 : decode bc_Md_endSome 79 = .ok (.ifCond .ge 15, 3) := by decide +kernel
theorem d_Md_endSome_82 : decode bc_Md_endSome 82 = .ok (.aload_n 0, 1) := by decide +kernel
theorem d_Md_endSome_83 : decode bc_Md_endSome 83 = .ok (.getfield 82, 3) := by decide +kernel
theorem d_Md_endSome_86 : decode bc_Md_endSome 86 = .ok (.aload_n 0, 1) := by decide +kernel
theorem d_Md_endSome_87 : decode bc_Md_endSome 87 = .ok (.getfield 297, 3) := by decide +kernel
theorem d_Md_endSome_90 : decode bc_Md_endSome 90 = .ok (.iaload, 1) := by decide +kernel
theorem d_Md_endSome_91 : decode bc_Md_endSome 91 = .ok (.goto 9, 3) := by decide +kernel
theorem d_Md_endSome_94 : decode bc_Md_endSome 94 = .ok (.aload_n 0, 1) := by decide +kernel
theorem d_Md_endSome_95 : decode bc_Md_endSome 95 = .ok (.getfield 27, 3) := by decide +kernel
theorem d_Md_endSome_98 : decode bc_Md_endSome 98 = .ok (.iload_n 1, 1) := by decide +kernel
theorem d_Md_endSome_99 : decode bc_Md_endSome 99 = .ok (.iaload, 1) := by decide +kernel
theorem d_Md_endSome_100 : decode bc_Md_endSome 100 = .ok (.aload_n 0, 1) := by decide +kernel
theorem d_Md_endSome_101 : decode bc_Md_endSome 101 = .ok (.getfield 70, 3) := by decide +kernel
theorem d_Md_endSome_104 : decode bc_Md_endSome 104 = .ok (.aload_n 0, 1) := by decide +kernel
theorem d_Md_endSome_105 : decode bc_Md_endSome 105 = .ok (.getfield 297, 3) := by decide +kernel
theorem d_Md_endSome_108 : decode bc_Md_endSome 108 = .ok (.iaload, 1) := by decide +kernel
theorem d_Md_endSome_109 : decode bc_Md_endSome 109 = .ok (.invokevirtual 300, 3) := by decide +kernel
theorem d_Md_endSome_112 : decode bc_Md_endSome 112 = .ok (.istore_n 2, 1) := by decide +kernel
theorem d_Md_endSome_113 : decode bc_Md_endSome 113 = .ok (.iload_n 1, 1) := by decide +kernel
theorem d_Md_endSome_114 : decode bc_Md_endSome 114 = .ok (.ifCond .ge 16, 3) := by decide +kernel
theorem d_Md_endSome_117 : decode bc_Md_endSome 117 = .ok (.aload_n 0, 1) := by decide +kernel
theorem d_Md_endSome_118 : decode bc_Md_endSome 118 = .ok (.getfield 82, 3) := by decide +kernel
theorem d_Md_endSome_121 : decode bc_Md_endSome 121 = .ok (.aload_n 0, 1) := by decide +kernel
theorem d_Md_endSome_122 : decode bc_Md_endSome 122 = .ok (.getfield 297, 3) := by decide +kernel
theorem d_Md_endSome_125 : decode bc_Md_endSome 125 = .ok (.iload_n 2, 1) := by decide +kernel
theorem d_Md_endSome_126 : decode bc_Md_endSome 126 = .ok (.iastore, 1) := by decide +kernel
theorem d_Md_endSome_127 : decode bc_Md_endSome 127 = .ok (.goto 10, 3) := by decide +kernel
theorem d_Md_endSome_130 : decode bc_Md_endSome 130 = .ok (.aload_n 0, 1) := by decide +kernel
theorem d_Md_endSome_131 : decode bc_Md_endSome 131 = .ok (.getfield 27, 3) := by decide +kernel
theorem d_Md_endSome_134 : decode bc_Md_endSome 134 = .ok (.iload_n 1, 1) := by decide +kernel
theorem d_Md_endSome_135 : decode bc_Md_endSome 135 = .ok (.iload_n 2, 1) := by decide +kernel
theorem d_Md_endSome_136 : decode bc_Md_endSome 136 = .ok (.iastore, 1) := by decide +kernel
theorem d_Md_endSome_137 : decode bc_Md_endSome 137 = .ok (.aload_n 0, 1) := by decide +kernel
theorem d_Md_endSome_138 : decode bc_Md_endSome 138 = .ok (.getfield 85, 3) := by decide +kernel
theorem d_Md_endSome_141 : decode bc_Md_endSome 141 = .ok (.aload_n 0, 1) := by decide +kernel
theorem d_Md_endSome_142 : decode bc_Md_endSome 142 = .ok (.getfield 297, 3) := by decide +kernel
theorem d_Md_endSome_145 : decode bc_Md_endSome 145 = .ok (.iload_n 2, 1) := by decide +kernel
theorem d_Md_endSome_146 : decode bc_Md_endSome 146 = .ok (.iastore, 1) := by decide +kernel
theorem d_Md_endSome_147 : decode bc_Md_endSome 147 = .ok (.return_, 1) := by decide +kernel
abbrev bc_Md_beginOne : ByteArray := prog_14_method_24_code
abbrev y_Md_beginOne : MethodName := ⟨"KindRoundsModel", "beginOne", "()V"⟩
theorem d_Md_beginOne_0 : decode bc_Md_beginOne 0 = .ok (.aload_n 0, 1) := by decide +kernel
theorem d_Md_beginOne_1 : decode bc_Md_beginOne 1 = .ok (.getfield 238, 3) := by decide +kernel
theorem d_Md_beginOne_4 : decode bc_Md_beginOne 4 = .ok (.istore_n 1, 1) := by decide +kernel
theorem d_Md_beginOne_5 : decode bc_Md_beginOne 5 = .ok (.aload_n 0, 1) := by decide +kernel
theorem d_Md_beginOne_6 : decode bc_Md_beginOne 6 = .ok (.getfield 241, 3) := by decide +kernel
theorem d_Md_beginOne_9 : decode bc_Md_beginOne 9 = .ok (.iconst 1, 1) := by decide +kernel
theorem d_Md_beginOne_10 : decode bc_Md_beginOne 10 = .ok (.if_icmp .eq 11, 3) := by decide +kernel
theorem d_Md_beginOne_13 : decode bc_Md_beginOne 13 = .ok (.aload_n 0, 1) := by decide +kernel
theorem d_Md_beginOne_14 : decode bc_Md_beginOne 14 = .ok (.getfield 241, 3) := by decide +kernel
theorem d_Md_beginOne_17 : decode bc_Md_beginOne 17 = .ok (.iconst 2, 1) := by decide +kernel
theorem d_Md_beginOne_18 : decode bc_Md_beginOne 18 = .ok (.if_icmp .ne 98, 3) := by decide +kernel
theorem d_Md_beginOne_21 : decode bc_Md_beginOne 21 = .ok (.aload_n 0, 1) := by decide +kernel
theorem d_Md_beginOne_22 : decode bc_Md_beginOne 22 = .ok (.invokevirtual 307, 3) := by decide +kernel
theorem d_Md_beginOne_25 : decode bc_Md_beginOne 25 = .ok (.aload_n 0, 1) := by decide +kernel
theorem d_Md_beginOne_26 : decode bc_Md_beginOne 26 = .ok (.getfield 221, 3) := by decide +kernel
theorem d_Md_beginOne_29 : decode bc_Md_beginOne 29 = .ok (.ifCond .ne 86, 3) := by decide +kernel
theorem d_Md_beginOne_32 : decode bc_Md_beginOne 32 = .ok (.aload_n 0, 1) := by decide +kernel
theorem d_Md_beginOne_33 : decode bc_Md_beginOne 33 = .ok (.aload_n 0, 1) := by decide +kernel
theorem d_Md_beginOne_34 : decode bc_Md_beginOne 34 = .ok (.getfield 241, 3) := by decide +kernel
theorem d_Md_beginOne_37 : decode bc_Md_beginOne 37 = .ok (.iconst 1, 1) := by decide +kernel
theorem d_Md_beginOne_38 : decode bc_Md_beginOne 38 = .ok (.if_icmp .ne 7, 3) := by decide +kernel
theorem d_Md_beginOne_41 : decode bc_Md_beginOne 41 = .ok (.iconst 0, 1) := by decide +kernel
theorem d_Md_beginOne_42 : decode bc_Md_beginOne 42 = .ok (.goto 4, 3) := by decide +kernel
theorem d_Md_beginOne_45 : decode bc_Md_beginOne 45 = .ok (.iconst 1, 1) := by decide +kernel
theorem d_Md_beginOne_46 : decode bc_Md_beginOne 46 = .ok (.aload_n 0, 1) := by decide +kernel
theorem d_Md_beginOne_47 : decode bc_Md_beginOne 47 = .ok (.getfield 282, 3) := by decide +kernel
theorem d_Md_beginOne_50 : decode bc_Md_beginOne 50 = .ok (.aload_n 0, 1) := by decide +kernel
theorem d_Md_beginOne_51 : decode bc_Md_beginOne 51 = .ok (.getfield 310, 3) := by decide +kernel
theorem d_Md_beginOne_54 : decode bc_Md_beginOne 54 = .ok (.invokevirtual 300, 3) := by decide +kernel
theorem d_Md_beginOne_57 : decode bc_Md_beginOne 57 = .ok (.istore_n 2, 1) := by decide +kernel
theorem d_Md_beginOne_58 : decode bc_Md_beginOne 58 = .ok (.aload_n 0, 1) := by decide +kernel
theorem d_Md_beginOne_59 : decode bc_Md_beginOne 59 = .ok (.getfield 20, 3) := by decide +kernel
theorem d_Md_beginOne_62 : decode bc_Md_beginOne 62 = .ok (.iload_n 2, 1) := by decide +kernel
theorem d_Md_beginOne_63 : decode bc_Md_beginOne 63 = .ok (.aload_n 0, 1) := by decide +kernel
theorem d_Md_beginOne_64 : decode bc_Md_beginOne 64 = .ok (.getfield 255, 3) := by decide +kernel
theorem d_Md_beginOne_67 : decode bc_Md_beginOne 67 = .ok (.lastore, 1) := by decide +kernel
theorem d_Md_beginOne_68 : decode bc_Md_beginOne 68 = .ok (.aload_n 0, 1) := by decide +kernel
theorem d_Md_beginOne_69 : decode bc_Md_beginOne 69 = .ok (.getfield 241, 3) := by decide +kernel
theorem d_Md_beginOne_72 : decode bc_Md_beginOne 72 = .ok (.iconst 1, 1) := by decide +kernel
theorem d_Md_beginOne_73 : decode bc_Md_beginOne 73 = .ok (.if_icmp .ne 10, 3) := by decide +kernel
theorem d_Md_beginOne_76 : decode bc_Md_beginOne 76 = .ok (.aload_n 0, 1) := by decide +kernel
theorem d_Md_beginOne_77 : decode bc_Md_beginOne 77 = .ok (.getfield 279, 3) := by decide +kernel
theorem d_Md_beginOne_80 : decode bc_Md_beginOne 80 = .ok (.goto 4, 3) := by decide +kernel
theorem d_Md_beginOne_83 : decode bc_Md_beginOne 83 = .ok (.iconst (-1), 1) := by decide +kernel
theorem d_Md_beginOne_84 : decode bc_Md_beginOne 84 = .ok (.istore_n 3, 1) := by decide +kernel
theorem d_Md_beginOne_85 : decode bc_Md_beginOne 85 = .ok (.aload_n 0, 1) := by decide +kernel
theorem d_Md_beginOne_86 : decode bc_Md_beginOne 86 = .ok (.aload_n 0, 1) := by decide +kernel
theorem d_Md_beginOne_87 : decode bc_Md_beginOne 87 = .ok (.getfield 241, 3) := by decide +kernel
theorem d_Md_beginOne_90 : decode bc_Md_beginOne 90 = .ok (.iconst 1, 1) := by decide +kernel
theorem d_Md_beginOne_91 : decode bc_Md_beginOne 91 = .ok (.if_icmp .ne 7, 3) := by decide +kernel
theorem d_Md_beginOne_94 : decode bc_Md_beginOne 94 = .ok (.iconst 5, 1) := by decide +kernel
theorem d_Md_beginOne_95 : decode bc_Md_beginOne 95 = .ok (.goto 5, 3) := by decide +kernel
theorem d_Md_beginOne_98 : decode bc_Md_beginOne 98 = .ok (.bipush 6, 2) := by decide +kernel
theorem d_Md_beginOne_100 : decode bc_Md_beginOne 100 = .ok (.iload_n 2, 1) := by decide +kernel
theorem d_Md_beginOne_101 : decode bc_Md_beginOne 101 = .ok (.invokevirtual 313, 3) := by decide +kernel
theorem d_Md_beginOne_104 : decode bc_Md_beginOne 104 = .ok (.aload_n 0, 1) := by decide +kernel
theorem d_Md_beginOne_105 : decode bc_Md_beginOne 105 = .ok (.invokevirtual 273, 3) := by decide +kernel
theorem d_Md_beginOne_108 : decode bc_Md_beginOne 108 = .ok (.aload_n 0, 1) := by decide +kernel
theorem d_Md_beginOne_109 : decode bc_Md_beginOne 109 = .ok (.iload_n 2, 1) := by decide +kernel
theorem d_Md_beginOne_110 : decode bc_Md_beginOne 110 = .ok (.iload_n 3, 1) := by decide +kernel
theorem d_Md_beginOne_111 : decode bc_Md_beginOne 111 = .ok (.iload_n 1, 1) := by decide +kernel
theorem d_Md_beginOne_112 : decode bc_Md_beginOne 112 = .ok (.invokevirtual 316, 3) := by decide +kernel
theorem d_Md_beginOne_115 : decode bc_Md_beginOne 115 = .ok (.return_, 1) := by decide +kernel
theorem d_Md_beginOne_116 : decode bc_Md_beginOne 116 = .ok (.aload_n 0, 1) := by decide +kernel
theorem d_Md_beginOne_117 : decode bc_Md_beginOne 117 = .ok (.invokevirtual 319, 3) := by decide +kernel
theorem d_Md_beginOne_120 : decode bc_Md_beginOne 120 = .ok (.aload_n 0, 1) := by decide +kernel
theorem d_Md_beginOne_121 : decode bc_Md_beginOne 121 = .ok (.bipush 91, 2) := by decide +kernel
theorem d_Md_beginOne_123 : decode bc_Md_beginOne 123 = .ok (.invokevirtual 270, 3) := by decide +kernel
theorem d_Md_beginOne_126 : decode bc_Md_beginOne 126 = .ok (.istore_n 2, 1) := by decide +kernel
theorem d_Md_beginOne_127 : decode bc_Md_beginOne 127 = .ok (.aload_n 0, 1) := by decide +kernel
theorem d_Md_beginOne_128 : decode bc_Md_beginOne 128 = .ok (.getfield 221, 3) := by decide +kernel
theorem d_Md_beginOne_131 : decode bc_Md_beginOne 131 = .ok (.ifCond .ne 11, 3) := by decide +kernel
theorem d_Md_beginOne_134 : decode bc_Md_beginOne 134 = .ok (.iload_n 2, 1) := by decide +kernel
theorem d_Md_beginOne_135 : decode bc_Md_beginOne 135 = .ok (.ifCond .eq 7, 3) := by decide +kernel
theorem d_Md_beginOne_138 : decode bc_Md_beginOne 138 = .ok (.aload_n 0, 1) := by decide +kernel
theorem d_Md_beginOne_139 : decode bc_Md_beginOne 139 = .ok (.invokevirtual 307, 3) := by decide +kernel
theorem d_Md_beginOne_142 : decode bc_Md_beginOne 142 = .ok (.aload_n 0, 1) := by decide +kernel
theorem d_Md_beginOne_143 : decode bc_Md_beginOne 143 = .ok (.getfield 221, 3) := by decide +kernel
theorem d_Md_beginOne_146 : decode bc_Md_beginOne 146 = .ok (.ifCond .ne 20, 3) := by decide +kernel
theorem d_Md_beginOne_149 : decode bc_Md_beginOne 149 = .ok (.aload_n 0, 1) := by decide +kernel
theorem d_Md_beginOne_150 : decode bc_Md_beginOne 150 = .ok (.iload_n 2, 1) := by decide +kernel
theorem d_Md_beginOne_151 : decode bc_Md_beginOne 151 = .ok (.ifCond .eq 7, 3) := by decide +kernel
theorem d_Md_beginOne_154 : decode bc_Md_beginOne 154 = .ok (.iconst 2, 1) := by decide +kernel
theorem d_Md_beginOne_155 : decode bc_Md_beginOne 155 = .ok (.goto 4, 3) := by decide +kernel
theorem d_Md_beginOne_158 : decode bc_Md_beginOne 158 = .ok (.iconst 1, 1) := by decide +kernel
theorem d_Md_beginOne_159 : decode bc_Md_beginOne 159 = .ok (.invokevirtual 322, 3) := by decide +kernel
theorem d_Md_beginOne_162 : decode bc_Md_beginOne 162 = .ok (.aload_n 0, 1) := by decide +kernel
theorem d_Md_beginOne_163 : decode bc_Md_beginOne 163 = .ok (.invokevirtual 273, 3) := by decide +kernel
theorem d_Md_beginOne_166 : decode bc_Md_beginOne 166 = .ok (.return_, 1) := by decide +kernel
abbrev bc_Md_closeOne : ByteArray := prog_14_method_25_code
abbrev y_Md_closeOne : MethodName := ⟨"KindRoundsModel", "closeOne", "()V"⟩
theorem d_Md_closeOne_0 : decode bc_Md_closeOne 0 = .ok (.aload_n 0, 1) := by decide +kernel
theorem d_Md_closeOne_1 : decode bc_Md_closeOne 1 = .ok (.getfield 64, 3) := by decide +kernel
theorem d_Md_closeOne_4 : decode bc_Md_closeOne 4 = .ok (.aload_n 0, 1) := by decide +kernel
theorem d_Md_closeOne_5 : decode bc_Md_closeOne 5 = .ok (.getfield 297, 3) := by decide +kernel
theorem d_Md_closeOne_8 : decode bc_Md_closeOne 8 = .ok (.iaload, 1) := by decide +kernel
theorem d_Md_closeOne_9 : decode bc_Md_closeOne 9 = .ok (.iconst 2, 1) := by decide +kernel
theorem d_Md_closeOne_10 : decode bc_Md_closeOne 10 = .ok (.if_icmp .ne 7, 3) := by decide +kernel
theorem d_Md_closeOne_13 : decode bc_Md_closeOne 13 = .ok (.iconst 1, 1) := by decide +kernel
theorem d_Md_closeOne_14 : decode bc_Md_closeOne 14 = .ok (.goto 4, 3) := by decide +kernel
theorem d_Md_closeOne_17 : decode bc_Md_closeOne 17 = .ok (.iconst 0, 1) := by decide +kernel
theorem d_Md_closeOne_18 : decode bc_Md_closeOne 18 = .ok (.istore_n 1, 1) := by decide +kernel
theorem d_Md_closeOne_19 : decode bc_Md_closeOne 19 = .ok (.aload_n 0, 1) := by decide +kernel
theorem d_Md_closeOne_20 : decode bc_Md_closeOne 20 = .ok (.getfield 82, 3) := by decide +kernel
theorem d_Md_closeOne_23 : decode bc_Md_closeOne 23 = .ok (.aload_n 0, 1) := by decide +kernel
theorem d_Md_closeOne_24 : decode bc_Md_closeOne 24 = .ok (.getfield 297, 3) := by decide +kernel
theorem d_Md_closeOne_27 : decode bc_Md_closeOne 27 = .ok (.iaload, 1) := by decide +kernel
theorem d_Md_closeOne_28 : decode bc_Md_closeOne 28 = .ok (.istore_n 2, 1) := by decide +kernel
theorem d_Md_closeOne_29 : decode bc_Md_closeOne 29 = .ok (.aload_n 0, 1) := by decide +kernel
theorem d_Md_closeOne_30 : decode bc_Md_closeOne 30 = .ok (.getfield 67, 3) := by decide +kernel
theorem d_Md_closeOne_33 : decode bc_Md_closeOne 33 = .ok (.aload_n 0, 1) := by decide +kernel
theorem d_Md_closeOne_34 : decode bc_Md_closeOne 34 = .ok (.getfield 297, 3) := by decide +kernel
theorem d_Md_closeOne_37 : decode bc_Md_closeOne 37 = .ok (.iaload, 1) := by decide +kernel
theorem d_Md_closeOne_38 : decode bc_Md_closeOne 38 = .ok (.istore_n 3, 1) := by decide +kernel
theorem d_Md_closeOne_39 : decode bc_Md_closeOne 39 = .ok (.iload_n 1, 1) := by decide +kernel
theorem d_Md_closeOne_40 : decode bc_Md_closeOne 40 = .ok (.ifCond .eq 18, 3) := by decide +kernel
theorem d_Md_closeOne_43 : decode bc_Md_closeOne 43 = .ok (.aload_n 0, 1) := by decide +kernel
theorem d_Md_closeOne_44 : decode bc_Md_closeOne 44 = .ok (.iconst 1, 1) := by decide +kernel
theorem d_Md_closeOne_45 : decode bc_Md_closeOne 45 = .ok (.iload_n 2, 1) := by decide +kernel
theorem d_Md_closeOne_46 : decode bc_Md_closeOne 46 = .ok (.aload_n 0, 1) := by decide +kernel
theorem d_Md_closeOne_47 : decode bc_Md_closeOne 47 = .ok (.getfield 88, 3) := by decide +kernel
theorem d_Md_closeOne_50 : decode bc_Md_closeOne 50 = .ok (.aload_n 0, 1) := by decide +kernel
theorem d_Md_closeOne_51 : decode bc_Md_closeOne 51 = .ok (.getfield 297, 3) := by decide +kernel
theorem d_Md_closeOne_54 : decode bc_Md_closeOne 54 = .ok (.iaload, 1) := by decide +kernel
theorem d_Md_closeOne_55 : decode bc_Md_closeOne 55 = .ok (.invokevirtual 303, 3) := by decide +kernel
theorem d_Md_closeOne_58 : decode bc_Md_closeOne 58 = .ok (.aload_n 0, 1) := by decide +kernel
theorem d_Md_closeOne_59 : decode bc_Md_closeOne 59 = .ok (.iload_n 1, 1) := by decide +kernel
theorem d_Md_closeOne_60 : decode bc_Md_closeOne 60 = .ok (.ifCond .eq 8, 3) := by decide +kernel
theorem d_Md_closeOne_63 : decode bc_Md_closeOne 63 = .ok (.bipush 93, 2) := by decide +kernel
theorem d_Md_closeOne_65 : decode bc_Md_closeOne 65 = .ok (.goto 5, 3) := by decide +kernel
theorem d_Md_closeOne_68 : decode bc_Md_closeOne 68 = .ok (.bipush 41, 2) := by decide +kernel
theorem d_Md_closeOne_70 : decode bc_Md_closeOne 70 = .ok (.invokevirtual 326, 3) := by decide +kernel
theorem d_Md_closeOne_73 : decode bc_Md_closeOne 73 = .ok (.aload_n 0, 1) := by decide +kernel
theorem d_Md_closeOne_74 : decode bc_Md_closeOne 74 = .ok (.dup, 1) := by decide +kernel
theorem d_Md_closeOne_75 : decode bc_Md_closeOne 75 = .ok (.getfield 294, 3) := by decide +kernel
theorem d_Md_closeOne_78 : decode bc_Md_closeOne 78 = .ok (.iconst 1, 1) := by decide +kernel
theorem d_Md_closeOne_79 : decode bc_Md_closeOne 79 = .ok (.isub, 1) := by decide +kernel
theorem d_Md_closeOne_80 : decode bc_Md_closeOne 80 = .ok (.putfield 294, 3) := by decide +kernel
theorem d_Md_closeOne_83 : decode bc_Md_closeOne 83 = .ok (.aload_n 0, 1) := by decide +kernel
theorem d_Md_closeOne_84 : decode bc_Md_closeOne 84 = .ok (.dup, 1) := by decide +kernel
theorem d_Md_closeOne_85 : decode bc_Md_closeOne 85 = .ok (.getfield 297, 3) := by decide +kernel
theorem d_Md_closeOne_88 : decode bc_Md_closeOne 88 = .ok (.iconst 1, 1) := by decide +kernel
theorem d_Md_closeOne_89 : decode bc_Md_closeOne 89 = .ok (.isub, 1) := by decide +kernel
theorem d_Md_closeOne_90 : decode bc_Md_closeOne 90 = .ok (.putfield 297, 3) := by decide +kernel
theorem d_Md_closeOne_93 : decode bc_Md_closeOne 93 = .ok (.aload_n 0, 1) := by decide +kernel
theorem d_Md_closeOne_94 : decode bc_Md_closeOne 94 = .ok (.iload_n 1, 1) := by decide +kernel
theorem d_Md_closeOne_95 : decode bc_Md_closeOne 95 = .ok (.ifCond .eq 13, 3) := by decide +kernel
theorem d_Md_closeOne_98 : decode bc_Md_closeOne 98 = .ok (.aload_n 0, 1) := by decide +kernel
theorem d_Md_closeOne_99 : decode bc_Md_closeOne 99 = .ok (.iconst 3, 1) := by decide +kernel
theorem d_Md_closeOne_100 : decode bc_Md_closeOne 100 = .ok (.iload_n 2, 1) := by decide +kernel
theorem d_Md_closeOne_101 : decode bc_Md_closeOne 101 = .ok (.iconst 0, 1) := by decide +kernel
theorem d_Md_closeOne_102 : decode bc_Md_closeOne 102 = .ok (.invokevirtual 300, 3) := by decide +kernel
theorem d_Md_closeOne_105 : decode bc_Md_closeOne 105 = .ok (.goto 4, 3) := by decide +kernel
theorem d_Md_closeOne_108 : decode bc_Md_closeOne 108 = .ok (.iload_n 2, 1) := by decide +kernel
theorem d_Md_closeOne_109 : decode bc_Md_closeOne 109 = .ok (.iconst (-1), 1) := by decide +kernel
theorem d_Md_closeOne_110 : decode bc_Md_closeOne 110 = .ok (.iload_n 3, 1) := by decide +kernel
theorem d_Md_closeOne_111 : decode bc_Md_closeOne 111 = .ok (.invokevirtual 316, 3) := by decide +kernel
theorem d_Md_closeOne_114 : decode bc_Md_closeOne 114 = .ok (.return_, 1) := by decide +kernel
abbrev bc_Md_readOne : ByteArray := prog_14_method_26_code
abbrev y_Md_readOne : MethodName := ⟨"KindRoundsModel", "readOne", "()I"⟩
theorem d_Md_readOne_0 : decode bc_Md_readOne 0 = .ok (.aload_n 0, 1) := by decide +kernel
theorem d_Md_readOne_1 : decode bc_Md_readOne 1 = .ok (.iconst 3, 1) := by decide +kernel
theorem d_Md_readOne_2 : decode bc_Md_readOne 2 = .ok (.invokevirtual 329, 3) := by decide +kernel
theorem d_Md_readOne_5 : decode bc_Md_readOne 5 = .ok (.ireturn, 1) := by decide +kernel
abbrev bc_Md_readType : ByteArray := prog_14_method_27_code
abbrev y_Md_readType : MethodName := ⟨"KindRoundsModel", "readType", "()I"⟩
theorem d_Md_readType_0 : decode bc_Md_readType 0 = .ok (.aload_n 0, 1) := by decide +kernel
theorem d_Md_readType_1 : decode bc_Md_readType 1 = .ok (.iconst 0, 1) := by decide +kernel
theorem d_Md_readType_2 : decode bc_Md_readType 2 = .ok (.invokevirtual 329, 3) := by decide +kernel
theorem d_Md_readType_5 : decode bc_Md_readType 5 = .ok (.ireturn, 1) := by decide +kernel
abbrev bc_Md_readOpen : ByteArray := prog_14_method_28_code
abbrev y_Md_readOpen : MethodName := ⟨"KindRoundsModel", "readOpen", "(I)I"⟩
theorem d_Md_readOpen_0 : decode bc_Md_readOpen 0 = .ok (.aload_n 0, 1) := by decide +kernel
theorem d_Md_readOpen_1 : decode bc_Md_readOpen 1 = .ok (.iconst (-1), 1) := by decide +kernel
theorem d_Md_readOpen_2 : decode bc_Md_readOpen 2 = .ok (.putfield 297, 3) := by decide +kernel
theorem d_Md_readOpen_5 : decode bc_Md_readOpen 5 = .ok (.aload_n 0, 1) := by decide +kernel
theorem d_Md_readOpen_6 : decode bc_Md_readOpen 6 = .ok (.iload_n 1, 1) := by decide +kernel
theorem d_Md_readOpen_7 : decode bc_Md_readOpen 7 = .ok (.invokevirtual 322, 3) := by decide +kernel
theorem d_Md_readOpen_10 : decode bc_Md_readOpen 10 = .ok (.aload_n 0, 1) := by decide +kernel
theorem d_Md_readOpen_11 : decode bc_Md_readOpen 11 = .ok (.getfield 221, 3) := by decide +kernel
theorem d_Md_readOpen_14 : decode bc_Md_readOpen 14 = .ok (.ifCond .ne 202, 3) := by decide +kernel
theorem d_Md_readOpen_17 : decode bc_Md_readOpen 17 = .ok (.aload_n 0, 1) := by decide +kernel
theorem d_Md_readOpen_18 : decode bc_Md_readOpen 18 = .ok (.getfield 297, 3) := by decide +kernel
theorem d_Md_readOpen_21 : decode bc_Md_readOpen 21 = .ok (.ifCond .ne 34, 3) := by decide +kernel
theorem d_Md_readOpen_24 : decode bc_Md_readOpen 24 = .ok (.iload_n 1, 1) := by decide +kernel
theorem d_Md_readOpen_25 : decode bc_Md_readOpen 25 = .ok (.iconst 3, 1) := by decide +kernel
theorem d_Md_readOpen_26 : decode bc_Md_readOpen 26 = .ok (.if_icmp .ne 29, 3) := by decide +kernel
theorem d_Md_readOpen_29 : decode bc_Md_readOpen 29 = .ok (.aload_n 0, 1) := by decide +kernel
theorem d_Md_readOpen_30 : decode bc_Md_readOpen 30 = .ok (.getfield 70, 3) := by decide +kernel
theorem d_Md_readOpen_33 : decode bc_Md_readOpen 33 = .ok (.iconst 0, 1) := by decide +kernel
theorem d_Md_readOpen_34 : decode bc_Md_readOpen 34 = .ok (.iaload, 1) := by decide +kernel
theorem d_Md_readOpen_35 : decode bc_Md_readOpen 35 = .ok (.ifCond .lt 20, 3) := by decide +kernel
theorem d_Md_readOpen_38 : decode bc_Md_readOpen 38 = .ok (.aload_n 0, 1) := by decide +kernel
theorem d_Md_readOpen_39 : decode bc_Md_readOpen 39 = .ok (.aload_n 0, 1) := by decide +kernel
theorem d_Md_readOpen_40 : decode bc_Md_readOpen 40 = .ok (.getfield 88, 3) := by decide +kernel
theorem d_Md_readOpen_43 : decode bc_Md_readOpen 43 = .ok (.iconst 0, 1) := by decide +kernel
theorem d_Md_readOpen_44 : decode bc_Md_readOpen 44 = .ok (.iaload, 1) := by decide +kernel
theorem d_Md_readOpen_45 : decode bc_Md_readOpen 45 = .ok (.putfield 332, 3) := by decide +kernel
theorem d_Md_readOpen_48 : decode bc_Md_readOpen 48 = .ok (.aload_n 0, 1) := by decide +kernel
theorem d_Md_readOpen_49 : decode bc_Md_readOpen 49 = .ok (.getfield 70, 3) := by decide +kernel
theorem d_Md_readOpen_52 : decode bc_Md_readOpen 52 = .ok (.iconst 0, 1) := by decide +kernel
theorem d_Md_readOpen_53 : decode bc_Md_readOpen 53 = .ok (.iaload, 1) := by decide +kernel
theorem d_Md_readOpen_54 : decode bc_Md_readOpen 54 = .ok (.ireturn, 1) := by decide +kernel
theorem d_Md_readOpen_55 : decode bc_Md_readOpen 55 = .ok (.aload_n 0, 1) := by decide +kernel
theorem d_Md_readOpen_56 : decode bc_Md_readOpen 56 = .ok (.invokevirtual 335, 3) := by decide +kernel
theorem d_Md_readOpen_59 : decode bc_Md_readOpen 59 = .ok (.ifCond .eq 10, 3) := by decide +kernel
theorem d_Md_readOpen_62 : decode bc_Md_readOpen 62 = .ok (.aload_n 0, 1) := by decide +kernel
theorem d_Md_readOpen_63 : decode bc_Md_readOpen 63 = .ok (.invokevirtual 339, 3) := by decide +kernel
theorem d_Md_readOpen_66 : decode bc_Md_readOpen 66 = .ok (.goto (-56), 3) := by decide +kernel
theorem d_Md_readOpen_69 : decode bc_Md_readOpen 69 = .ok (.aload_n 0, 1) := by decide +kernel
theorem d_Md_readOpen_70 : decode bc_Md_readOpen 70 = .ok (.getfield 70, 3) := by decide +kernel
theorem d_Md_readOpen_73 : decode bc_Md_readOpen 73 = .ok (.aload_n 0, 1) := by decide +kernel
theorem d_Md_readOpen_74 : decode bc_Md_readOpen 74 = .ok (.getfield 297, 3) := by decide +kernel
theorem d_Md_readOpen_77 : decode bc_Md_readOpen 77 = .ok (.iaload, 1) := by decide +kernel
theorem d_Md_readOpen_78 : decode bc_Md_readOpen 78 = .ok (.ifCond .ge 10, 3) := by decide +kernel
theorem d_Md_readOpen_81 : decode bc_Md_readOpen 81 = .ok (.aload_n 0, 1) := by decide +kernel
theorem d_Md_readOpen_82 : decode bc_Md_readOpen 82 = .ok (.invokevirtual 276, 3) := by decide +kernel
theorem d_Md_readOpen_85 : decode bc_Md_readOpen 85 = .ok (.goto (-75), 3) := by decide +kernel
theorem d_Md_readOpen_88 : decode bc_Md_readOpen 88 = .ok (.aload_n 0, 1) := by decide +kernel
theorem d_Md_readOpen_89 : decode bc_Md_readOpen 89 = .ok (.sipush 1000, 3) := by decide +kernel
theorem d_Md_readOpen_92 : decode bc_Md_readOpen 92 = .ok (.invokevirtual 270, 3) := by decide +kernel
theorem d_Md_readOpen_95 : decode bc_Md_readOpen 95 = .ok (.ifCond .eq 51, 3) := by decide +kernel
theorem d_Md_readOpen_98 : decode bc_Md_readOpen 98 = .ok (.aload_n 0, 1) := by decide +kernel
theorem d_Md_readOpen_99 : decode bc_Md_readOpen 99 = .ok (.invokevirtual 307, 3) := by decide +kernel
theorem d_Md_readOpen_102 : decode bc_Md_readOpen 102 = .ok (.aload_n 0, 1) := by decide +kernel
theorem d_Md_readOpen_103 : decode bc_Md_readOpen 103 = .ok (.invokevirtual 342, 3) := by decide +kernel
theorem d_Md_readOpen_106 : decode bc_Md_readOpen 106 = .ok (.aload_n 0, 1) := by decide +kernel
theorem d_Md_readOpen_107 : decode bc_Md_readOpen 107 = .ok (.iconst 1, 1) := by decide +kernel
theorem d_Md_readOpen_108 : decode bc_Md_readOpen 108 = .ok (.aload_n 0, 1) := by decide +kernel
theorem d_Md_readOpen_109 : decode bc_Md_readOpen 109 = .ok (.getfield 70, 3) := by decide +kernel
theorem d_Md_readOpen_112 : decode bc_Md_readOpen 112 = .ok (.aload_n 0, 1) := by decide +kernel
theorem d_Md_readOpen_113 : decode bc_Md_readOpen 113 = .ok (.getfield 297, 3) := by decide +kernel
theorem d_Md_readOpen_116 : decode bc_Md_readOpen 116 = .ok (.iaload, 1) := by decide +kernel
theorem d_Md_readOpen_117 : decode bc_Md_readOpen 117 = .ok (.aload_n 0, 1) := by decide +kernel
theorem d_Md_readOpen_118 : decode bc_Md_readOpen 118 = .ok (.getfield 79, 3) := by decide +kernel
theorem d_Md_readOpen_121 : decode bc_Md_readOpen 121 = .ok (.aload_n 0, 1) := by decide +kernel
theorem d_Md_readOpen_122 : decode bc_Md_readOpen 122 = .ok (.getfield 297, 3) := by decide +kernel
theorem d_Md_readOpen_125 : decode bc_Md_readOpen 125 = .ok (.iaload, 1) := by decide +kernel
theorem d_Md_readOpen_126 : decode bc_Md_readOpen 126 = .ok (.invokevirtual 303, 3) := by decide +kernel
theorem d_Md_readOpen_129 : decode bc_Md_readOpen 129 = .ok (.aload_n 0, 1) := by decide +kernel
theorem d_Md_readOpen_130 : decode bc_Md_readOpen 130 = .ok (.getfield 70, 3) := by decide +kernel
theorem d_Md_readOpen_133 : decode bc_Md_readOpen 133 = .ok (.aload_n 0, 1) := by decide +kernel
theorem d_Md_readOpen_134 : decode bc_Md_readOpen 134 = .ok (.getfield 297, 3) := by decide +kernel
theorem d_Md_readOpen_137 : decode bc_Md_readOpen 137 = .ok (.iconst (-1), 1) := by decide +kernel
theorem d_Md_readOpen_138 : decode bc_Md_readOpen 138 = .ok (.iastore, 1) := by decide +kernel
theorem d_Md_readOpen_139 : decode bc_Md_readOpen 139 = .ok (.aload_n 0, 1) := by decide +kernel
theorem d_Md_readOpen_140 : decode bc_Md_readOpen 140 = .ok (.invokevirtual 273, 3) := by decide +kernel
theorem d_Md_readOpen_143 : decode bc_Md_readOpen 143 = .ok (.goto (-133), 3) := by decide +kernel
theorem d_Md_readOpen_146 : decode bc_Md_readOpen 146 = .ok (.aload_n 0, 1) := by decide +kernel
theorem d_Md_readOpen_147 : decode bc_Md_readOpen 147 = .ok (.invokevirtual 342, 3) := by decide +kernel
theorem d_Md_readOpen_150 : decode bc_Md_readOpen 150 = .ok (.aload_n 0, 1) := by decide +kernel
theorem d_Md_readOpen_151 : decode bc_Md_readOpen 151 = .ok (.getfield 85, 3) := by decide +kernel
theorem d_Md_readOpen_154 : decode bc_Md_readOpen 154 = .ok (.aload_n 0, 1) := by decide +kernel
theorem d_Md_readOpen_155 : decode bc_Md_readOpen 155 = .ok (.getfield 297, 3) := by decide +kernel
theorem d_Md_readOpen_158 : decode bc_Md_readOpen 158 = .ok (.iaload, 1) := by decide +kernel
theorem d_Md_readOpen_159 : decode bc_Md_readOpen 159 = .ok (.ifCond .lt 26, 3) := by decide +kernel
theorem d_Md_readOpen_162 : decode bc_Md_readOpen 162 = .ok (.aload_n 0, 1) := by decide +kernel
theorem d_Md_readOpen_163 : decode bc_Md_readOpen 163 = .ok (.iconst 1, 1) := by decide +kernel
theorem d_Md_readOpen_164 : decode bc_Md_readOpen 164 = .ok (.aload_n 0, 1) := by decide +kernel
theorem d_Md_readOpen_165 : decode bc_Md_readOpen 165 = .ok (.getfield 70, 3) := by decide +kernel
theorem d_Md_readOpen_168 : decode bc_Md_readOpen 168 = .ok (.aload_n 0, 1) := by decide +kernel
theorem d_Md_readOpen_169 : decode bc_Md_readOpen 169 = .ok (.getfield 297, 3) := by decide +kernel
theorem d_Md_readOpen_172 : decode bc_Md_readOpen 172 = .ok (.iaload, 1) := by decide +kernel
theorem d_Md_readOpen_173 : decode bc_Md_readOpen 173 = .ok (.aload_n 0, 1) := by decide +kernel
theorem d_Md_readOpen_174 : decode bc_Md_readOpen 174 = .ok (.getfield 79, 3) := by decide +kernel
theorem d_Md_readOpen_177 : decode bc_Md_readOpen 177 = .ok (.aload_n 0, 1) := by decide +kernel
theorem d_Md_readOpen_178 : decode bc_Md_readOpen 178 = .ok (.getfield 297, 3) := by decide +kernel
theorem d_Md_readOpen_181 : decode bc_Md_readOpen 181 = .ok (.iaload, 1) := by decide +kernel
theorem d_Md_readOpen_182 : decode bc_Md_readOpen 182 = .ok (.invokevirtual 303, 3) := by decide +kernel
theorem d_Md_readOpen_185 : decode bc_Md_readOpen 185 = .ok (.aload_n 0, 1) := by decide +kernel
theorem d_Md_readOpen_186 : decode bc_Md_readOpen 186 = .ok (.getfield 297, 3) := by decide +kernel
theorem d_Md_readOpen_189 : decode bc_Md_readOpen 189 = .ok (.ifCond .ne 20, 3) := by decide +kernel
theorem d_Md_readOpen_192 : decode bc_Md_readOpen 192 = .ok (.aload_n 0, 1) := by decide +kernel
theorem d_Md_readOpen_193 : decode bc_Md_readOpen 193 = .ok (.aload_n 0, 1) := by decide +kernel
theorem d_Md_readOpen_194 : decode bc_Md_readOpen 194 = .ok (.getfield 88, 3) := by decide +kernel
theorem d_Md_readOpen_197 : decode bc_Md_readOpen 197 = .ok (.iconst 0, 1) := by decide +kernel
theorem d_Md_readOpen_198 : decode bc_Md_readOpen 198 = .ok (.iaload, 1) := by decide +kernel
theorem d_Md_readOpen_199 : decode bc_Md_readOpen 199 = .ok (.putfield 332, 3) := by decide +kernel
theorem d_Md_readOpen_202 : decode bc_Md_readOpen 202 = .ok (.aload_n 0, 1) := by decide +kernel
theorem d_Md_readOpen_203 : decode bc_Md_readOpen 203 = .ok (.getfield 82, 3) := by decide +kernel
theorem d_Md_readOpen_206 : decode bc_Md_readOpen 206 = .ok (.iconst 0, 1) := by decide +kernel
theorem d_Md_readOpen_207 : decode bc_Md_readOpen 207 = .ok (.iaload, 1) := by decide +kernel
theorem d_Md_readOpen_208 : decode bc_Md_readOpen 208 = .ok (.ireturn, 1) := by decide +kernel
theorem d_Md_readOpen_209 : decode bc_Md_readOpen 209 = .ok (.aload_n 0, 1) := by decide +kernel
theorem d_Md_readOpen_210 : decode bc_Md_readOpen 210 = .ok (.invokevirtual 345, 3) := by decide +kernel
theorem d_Md_readOpen_213 : decode bc_Md_readOpen 213 = .ok (.goto (-203), 3) := by decide +kernel
theorem d_Md_readOpen_216 : decode bc_Md_readOpen 216 = .ok (.iconst 0, 1) := by decide +kernel
theorem d_Md_readOpen_217 : decode bc_Md_readOpen 217 = .ok (.ireturn, 1) := by decide +kernel
abbrev bc_Md_newKind : ByteArray := prog_14_method_29_code
abbrev y_Md_newKind : MethodName := ⟨"KindRoundsModel", "newKind", "(III)I"⟩
theorem d_Md_newKind_0 : decode bc_Md_newKind 0 = .ok (.aload_n 0, 1) := by decide +kernel
theorem d_Md_newKind_1 : decode bc_Md_newKind 1 = .ok (.getfield 91, 3) := by decide +kernel
theorem d_Md_newKind_4 : decode bc_Md_newKind 4 = .ok (.aload_n 0, 1) := by decide +kernel
theorem d_Md_newKind_5 : decode bc_Md_newKind 5 = .ok (.getfield 209, 3) := by decide +kernel
theorem d_Md_newKind_8 : decode bc_Md_newKind 8 = .ok (.iload_n 1, 1) := by decide +kernel
theorem d_Md_newKind_9 : decode bc_Md_newKind 9 = .ok (.iastore, 1) := by decide +kernel
theorem d_Md_newKind_10 : decode bc_Md_newKind 10 = .ok (.aload_n 0, 1) := by decide +kernel
theorem d_Md_newKind_11 : decode bc_Md_newKind 11 = .ok (.getfield 94, 3) := by decide +kernel
theorem d_Md_newKind_14 : decode bc_Md_newKind 14 = .ok (.aload_n 0, 1) := by decide +kernel
theorem d_Md_newKind_15 : decode bc_Md_newKind 15 = .ok (.getfield 209, 3) := by decide +kernel
theorem d_Md_newKind_18 : decode bc_Md_newKind 18 = .ok (.iload_n 2, 1) := by decide +kernel
theorem d_Md_newKind_19 : decode bc_Md_newKind 19 = .ok (.iastore, 1) := by decide +kernel
theorem d_Md_newKind_20 : decode bc_Md_newKind 20 = .ok (.aload_n 0, 1) := by decide +kernel
theorem d_Md_newKind_21 : decode bc_Md_newKind 21 = .ok (.getfield 97, 3) := by decide +kernel
theorem d_Md_newKind_24 : decode bc_Md_newKind 24 = .ok (.aload_n 0, 1) := by decide +kernel
theorem d_Md_newKind_25 : decode bc_Md_newKind 25 = .ok (.getfield 209, 3) := by decide +kernel
theorem d_Md_newKind_28 : decode bc_Md_newKind 28 = .ok (.iload_n 3, 1) := by decide +kernel
theorem d_Md_newKind_29 : decode bc_Md_newKind 29 = .ok (.iastore, 1) := by decide +kernel
theorem d_Md_newKind_30 : decode bc_Md_newKind 30 = .ok (.aload_n 0, 1) := by decide +kernel
theorem d_Md_newKind_31 : decode bc_Md_newKind 31 = .ok (.getfield 100, 3) := by decide +kernel
theorem d_Md_newKind_34 : decode bc_Md_newKind 34 = .ok (.aload_n 0, 1) := by decide +kernel
theorem d_Md_newKind_35 : decode bc_Md_newKind 35 = .ok (.getfield 209, 3) := by decide +kernel
theorem d_Md_newKind_38 : decode bc_Md_newKind 38 = .ok (.aload_n 0, 1) := by decide +kernel
theorem d_Md_newKind_39 : decode bc_Md_newKind 39 = .ok (.getfield 209, 3) := by decide +kernel
theorem d_Md_newKind_42 : decode bc_Md_newKind 42 = .ok (.iastore, 1) := by decide +kernel
theorem d_Md_newKind_43 : decode bc_Md_newKind 43 = .ok (.aload_n 0, 1) := by decide +kernel
theorem d_Md_newKind_44 : decode bc_Md_newKind 44 = .ok (.dup, 1) := by decide +kernel
theorem d_Md_newKind_45 : decode bc_Md_newKind 45 = .ok (.getfield 209, 3) := by decide +kernel
theorem d_Md_newKind_48 : decode bc_Md_newKind 48 = .ok (.iconst 1, 1) := by decide +kernel
theorem d_Md_newKind_49 : decode bc_Md_newKind 49 = .ok (.iadd, 1) := by decide +kernel
theorem d_Md_newKind_50 : decode bc_Md_newKind 50 = .ok (.putfield 209, 3) := by decide +kernel
theorem d_Md_newKind_53 : decode bc_Md_newKind 53 = .ok (.aload_n 0, 1) := by decide +kernel
theorem d_Md_newKind_54 : decode bc_Md_newKind 54 = .ok (.getfield 209, 3) := by decide +kernel
theorem d_Md_newKind_57 : decode bc_Md_newKind 57 = .ok (.iconst 1, 1) := by decide +kernel
theorem d_Md_newKind_58 : decode bc_Md_newKind 58 = .ok (.isub, 1) := by decide +kernel
theorem d_Md_newKind_59 : decode bc_Md_newKind 59 = .ok (.ireturn, 1) := by decide +kernel
abbrev bc_Md_top : ByteArray := prog_14_method_30_code
abbrev y_Md_top : MethodName := ⟨"KindRoundsModel", "top", "(I)I"⟩
theorem d_Md_top_0 : decode bc_Md_top 0 = .ok (.iload_n 1, 1) := by decide +kernel
theorem d_Md_top_1 : decode bc_Md_top 1 = .ok (.istore_n 2, 1) := by decide +kernel
theorem d_Md_top_2 : decode bc_Md_top 2 = .ok (.aload_n 0, 1) := by decide +kernel
theorem d_Md_top_3 : decode bc_Md_top 3 = .ok (.getfield 100, 3) := by decide +kernel
theorem d_Md_top_6 : decode bc_Md_top 6 = .ok (.iload_n 2, 1) := by decide +kernel
theorem d_Md_top_7 : decode bc_Md_top 7 = .ok (.iaload, 1) := by decide +kernel
theorem d_Md_top_8 : decode bc_Md_top 8 = .ok (.iload_n 2, 1) := by decide +kernel
theorem d_Md_top_9 : decode bc_Md_top 9 = .ok (.if_icmp .eq 13, 3) := by decide +kernel
theorem d_Md_top_12 : decode bc_Md_top 12 = .ok (.aload_n 0, 1) := by decide +kernel
theorem d_Md_top_13 : decode bc_Md_top 13 = .ok (.getfield 100, 3) := by decide +kernel
theorem d_Md_top_16 : decode bc_Md_top 16 = .ok (.iload_n 2, 1) := by decide +kernel
theorem d_Md_top_17 : decode bc_Md_top 17 = .ok (.iaload, 1) := by decide +kernel
theorem d_Md_top_18 : decode bc_Md_top 18 = .ok (.istore_n 2, 1) := by decide +kernel
theorem d_Md_top_19 : decode bc_Md_top 19 = .ok (.goto (-17), 3) := by decide +kernel
theorem d_Md_top_22 : decode bc_Md_top 22 = .ok (.iload_n 2, 1) := by decide +kernel
theorem d_Md_top_23 : decode bc_Md_top 23 = .ok (.ireturn, 1) := by decide +kernel
abbrev bc_Md_addPart : ByteArray := prog_14_method_31_code
abbrev y_Md_addPart : MethodName := ⟨"KindRoundsModel", "addPart", "(I)V"⟩
theorem d_Md_addPart_0 : decode bc_Md_addPart 0 = .ok (.aload_n 0, 1) := by decide +kernel
theorem d_Md_addPart_1 : decode bc_Md_addPart 1 = .ok (.getfield 106, 3) := by decide +kernel
theorem d_Md_addPart_4 : decode bc_Md_addPart 4 = .ok (.aload_n 0, 1) := by decide +kernel
theorem d_Md_addPart_5 : decode bc_Md_addPart 5 = .ok (.getfield 297, 3) := by decide +kernel
theorem d_Md_addPart_8 : decode bc_Md_addPart 8 = .ok (.iaload, 1) := by decide +kernel
theorem d_Md_addPart_9 : decode bc_Md_addPart 9 = .ok (.ifCond .ge 14, 3) := by decide +kernel
theorem d_Md_addPart_12 : decode bc_Md_addPart 12 = .ok (.aload_n 0, 1) := by decide +kernel
theorem d_Md_addPart_13 : decode bc_Md_addPart 13 = .ok (.getfield 106, 3) := by decide +kernel
theorem d_Md_addPart_16 : decode bc_Md_addPart 16 = .ok (.aload_n 0, 1) := by decide +kernel
theorem d_Md_addPart_17 : decode bc_Md_addPart 17 = .ok (.getfield 297, 3) := by decide +kernel
theorem d_Md_addPart_20 : decode bc_Md_addPart 20 = .ok (.iload_n 1, 1) := by decide +kernel
theorem d_Md_addPart_21 : decode bc_Md_addPart 21 = .ok (.iastore, 1) := by decide +kernel
theorem d_Md_addPart_22 : decode bc_Md_addPart 22 = .ok (.return_, 1) := by decide +kernel
theorem d_Md_addPart_23 : decode bc_Md_addPart 23 = .ok (.aload_n 0, 1) := by decide +kernel
theorem d_Md_addPart_24 : decode bc_Md_addPart 24 = .ok (.getfield 109, 3) := by decide +kernel
theorem d_Md_addPart_27 : decode bc_Md_addPart 27 = .ok (.aload_n 0, 1) := by decide +kernel
theorem d_Md_addPart_28 : decode bc_Md_addPart 28 = .ok (.getfield 297, 3) := by decide +kernel
theorem d_Md_addPart_31 : decode bc_Md_addPart 31 = .ok (.iaload, 1) := by decide +kernel
theorem d_Md_addPart_32 : decode bc_Md_addPart 32 = .ok (.istore_n 2, 1) := by decide +kernel
theorem d_Md_addPart_33 : decode bc_Md_addPart 33 = .ok (.aload_n 0, 1) := by decide +kernel
theorem d_Md_addPart_34 : decode bc_Md_addPart 34 = .ok (.iconst 2, 1) := by decide +kernel
theorem d_Md_addPart_35 : decode bc_Md_addPart 35 = .ok (.iload_n 2, 1) := by decide +kernel
theorem d_Md_addPart_36 : decode bc_Md_addPart 36 = .ok (.ifCond .ge 15, 3) := by decide +kernel
theorem d_Md_addPart_39 : decode bc_Md_addPart 39 = .ok (.aload_n 0, 1) := by decide +kernel
theorem d_Md_addPart_40 : decode bc_Md_addPart 40 = .ok (.getfield 106, 3) := by decide +kernel
theorem d_Md_addPart_43 : decode bc_Md_addPart 43 = .ok (.aload_n 0, 1) := by decide +kernel
theorem d_Md_addPart_44 : decode bc_Md_addPart 44 = .ok (.getfield 297, 3) := by decide +kernel
theorem d_Md_addPart_47 : decode bc_Md_addPart 47 = .ok (.iaload, 1) := by decide +kernel
theorem d_Md_addPart_48 : decode bc_Md_addPart 48 = .ok (.goto 9, 3) := by decide +kernel
theorem d_Md_addPart_51 : decode bc_Md_addPart 51 = .ok (.aload_n 0, 1) := by decide +kernel
theorem d_Md_addPart_52 : decode bc_Md_addPart 52 = .ok (.getfield 97, 3) := by decide +kernel
theorem d_Md_addPart_55 : decode bc_Md_addPart 55 = .ok (.iload_n 2, 1) := by decide +kernel
theorem d_Md_addPart_56 : decode bc_Md_addPart 56 = .ok (.iaload, 1) := by decide +kernel
theorem d_Md_addPart_57 : decode bc_Md_addPart 57 = .ok (.iload_n 1, 1) := by decide +kernel
theorem d_Md_addPart_58 : decode bc_Md_addPart 58 = .ok (.invokevirtual 202, 3) := by decide +kernel
theorem d_Md_addPart_61 : decode bc_Md_addPart 61 = .ok (.istore_n 3, 1) := by decide +kernel
theorem d_Md_addPart_62 : decode bc_Md_addPart 62 = .ok (.iload_n 2, 1) := by decide +kernel
theorem d_Md_addPart_63 : decode bc_Md_addPart 63 = .ok (.ifCond .ge 16, 3) := by decide +kernel
theorem d_Md_addPart_66 : decode bc_Md_addPart 66 = .ok (.aload_n 0, 1) := by decide +kernel
theorem d_Md_addPart_67 : decode bc_Md_addPart 67 = .ok (.getfield 106, 3) := by decide +kernel
theorem d_Md_addPart_70 : decode bc_Md_addPart 70 = .ok (.aload_n 0, 1) := by decide +kernel
theorem d_Md_addPart_71 : decode bc_Md_addPart 71 = .ok (.getfield 297, 3) := by decide +kernel
theorem d_Md_addPart_74 : decode bc_Md_addPart 74 = .ok (.iload_n 3, 1) := by decide +kernel
theorem d_Md_addPart_75 : decode bc_Md_addPart 75 = .ok (.iastore, 1) := by decide +kernel
theorem d_Md_addPart_76 : decode bc_Md_addPart 76 = .ok (.goto 10, 3) := by decide +kernel
theorem d_Md_addPart_79 : decode bc_Md_addPart 79 = .ok (.aload_n 0, 1) := by decide +kernel
theorem d_Md_addPart_80 : decode bc_Md_addPart 80 = .ok (.getfield 97, 3) := by decide +kernel
theorem d_Md_addPart_83 : decode bc_Md_addPart 83 = .ok (.iload_n 2, 1) := by decide +kernel
theorem d_Md_addPart_84 : decode bc_Md_addPart 84 = .ok (.iload_n 3, 1) := by decide +kernel
theorem d_Md_addPart_85 : decode bc_Md_addPart 85 = .ok (.iastore, 1) := by decide +kernel
theorem d_Md_addPart_86 : decode bc_Md_addPart 86 = .ok (.aload_n 0, 1) := by decide +kernel
theorem d_Md_addPart_87 : decode bc_Md_addPart 87 = .ok (.getfield 109, 3) := by decide +kernel
theorem d_Md_addPart_90 : decode bc_Md_addPart 90 = .ok (.aload_n 0, 1) := by decide +kernel
theorem d_Md_addPart_91 : decode bc_Md_addPart 91 = .ok (.getfield 297, 3) := by decide +kernel
theorem d_Md_addPart_94 : decode bc_Md_addPart 94 = .ok (.iload_n 3, 1) := by decide +kernel
theorem d_Md_addPart_95 : decode bc_Md_addPart 95 = .ok (.iastore, 1) := by decide +kernel
theorem d_Md_addPart_96 : decode bc_Md_addPart 96 = .ok (.return_, 1) := by decide +kernel
abbrev bc_Md_openKind : ByteArray := prog_14_method_32_code
abbrev y_Md_openKind : MethodName := ⟨"KindRoundsModel", "openKind", "()V"⟩
theorem d_Md_openKind_0 : decode bc_Md_openKind 0 = .ok (.aload_n 0, 1) := by decide +kernel
theorem d_Md_openKind_1 : decode bc_Md_openKind 1 = .ok (.dup, 1) := by decide +kernel
theorem d_Md_openKind_2 : decode bc_Md_openKind 2 = .ok (.getfield 297, 3) := by decide +kernel
theorem d_Md_openKind_5 : decode bc_Md_openKind 5 = .ok (.iconst 1, 1) := by decide +kernel
theorem d_Md_openKind_6 : decode bc_Md_openKind 6 = .ok (.iadd, 1) := by decide +kernel
theorem d_Md_openKind_7 : decode bc_Md_openKind 7 = .ok (.putfield 297, 3) := by decide +kernel
theorem d_Md_openKind_10 : decode bc_Md_openKind 10 = .ok (.aload_n 0, 1) := by decide +kernel
theorem d_Md_openKind_11 : decode bc_Md_openKind 11 = .ok (.getfield 106, 3) := by decide +kernel
theorem d_Md_openKind_14 : decode bc_Md_openKind 14 = .ok (.aload_n 0, 1) := by decide +kernel
theorem d_Md_openKind_15 : decode bc_Md_openKind 15 = .ok (.getfield 297, 3) := by decide +kernel
theorem d_Md_openKind_18 : decode bc_Md_openKind 18 = .ok (.iconst (-1), 1) := by decide +kernel
theorem d_Md_openKind_19 : decode bc_Md_openKind 19 = .ok (.iastore, 1) := by decide +kernel
theorem d_Md_openKind_20 : decode bc_Md_openKind 20 = .ok (.aload_n 0, 1) := by decide +kernel
theorem d_Md_openKind_21 : decode bc_Md_openKind 21 = .ok (.getfield 109, 3) := by decide +kernel
theorem d_Md_openKind_24 : decode bc_Md_openKind 24 = .ok (.aload_n 0, 1) := by decide +kernel
theorem d_Md_openKind_25 : decode bc_Md_openKind 25 = .ok (.getfield 297, 3) := by decide +kernel
theorem d_Md_openKind_28 : decode bc_Md_openKind 28 = .ok (.iconst (-1), 1) := by decide +kernel
theorem d_Md_openKind_29 : decode bc_Md_openKind 29 = .ok (.iastore, 1) := by decide +kernel
theorem d_Md_openKind_30 : decode bc_Md_openKind 30 = .ok (.return_, 1) := by decide +kernel
abbrev bc_Md_readKind : ByteArray := prog_14_method_33_code
abbrev y_Md_readKind : MethodName := ⟨"KindRoundsModel", "readKind", "()I"⟩
theorem d_Md_readKind_0 : decode bc_Md_readKind 0 = .ok (.aload_n 0, 1) := by decide +kernel
theorem d_Md_readKind_1 : decode bc_Md_readKind 1 = .ok (.iconst (-1), 1) := by decide +kernel
theorem d_Md_readKind_2 : decode bc_Md_readKind 2 = .ok (.putfield 297, 3) := by decide +kernel
theorem d_Md_readKind_5 : decode bc_Md_readKind 5 = .ok (.aload_n 0, 1) := by decide +kernel
theorem d_Md_readKind_6 : decode bc_Md_readKind 6 = .ok (.invokevirtual 348, 3) := by decide +kernel
theorem d_Md_readKind_9 : decode bc_Md_readKind 9 = .ok (.iconst 1, 1) := by decide +kernel
theorem d_Md_readKind_10 : decode bc_Md_readKind 10 = .ok (.istore_n 1, 1) := by decide +kernel
theorem d_Md_readKind_11 : decode bc_Md_readKind 11 = .ok (.aload_n 0, 1) := by decide +kernel
theorem d_Md_readKind_12 : decode bc_Md_readKind 12 = .ok (.getfield 221, 3) := by decide +kernel
theorem d_Md_readKind_15 : decode bc_Md_readKind 15 = .ok (.ifCond .ne 149, 3) := by decide +kernel
theorem d_Md_readKind_18 : decode bc_Md_readKind 18 = .ok (.iload_n 1, 1) := by decide +kernel
theorem d_Md_readKind_19 : decode bc_Md_readKind 19 = .ok (.ifCond .eq 29, 3) := by decide +kernel
theorem d_Md_readKind_22 : decode bc_Md_readKind 22 = .ok (.aload_n 0, 1) := by decide +kernel
theorem d_Md_readKind_23 : decode bc_Md_readKind 23 = .ok (.bipush 42, 2) := by decide +kernel
theorem d_Md_readKind_25 : decode bc_Md_readKind 25 = .ok (.invokevirtual 270, 3) := by decide +kernel
theorem d_Md_readKind_28 : decode bc_Md_readKind 28 = .ok (.ifCond .eq 20, 3) := by decide +kernel
theorem d_Md_readKind_31 : decode bc_Md_readKind 31 = .ok (.aload_n 0, 1) := by decide +kernel
theorem d_Md_readKind_32 : decode bc_Md_readKind 32 = .ok (.aload_n 0, 1) := by decide +kernel
theorem d_Md_readKind_33 : decode bc_Md_readKind 33 = .ok (.getfield 206, 3) := by decide +kernel
theorem d_Md_readKind_36 : decode bc_Md_readKind 36 = .ok (.invokevirtual 351, 3) := by decide +kernel
theorem d_Md_readKind_39 : decode bc_Md_readKind 39 = .ok (.aload_n 0, 1) := by decide +kernel
theorem d_Md_readKind_40 : decode bc_Md_readKind 40 = .ok (.invokevirtual 273, 3) := by decide +kernel
theorem d_Md_readKind_43 : decode bc_Md_readKind 43 = .ok (.iconst 0, 1) := by decide +kernel
theorem d_Md_readKind_44 : decode bc_Md_readKind 44 = .ok (.istore_n 1, 1) := by decide +kernel
theorem d_Md_readKind_45 : decode bc_Md_readKind 45 = .ok (.goto (-34), 3) := by decide +kernel
theorem d_Md_readKind_48 : decode bc_Md_readKind 48 = .ok (.iload_n 1, 1) := by decide +kernel
theorem d_Md_readKind_49 : decode bc_Md_readKind 49 = .ok (.ifCond .eq 27, 3) := by decide +kernel
theorem d_Md_readKind_52 : decode bc_Md_readKind 52 = .ok (.aload_n 0, 1) := by decide +kernel
theorem d_Md_readKind_53 : decode bc_Md_readKind 53 = .ok (.bipush 40, 2) := by decide +kernel
theorem d_Md_readKind_55 : decode bc_Md_readKind 55 = .ok (.invokevirtual 270, 3) := by decide +kernel
theorem d_Md_readKind_58 : decode bc_Md_readKind 58 = .ok (.ifCond .eq 18, 3) := by decide +kernel
theorem d_Md_readKind_61 : decode bc_Md_readKind 61 = .ok (.aload_n 0, 1) := by decide +kernel
theorem d_Md_readKind_62 : decode bc_Md_readKind 62 = .ok (.invokevirtual 319, 3) := by decide +kernel
theorem d_Md_readKind_65 : decode bc_Md_readKind 65 = .ok (.aload_n 0, 1) := by decide +kernel
theorem d_Md_readKind_66 : decode bc_Md_readKind 66 = .ok (.invokevirtual 273, 3) := by decide +kernel
theorem d_Md_readKind_69 : decode bc_Md_readKind 69 = .ok (.aload_n 0, 1) := by decide +kernel
theorem d_Md_readKind_70 : decode bc_Md_readKind 70 = .ok (.invokevirtual 348, 3) := by decide +kernel
theorem d_Md_readKind_73 : decode bc_Md_readKind 73 = .ok (.goto (-62), 3) := by decide +kernel
theorem d_Md_readKind_76 : decode bc_Md_readKind 76 = .ok (.iload_n 1, 1) := by decide +kernel
theorem d_Md_readKind_77 : decode bc_Md_readKind 77 = .ok (.ifCond .eq 10, 3) := by decide +kernel
theorem d_Md_readKind_80 : decode bc_Md_readKind 80 = .ok (.aload_n 0, 1) := by decide +kernel
theorem d_Md_readKind_81 : decode bc_Md_readKind 81 = .ok (.invokevirtual 276, 3) := by decide +kernel
theorem d_Md_readKind_84 : decode bc_Md_readKind 84 = .ok (.goto (-73), 3) := by decide +kernel
theorem d_Md_readKind_87 : decode bc_Md_readKind 87 = .ok (.aload_n 0, 1) := by decide +kernel
theorem d_Md_readKind_88 : decode bc_Md_readKind 88 = .ok (.sipush 1000, 3) := by decide +kernel
theorem d_Md_readKind_91 : decode bc_Md_readKind 91 = .ok (.invokevirtual 270, 3) := by decide +kernel
theorem d_Md_readKind_94 : decode bc_Md_readKind 94 = .ok (.ifCond .eq 12, 3) := by decide +kernel
theorem d_Md_readKind_97 : decode bc_Md_readKind 97 = .ok (.aload_n 0, 1) := by decide +kernel
theorem d_Md_readKind_98 : decode bc_Md_readKind 98 = .ok (.invokevirtual 273, 3) := by decide +kernel
theorem d_Md_readKind_101 : decode bc_Md_readKind 101 = .ok (.iconst 1, 1) := by decide +kernel
theorem d_Md_readKind_102 : decode bc_Md_readKind 102 = .ok (.istore_n 1, 1) := by decide +kernel
theorem d_Md_readKind_103 : decode bc_Md_readKind 103 = .ok (.goto (-92), 3) := by decide +kernel
theorem d_Md_readKind_106 : decode bc_Md_readKind 106 = .ok (.aload_n 0, 1) := by decide +kernel
theorem d_Md_readKind_107 : decode bc_Md_readKind 107 = .ok (.getfield 297, 3) := by decide +kernel
theorem d_Md_readKind_110 : decode bc_Md_readKind 110 = .ok (.ifCond .ne 10, 3) := by decide +kernel
theorem d_Md_readKind_113 : decode bc_Md_readKind 113 = .ok (.aload_n 0, 1) := by decide +kernel
theorem d_Md_readKind_114 : decode bc_Md_readKind 114 = .ok (.getfield 106, 3) := by decide +kernel
theorem d_Md_readKind_117 : decode bc_Md_readKind 117 = .ok (.iconst 0, 1) := by decide +kernel
theorem d_Md_readKind_118 : decode bc_Md_readKind 118 = .ok (.iaload, 1) := by decide +kernel
theorem d_Md_readKind_119 : decode bc_Md_readKind 119 = .ok (.ireturn, 1) := by decide +kernel
theorem d_Md_readKind_120 : decode bc_Md_readKind 120 = .ok (.aload_n 0, 1) := by decide +kernel
theorem d_Md_readKind_121 : decode bc_Md_readKind 121 = .ok (.bipush 41, 2) := by decide +kernel
theorem d_Md_readKind_123 : decode bc_Md_readKind 123 = .ok (.invokevirtual 326, 3) := by decide +kernel
theorem d_Md_readKind_126 : decode bc_Md_readKind 126 = .ok (.aload_n 0, 1) := by decide +kernel
theorem d_Md_readKind_127 : decode bc_Md_readKind 127 = .ok (.dup, 1) := by decide +kernel
theorem d_Md_readKind_128 : decode bc_Md_readKind 128 = .ok (.getfield 294, 3) := by decide +kernel
theorem d_Md_readKind_131 : decode bc_Md_readKind 131 = .ok (.iconst 1, 1) := by decide +kernel
theorem d_Md_readKind_132 : decode bc_Md_readKind 132 = .ok (.isub, 1) := by decide +kernel
theorem d_Md_readKind_133 : decode bc_Md_readKind 133 = .ok (.putfield 294, 3) := by decide +kernel
theorem d_Md_readKind_136 : decode bc_Md_readKind 136 = .ok (.aload_n 0, 1) := by decide +kernel
theorem d_Md_readKind_137 : decode bc_Md_readKind 137 = .ok (.dup, 1) := by decide +kernel
theorem d_Md_readKind_138 : decode bc_Md_readKind 138 = .ok (.getfield 297, 3) := by decide +kernel
theorem d_Md_readKind_141 : decode bc_Md_readKind 141 = .ok (.iconst 1, 1) := by decide +kernel
theorem d_Md_readKind_142 : decode bc_Md_readKind 142 = .ok (.isub, 1) := by decide +kernel
theorem d_Md_readKind_143 : decode bc_Md_readKind 143 = .ok (.putfield 297, 3) := by decide +kernel
theorem d_Md_readKind_146 : decode bc_Md_readKind 146 = .ok (.aload_n 0, 1) := by decide +kernel
theorem d_Md_readKind_147 : decode bc_Md_readKind 147 = .ok (.aload_n 0, 1) := by decide +kernel
theorem d_Md_readKind_148 : decode bc_Md_readKind 148 = .ok (.getfield 106, 3) := by decide +kernel
theorem d_Md_readKind_151 : decode bc_Md_readKind 151 = .ok (.aload_n 0, 1) := by decide +kernel
theorem d_Md_readKind_152 : decode bc_Md_readKind 152 = .ok (.getfield 297, 3) := by decide +kernel
theorem d_Md_readKind_155 : decode bc_Md_readKind 155 = .ok (.iconst 1, 1) := by decide +kernel
theorem d_Md_readKind_156 : decode bc_Md_readKind 156 = .ok (.iadd, 1) := by decide +kernel
theorem d_Md_readKind_157 : decode bc_Md_readKind 157 = .ok (.iaload, 1) := by decide +kernel
theorem d_Md_readKind_158 : decode bc_Md_readKind 158 = .ok (.invokevirtual 351, 3) := by decide +kernel
theorem d_Md_readKind_161 : decode bc_Md_readKind 161 = .ok (.goto (-150), 3) := by decide +kernel
theorem d_Md_readKind_164 : decode bc_Md_readKind 164 = .ok (.aload_n 0, 1) := by decide +kernel
theorem d_Md_readKind_165 : decode bc_Md_readKind 165 = .ok (.getfield 206, 3) := by decide +kernel
theorem d_Md_readKind_168 : decode bc_Md_readKind 168 = .ok (.ireturn, 1) := by decide +kernel
abbrev bc_Md_begin : ByteArray := prog_14_method_34_code
abbrev y_Md_begin : MethodName := ⟨"KindRoundsModel", "begin", "()V"⟩
theorem d_Md_begin_0 : decode bc_Md_begin 0 = .ok (.aload_n 0, 1) := by decide +kernel
theorem d_Md_begin_1 : decode bc_Md_begin 1 = .ok (.iconst 0, 1) := by decide +kernel
theorem d_Md_begin_2 : decode bc_Md_begin 2 = .ok (.putfield 231, 3) := by decide +kernel
theorem d_Md_begin_5 : decode bc_Md_begin 5 = .ok (.aload_n 0, 1) := by decide +kernel
theorem d_Md_begin_6 : decode bc_Md_begin 6 = .ok (.iconst 0, 1) := by decide +kernel
theorem d_Md_begin_7 : decode bc_Md_begin 7 = .ok (.putfield 221, 3) := by decide +kernel
theorem d_Md_begin_10 : decode bc_Md_begin 10 = .ok (.aload_n 0, 1) := by decide +kernel
theorem d_Md_begin_11 : decode bc_Md_begin 11 = .ok (.bipush (-3), 2) := by decide +kernel
theorem d_Md_begin_13 : decode bc_Md_begin 13 = .ok (.putfield 13, 3) := by decide +kernel
theorem d_Md_begin_16 : decode bc_Md_begin 16 = .ok (.aload_n 0, 1) := by decide +kernel
theorem d_Md_begin_17 : decode bc_Md_begin 17 = .ok (.iconst 0, 1) := by decide +kernel
theorem d_Md_begin_18 : decode bc_Md_begin 18 = .ok (.putfield 354, 3) := by decide +kernel
theorem d_Md_begin_21 : decode bc_Md_begin 21 = .ok (.aload_n 0, 1) := by decide +kernel
theorem d_Md_begin_22 : decode bc_Md_begin 22 = .ok (.iconst 0, 1) := by decide +kernel
theorem d_Md_begin_23 : decode bc_Md_begin 23 = .ok (.putfield 294, 3) := by decide +kernel
theorem d_Md_begin_26 : decode bc_Md_begin 26 = .ok (.aload_n 0, 1) := by decide +kernel
theorem d_Md_begin_27 : decode bc_Md_begin 27 = .ok (.iconst 0, 1) := by decide +kernel
theorem d_Md_begin_28 : decode bc_Md_begin 28 = .ok (.putfield 291, 3) := by decide +kernel
theorem d_Md_begin_31 : decode bc_Md_begin 31 = .ok (.aload_n 0, 1) := by decide +kernel
theorem d_Md_begin_32 : decode bc_Md_begin 32 = .ok (.iconst (-1), 1) := by decide +kernel
theorem d_Md_begin_33 : decode bc_Md_begin 33 = .ok (.putfield 282, 3) := by decide +kernel
theorem d_Md_begin_36 : decode bc_Md_begin 36 = .ok (.aload_n 0, 1) := by decide +kernel
theorem d_Md_begin_37 : decode bc_Md_begin 37 = .ok (.iconst (-1), 1) := by decide +kernel
theorem d_Md_begin_38 : decode bc_Md_begin 38 = .ok (.putfield 310, 3) := by decide +kernel
theorem d_Md_begin_41 : decode bc_Md_begin 41 = .ok (.aload_n 0, 1) := by decide +kernel
theorem d_Md_begin_42 : decode bc_Md_begin 42 = .ok (.invokevirtual 273, 3) := by decide +kernel
theorem d_Md_begin_45 : decode bc_Md_begin 45 = .ok (.return_, 1) := by decide +kernel
abbrev bc_Md_wantName : ByteArray := prog_14_method_35_code
abbrev y_Md_wantName : MethodName := ⟨"KindRoundsModel", "wantName", "(I)Z"⟩
theorem d_Md_wantName_0 : decode bc_Md_wantName 0 = .ok (.aload_n 0, 1) := by decide +kernel
theorem d_Md_wantName_1 : decode bc_Md_wantName 1 = .ok (.getfield 221, 3) := by decide +kernel
theorem d_Md_wantName_4 : decode bc_Md_wantName 4 = .ok (.ifCond .gt 11, 3) := by decide +kernel
theorem d_Md_wantName_7 : decode bc_Md_wantName 7 = .ok (.aload_n 0, 1) := by decide +kernel
theorem d_Md_wantName_8 : decode bc_Md_wantName 8 = .ok (.getfield 241, 3) := by decide +kernel
theorem d_Md_wantName_11 : decode bc_Md_wantName 11 = .ok (.iload_n 1, 1) := by decide +kernel
theorem d_Md_wantName_12 : decode bc_Md_wantName 12 = .ok (.if_icmp .eq 9, 3) := by decide +kernel
theorem d_Md_wantName_15 : decode bc_Md_wantName 15 = .ok (.aload_n 0, 1) := by decide +kernel
theorem d_Md_wantName_16 : decode bc_Md_wantName 16 = .ok (.invokevirtual 276, 3) := by decide +kernel
theorem d_Md_wantName_19 : decode bc_Md_wantName 19 = .ok (.iconst 0, 1) := by decide +kernel
theorem d_Md_wantName_20 : decode bc_Md_wantName 20 = .ok (.ireturn, 1) := by decide +kernel
theorem d_Md_wantName_21 : decode bc_Md_wantName 21 = .ok (.iconst 1, 1) := by decide +kernel
theorem d_Md_wantName_22 : decode bc_Md_wantName 22 = .ok (.ireturn, 1) := by decide +kernel
abbrev bc_Md_readDecl : ByteArray := prog_14_method_36_code
abbrev y_Md_readDecl : MethodName := ⟨"KindRoundsModel", "readDecl", "()V"⟩
theorem d_Md_readDecl_0 : decode bc_Md_readDecl 0 = .ok (.aload_n 0, 1) := by decide +kernel
theorem d_Md_readDecl_1 : decode bc_Md_readDecl 1 = .ok (.getfield 255, 3) := by decide +kernel
theorem d_Md_readDecl_4 : decode bc_Md_readDecl 4 = .ok (.ldc2_w 262, 3) := by decide +kernel
theorem d_Md_readDecl_7 : decode bc_Md_readDecl 7 = .ok (.lcmp, 1) := by decide +kernel
theorem d_Md_readDecl_8 : decode bc_Md_readDecl 8 = .ok (.ifCond .ne 7, 3) := by decide +kernel
theorem d_Md_readDecl_11 : decode bc_Md_readDecl 11 = .ok (.iconst 0, 1) := by decide +kernel
theorem d_Md_readDecl_12 : decode bc_Md_readDecl 12 = .ok (.goto 34, 3) := by decide +kernel
theorem d_Md_readDecl_15 : decode bc_Md_readDecl 15 = .ok (.aload_n 0, 1) := by decide +kernel
theorem d_Md_readDecl_16 : decode bc_Md_readDecl 16 = .ok (.getfield 255, 3) := by decide +kernel
theorem d_Md_readDecl_19 : decode bc_Md_readDecl 19 = .ok (.ldc2_w 264, 3) := by decide +kernel
theorem d_Md_readDecl_22 : decode bc_Md_readDecl 22 = .ok (.lcmp, 1) := by decide +kernel
theorem d_Md_readDecl_23 : decode bc_Md_readDecl 23 = .ok (.ifCond .ne 7, 3) := by decide +kernel
theorem d_Md_readDecl_26 : decode bc_Md_readDecl 26 = .ok (.iconst 1, 1) := by decide +kernel
theorem d_Md_readDecl_27 : decode bc_Md_readDecl 27 = .ok (.goto 19, 3) := by decide +kernel
theorem d_Md_readDecl_30 : decode bc_Md_readDecl 30 = .ok (.aload_n 0, 1) := by decide +kernel
theorem d_Md_readDecl_31 : decode bc_Md_readDecl 31 = .ok (.getfield 255, 3) := by decide +kernel
theorem d_Md_readDecl_34 : decode bc_Md_readDecl 34 = .ok (.ldc2_w 266, 3) := by decide +kernel
theorem d_Md_readDecl_37 : decode bc_Md_readDecl 37 = .ok (.lcmp, 1) := by decide +kernel
theorem d_Md_readDecl_38 : decode bc_Md_readDecl 38 = .ok (.ifCond .ne 7, 3) := by decide +kernel
theorem d_Md_readDecl_41 : decode bc_Md_readDecl 41 = .ok (.iconst 2, 1) := by decide +kernel
theorem d_Md_readDecl_42 : decode bc_Md_readDecl 42 = .ok (.goto 4, 3) := by decide +kernel
theorem d_Md_readDecl_45 : decode bc_Md_readDecl 45 = .ok (.iconst 3, 1) := by decide +kernel
theorem d_Md_readDecl_46 : decode bc_Md_readDecl 46 = .ok (.istore_n 1, 1) := by decide +kernel
theorem d_Md_readDecl_47 : decode bc_Md_readDecl 47 = .ok (.aload_n 0, 1) := by decide +kernel
theorem d_Md_readDecl_48 : decode bc_Md_readDecl 48 = .ok (.getfield 241, 3) := by decide +kernel
theorem d_Md_readDecl_51 : decode bc_Md_readDecl 51 = .ok (.iconst 3, 1) := by decide +kernel
theorem d_Md_readDecl_52 : decode bc_Md_readDecl 52 = .ok (.if_icmp .eq 8, 3) := by decide +kernel
theorem d_Md_readDecl_55 : decode bc_Md_readDecl 55 = .ok (.aload_n 0, 1) := by decide +kernel
theorem d_Md_readDecl_56 : decode bc_Md_readDecl 56 = .ok (.invokevirtual 276, 3) := by decide +kernel
theorem d_Md_readDecl_59 : decode bc_Md_readDecl 59 = .ok (.return_, 1) := by decide +kernel
theorem d_Md_readDecl_60 : decode bc_Md_readDecl 60 = .ok (.aload_n 0, 1) := by decide +kernel
theorem d_Md_readDecl_61 : decode bc_Md_readDecl 61 = .ok (.invokevirtual 273, 3) := by decide +kernel
theorem d_Md_readDecl_64 : decode bc_Md_readDecl 64 = .ok (.aload_n 0, 1) := by decide +kernel
theorem d_Md_readDecl_65 : decode bc_Md_readDecl 65 = .ok (.iconst 1, 1) := by decide +kernel
theorem d_Md_readDecl_66 : decode bc_Md_readDecl 66 = .ok (.invokevirtual 358, 3) := by decide +kernel
theorem d_Md_readDecl_69 : decode bc_Md_readDecl 69 = .ok (.ifCond .ne 4, 3) := by decide +kernel
theorem d_Md_readDecl_72 : decode bc_Md_readDecl 72 = .ok (.return_, 1) := by decide +kernel
theorem d_Md_readDecl_73 : decode bc_Md_readDecl 73 = .ok (.iload_n 1, 1) := by decide +kernel
theorem d_Md_readDecl_74 : decode bc_Md_readDecl 74 = .ok (.iconst 3, 1) := by decide +kernel
theorem d_Md_readDecl_75 : decode bc_Md_readDecl 75 = .ok (.if_icmp .ne 8, 3) := by decide +kernel
theorem d_Md_readDecl_78 : decode bc_Md_readDecl 78 = .ok (.aload_n 0, 1) := by decide +kernel
theorem d_Md_readDecl_79 : decode bc_Md_readDecl 79 = .ok (.invokevirtual 361, 3) := by decide +kernel
theorem d_Md_readDecl_82 : decode bc_Md_readDecl 82 = .ok (.return_, 1) := by decide +kernel
theorem d_Md_readDecl_83 : decode bc_Md_readDecl 83 = .ok (.aload_n 0, 1) := by decide +kernel
theorem d_Md_readDecl_84 : decode bc_Md_readDecl 84 = .ok (.getfield 364, 3) := by decide +kernel
theorem d_Md_readDecl_87 : decode bc_Md_readDecl 87 = .ok (.bipush 16, 2) := by decide +kernel
theorem d_Md_readDecl_89 : decode bc_Md_readDecl 89 = .ok (.if_icmp .ne 13, 3) := by decide +kernel
theorem d_Md_readDecl_92 : decode bc_Md_readDecl 92 = .ok (.aload_n 0, 1) := by decide +kernel
theorem d_Md_readDecl_93 : decode bc_Md_readDecl 93 = .ok (.iconst 2, 1) := by decide +kernel
theorem d_Md_readDecl_94 : decode bc_Md_readDecl 94 = .ok (.aload_n 0, 1) := by decide +kernel
theorem d_Md_readDecl_95 : decode bc_Md_readDecl 95 = .ok (.getfield 238, 3) := by decide +kernel
theorem d_Md_readDecl_98 : decode bc_Md_readDecl 98 = .ok (.invokevirtual 251, 3) := by decide +kernel
theorem d_Md_readDecl_101 : decode bc_Md_readDecl 101 = .ok (.return_, 1) := by decide +kernel
theorem d_Md_readDecl_102 : decode bc_Md_readDecl 102 = .ok (.aload_n 0, 1) := by decide +kernel
theorem d_Md_readDecl_103 : decode bc_Md_readDecl 103 = .ok (.aload_n 0, 1) := by decide +kernel
theorem d_Md_readDecl_104 : decode bc_Md_readDecl 104 = .ok (.getfield 364, 3) := by decide +kernel
theorem d_Md_readDecl_107 : decode bc_Md_readDecl 107 = .ok (.putfield 282, 3) := by decide +kernel
theorem d_Md_readDecl_110 : decode bc_Md_readDecl 110 = .ok (.aload_n 0, 1) := by decide +kernel
theorem d_Md_readDecl_111 : decode bc_Md_readDecl 111 = .ok (.dup, 1) := by decide +kernel
theorem d_Md_readDecl_112 : decode bc_Md_readDecl 112 = .ok (.getfield 364, 3) := by decide +kernel
theorem d_Md_readDecl_115 : decode bc_Md_readDecl 115 = .ok (.iconst 1, 1) := by decide +kernel
theorem d_Md_readDecl_116 : decode bc_Md_readDecl 116 = .ok (.iadd, 1) := by decide +kernel
theorem d_Md_readDecl_117 : decode bc_Md_readDecl 117 = .ok (.putfield 364, 3) := by decide +kernel
theorem d_Md_readDecl_120 : decode bc_Md_readDecl 120 = .ok (.aload_n 0, 1) := by decide +kernel
theorem d_Md_readDecl_121 : decode bc_Md_readDecl 121 = .ok (.getfield 112, 3) := by decide +kernel
theorem d_Md_readDecl_124 : decode bc_Md_readDecl 124 = .ok (.aload_n 0, 1) := by decide +kernel
theorem d_Md_readDecl_125 : decode bc_Md_readDecl 125 = .ok (.getfield 282, 3) := by decide +kernel
theorem d_Md_readDecl_128 : decode bc_Md_readDecl 128 = .ok (.iload_n 1, 1) := by decide +kernel
theorem d_Md_readDecl_129 : decode bc_Md_readDecl 129 = .ok (.iastore, 1) := by decide +kernel
theorem d_Md_readDecl_130 : decode bc_Md_readDecl 130 = .ok (.aload_n 0, 1) := by decide +kernel
theorem d_Md_readDecl_131 : decode bc_Md_readDecl 131 = .ok (.getfield 115, 3) := by decide +kernel
theorem d_Md_readDecl_134 : decode bc_Md_readDecl 134 = .ok (.aload_n 0, 1) := by decide +kernel
theorem d_Md_readDecl_135 : decode bc_Md_readDecl 135 = .ok (.getfield 282, 3) := by decide +kernel
theorem d_Md_readDecl_138 : decode bc_Md_readDecl 138 = .ok (.aload_n 0, 1) := by decide +kernel
theorem d_Md_readDecl_139 : decode bc_Md_readDecl 139 = .ok (.getfield 255, 3) := by decide +kernel
theorem d_Md_readDecl_142 : decode bc_Md_readDecl 142 = .ok (.lastore, 1) := by decide +kernel
theorem d_Md_readDecl_143 : decode bc_Md_readDecl 143 = .ok (.aload_n 0, 1) := by decide +kernel
theorem d_Md_readDecl_144 : decode bc_Md_readDecl 144 = .ok (.getfield 118, 3) := by decide +kernel
theorem d_Md_readDecl_147 : decode bc_Md_readDecl 147 = .ok (.aload_n 0, 1) := by decide +kernel
theorem d_Md_readDecl_148 : decode bc_Md_readDecl 148 = .ok (.getfield 282, 3) := by decide +kernel
theorem d_Md_readDecl_151 : decode bc_Md_readDecl 151 = .ok (.aload_n 0, 1) := by decide +kernel
theorem d_Md_readDecl_152 : decode bc_Md_readDecl 152 = .ok (.getfield 238, 3) := by decide +kernel
theorem d_Md_readDecl_155 : decode bc_Md_readDecl 155 = .ok (.iastore, 1) := by decide +kernel
theorem d_Md_readDecl_156 : decode bc_Md_readDecl 156 = .ok (.aload_n 0, 1) := by decide +kernel
theorem d_Md_readDecl_157 : decode bc_Md_readDecl 157 = .ok (.getfield 121, 3) := by decide +kernel
theorem d_Md_readDecl_160 : decode bc_Md_readDecl 160 = .ok (.aload_n 0, 1) := by decide +kernel
theorem d_Md_readDecl_161 : decode bc_Md_readDecl 161 = .ok (.getfield 282, 3) := by decide +kernel
theorem d_Md_readDecl_164 : decode bc_Md_readDecl 164 = .ok (.iconst 0, 1) := by decide +kernel
theorem d_Md_readDecl_165 : decode bc_Md_readDecl 165 = .ok (.iastore, 1) := by decide +kernel
theorem d_Md_readDecl_166 : decode bc_Md_readDecl 166 = .ok (.aload_n 0, 1) := by decide +kernel
theorem d_Md_readDecl_167 : decode bc_Md_readDecl 167 = .ok (.getfield 127, 3) := by decide +kernel
theorem d_Md_readDecl_170 : decode bc_Md_readDecl 170 = .ok (.aload_n 0, 1) := by decide +kernel
theorem d_Md_readDecl_171 : decode bc_Md_readDecl 171 = .ok (.getfield 282, 3) := by decide +kernel
theorem d_Md_readDecl_174 : decode bc_Md_readDecl 174 = .ok (.iconst 0, 1) := by decide +kernel
theorem d_Md_readDecl_175 : decode bc_Md_readDecl 175 = .ok (.iastore, 1) := by decide +kernel
theorem d_Md_readDecl_176 : decode bc_Md_readDecl 176 = .ok (.aload_n 0, 1) := by decide +kernel
theorem d_Md_readDecl_177 : decode bc_Md_readDecl 177 = .ok (.getfield 130, 3) := by decide +kernel
theorem d_Md_readDecl_180 : decode bc_Md_readDecl 180 = .ok (.aload_n 0, 1) := by decide +kernel
theorem d_Md_readDecl_181 : decode bc_Md_readDecl 181 = .ok (.getfield 282, 3) := by decide +kernel
theorem d_Md_readDecl_184 : decode bc_Md_readDecl 184 = .ok (.aload_n 0, 1) := by decide +kernel
theorem d_Md_readDecl_185 : decode bc_Md_readDecl 185 = .ok (.getfield 285, 3) := by decide +kernel
theorem d_Md_readDecl_188 : decode bc_Md_readDecl 188 = .ok (.iastore, 1) := by decide +kernel
theorem d_Md_readDecl_189 : decode bc_Md_readDecl 189 = .ok (.aload_n 0, 1) := by decide +kernel
theorem d_Md_readDecl_190 : decode bc_Md_readDecl 190 = .ok (.iconst 0, 1) := by decide +kernel
theorem d_Md_readDecl_191 : decode bc_Md_readDecl 191 = .ok (.iconst (-1), 1) := by decide +kernel
theorem d_Md_readDecl_192 : decode bc_Md_readDecl 192 = .ok (.invokevirtual 313, 3) := by decide +kernel
theorem d_Md_readDecl_195 : decode bc_Md_readDecl 195 = .ok (.aload_n 0, 1) := by decide +kernel
theorem d_Md_readDecl_196 : decode bc_Md_readDecl 196 = .ok (.invokevirtual 273, 3) := by decide +kernel
theorem d_Md_readDecl_199 : decode bc_Md_readDecl 199 = .ok (.iload_n 1, 1) := by decide +kernel
theorem d_Md_readDecl_200 : decode bc_Md_readDecl 200 = .ok (.iconst 2, 1) := by decide +kernel
theorem d_Md_readDecl_201 : decode bc_Md_readDecl 201 = .ok (.if_icmp .ne 10, 3) := by decide +kernel
theorem d_Md_readDecl_204 : decode bc_Md_readDecl 204 = .ok (.aload_n 0, 1) := by decide +kernel
theorem d_Md_readDecl_205 : decode bc_Md_readDecl 205 = .ok (.invokevirtual 367, 3) := by decide +kernel
theorem d_Md_readDecl_208 : decode bc_Md_readDecl 208 = .ok (.goto 8, 3) := by decide +kernel
theorem d_Md_readDecl_211 : decode bc_Md_readDecl 211 = .ok (.aload_n 0, 1) := by decide +kernel
theorem d_Md_readDecl_212 : decode bc_Md_readDecl 212 = .ok (.iload_n 1, 1) := by decide +kernel
theorem d_Md_readDecl_213 : decode bc_Md_readDecl 213 = .ok (.invokevirtual 370, 3) := by decide +kernel
theorem d_Md_readDecl_216 : decode bc_Md_readDecl 216 = .ok (.aload_n 0, 1) := by decide +kernel
theorem d_Md_readDecl_217 : decode bc_Md_readDecl 217 = .ok (.getfield 133, 3) := by decide +kernel
theorem d_Md_readDecl_220 : decode bc_Md_readDecl 220 = .ok (.aload_n 0, 1) := by decide +kernel
theorem d_Md_readDecl_221 : decode bc_Md_readDecl 221 = .ok (.getfield 282, 3) := by decide +kernel
theorem d_Md_readDecl_224 : decode bc_Md_readDecl 224 = .ok (.aload_n 0, 1) := by decide +kernel
theorem d_Md_readDecl_225 : decode bc_Md_readDecl 225 = .ok (.getfield 285, 3) := by decide +kernel
theorem d_Md_readDecl_228 : decode bc_Md_readDecl 228 = .ok (.iastore, 1) := by decide +kernel
theorem d_Md_readDecl_229 : decode bc_Md_readDecl 229 = .ok (.return_, 1) := by decide +kernel
abbrev bc_Md_readWish : ByteArray := prog_14_method_37_code
abbrev y_Md_readWish : MethodName := ⟨"KindRoundsModel", "readWish", "()V"⟩
theorem d_Md_readWish_0 : decode bc_Md_readWish 0 = .ok (.aload_n 0, 1) := by decide +kernel
theorem d_Md_readWish_1 : decode bc_Md_readWish 1 = .ok (.iconst (-1), 1) := by decide +kernel
theorem d_Md_readWish_2 : decode bc_Md_readWish 2 = .ok (.putfield 282, 3) := by decide +kernel
theorem d_Md_readWish_5 : decode bc_Md_readWish 5 = .ok (.aload_n 0, 1) := by decide +kernel
theorem d_Md_readWish_6 : decode bc_Md_readWish 6 = .ok (.iconst 4, 1) := by decide +kernel
theorem d_Md_readWish_7 : decode bc_Md_readWish 7 = .ok (.iconst (-1), 1) := by decide +kernel
theorem d_Md_readWish_8 : decode bc_Md_readWish 8 = .ok (.invokevirtual 313, 3) := by decide +kernel
theorem d_Md_readWish_11 : decode bc_Md_readWish 11 = .ok (.aload_n 0, 1) := by decide +kernel
theorem d_Md_readWish_12 : decode bc_Md_readWish 12 = .ok (.getfield 139, 3) := by decide +kernel
theorem d_Md_readWish_15 : decode bc_Md_readWish 15 = .ok (.aload_n 0, 1) := by decide +kernel
theorem d_Md_readWish_16 : decode bc_Md_readWish 16 = .ok (.getfield 373, 3) := by decide +kernel
theorem d_Md_readWish_19 : decode bc_Md_readWish 19 = .ok (.aload_n 0, 1) := by decide +kernel
theorem d_Md_readWish_20 : decode bc_Md_readWish 20 = .ok (.getfield 255, 3) := by decide +kernel
theorem d_Md_readWish_23 : decode bc_Md_readWish 23 = .ok (.lastore, 1) := by decide +kernel
theorem d_Md_readWish_24 : decode bc_Md_readWish 24 = .ok (.aload_n 0, 1) := by decide +kernel
theorem d_Md_readWish_25 : decode bc_Md_readWish 25 = .ok (.getfield 142, 3) := by decide +kernel
theorem d_Md_readWish_28 : decode bc_Md_readWish 28 = .ok (.aload_n 0, 1) := by decide +kernel
theorem d_Md_readWish_29 : decode bc_Md_readWish 29 = .ok (.getfield 373, 3) := by decide +kernel
theorem d_Md_readWish_32 : decode bc_Md_readWish 32 = .ok (.aload_n 0, 1) := by decide +kernel
theorem d_Md_readWish_33 : decode bc_Md_readWish 33 = .ok (.getfield 238, 3) := by decide +kernel
theorem d_Md_readWish_36 : decode bc_Md_readWish 36 = .ok (.iastore, 1) := by decide +kernel
theorem d_Md_readWish_37 : decode bc_Md_readWish 37 = .ok (.aload_n 0, 1) := by decide +kernel
theorem d_Md_readWish_38 : decode bc_Md_readWish 38 = .ok (.invokevirtual 273, 3) := by decide +kernel
theorem d_Md_readWish_41 : decode bc_Md_readWish 41 = .ok (.aload_n 0, 1) := by decide +kernel
theorem d_Md_readWish_42 : decode bc_Md_readWish 42 = .ok (.sipush 1001, 3) := by decide +kernel
theorem d_Md_readWish_45 : decode bc_Md_readWish 45 = .ok (.invokevirtual 326, 3) := by decide +kernel
theorem d_Md_readWish_48 : decode bc_Md_readWish 48 = .ok (.aload_n 0, 1) := by decide +kernel
theorem d_Md_readWish_49 : decode bc_Md_readWish 49 = .ok (.getfield 221, 3) := by decide +kernel
theorem d_Md_readWish_52 : decode bc_Md_readWish 52 = .ok (.ifCond .ne 16, 3) := by decide +kernel
theorem d_Md_readWish_55 : decode bc_Md_readWish 55 = .ok (.aload_n 0, 1) := by decide +kernel
theorem d_Md_readWish_56 : decode bc_Md_readWish 56 = .ok (.getfield 145, 3) := by decide +kernel
theorem d_Md_readWish_59 : decode bc_Md_readWish 59 = .ok (.aload_n 0, 1) := by decide +kernel
theorem d_Md_readWish_60 : decode bc_Md_readWish 60 = .ok (.getfield 373, 3) := by decide +kernel
theorem d_Md_readWish_63 : decode bc_Md_readWish 63 = .ok (.aload_n 0, 1) := by decide +kernel
theorem d_Md_readWish_64 : decode bc_Md_readWish 64 = .ok (.invokevirtual 376, 3) := by decide +kernel
theorem d_Md_readWish_67 : decode bc_Md_readWish 67 = .ok (.iastore, 1) := by decide +kernel
theorem d_Md_readWish_68 : decode bc_Md_readWish 68 = .ok (.aload_n 0, 1) := by decide +kernel
theorem d_Md_readWish_69 : decode bc_Md_readWish 69 = .ok (.dup, 1) := by decide +kernel
theorem d_Md_readWish_70 : decode bc_Md_readWish 70 = .ok (.getfield 373, 3) := by decide +kernel
theorem d_Md_readWish_73 : decode bc_Md_readWish 73 = .ok (.iconst 1, 1) := by decide +kernel
theorem d_Md_readWish_74 : decode bc_Md_readWish 74 = .ok (.iadd, 1) := by decide +kernel
theorem d_Md_readWish_75 : decode bc_Md_readWish 75 = .ok (.putfield 373, 3) := by decide +kernel
theorem d_Md_readWish_78 : decode bc_Md_readWish 78 = .ok (.return_, 1) := by decide +kernel
abbrev bc_Md_readParam : ByteArray := prog_14_method_38_code
abbrev y_Md_readParam : MethodName := ⟨"KindRoundsModel", "readParam", "()V"⟩
theorem d_Md_readParam_0 : decode bc_Md_readParam 0 = .ok (.aload_n 0, 1) := by decide +kernel
theorem d_Md_readParam_1 : decode bc_Md_readParam 1 = .ok (.getfield 121, 3) := by decide +kernel
theorem d_Md_readParam_4 : decode bc_Md_readParam 4 = .ok (.aload_n 0, 1) := by decide +kernel
theorem d_Md_readParam_5 : decode bc_Md_readParam 5 = .ok (.getfield 282, 3) := by decide +kernel
theorem d_Md_readParam_8 : decode bc_Md_readParam 8 = .ok (.iaload, 1) := by decide +kernel
theorem d_Md_readParam_9 : decode bc_Md_readParam 9 = .ok (.iconst 3, 1) := by decide +kernel
theorem d_Md_readParam_10 : decode bc_Md_readParam 10 = .ok (.if_icmp .ne 13, 3) := by decide +kernel
theorem d_Md_readParam_13 : decode bc_Md_readParam 13 = .ok (.aload_n 0, 1) := by decide +kernel
theorem d_Md_readParam_14 : decode bc_Md_readParam 14 = .ok (.iconst 2, 1) := by decide +kernel
theorem d_Md_readParam_15 : decode bc_Md_readParam 15 = .ok (.aload_n 0, 1) := by decide +kernel
theorem d_Md_readParam_16 : decode bc_Md_readParam 16 = .ok (.getfield 238, 3) := by decide +kernel
theorem d_Md_readParam_19 : decode bc_Md_readParam 19 = .ok (.invokevirtual 251, 3) := by decide +kernel
theorem d_Md_readParam_22 : decode bc_Md_readParam 22 = .ok (.return_, 1) := by decide +kernel
theorem d_Md_readParam_23 : decode bc_Md_readParam 23 = .ok (.aload_n 0, 1) := by decide +kernel
theorem d_Md_readParam_24 : decode bc_Md_readParam 24 = .ok (.iconst 1, 1) := by decide +kernel
theorem d_Md_readParam_25 : decode bc_Md_readParam 25 = .ok (.iconst (-1), 1) := by decide +kernel
theorem d_Md_readParam_26 : decode bc_Md_readParam 26 = .ok (.invokevirtual 313, 3) := by decide +kernel
theorem d_Md_readParam_29 : decode bc_Md_readParam 29 = .ok (.aload_n 0, 1) := by decide +kernel
theorem d_Md_readParam_30 : decode bc_Md_readParam 30 = .ok (.getfield 124, 3) := by decide +kernel
theorem d_Md_readParam_33 : decode bc_Md_readParam 33 = .ok (.iconst 3, 1) := by decide +kernel
theorem d_Md_readParam_34 : decode bc_Md_readParam 34 = .ok (.aload_n 0, 1) := by decide +kernel
theorem d_Md_readParam_35 : decode bc_Md_readParam 35 = .ok (.getfield 282, 3) := by decide +kernel
theorem d_Md_readParam_38 : decode bc_Md_readParam 38 = .ok (.imul, 1) := by decide +kernel
theorem d_Md_readParam_39 : decode bc_Md_readParam 39 = .ok (.aload_n 0, 1) := by decide +kernel
theorem d_Md_readParam_40 : decode bc_Md_readParam 40 = .ok (.getfield 121, 3) := by decide +kernel
theorem d_Md_readParam_43 : decode bc_Md_readParam 43 = .ok (.aload_n 0, 1) := by decide +kernel
theorem d_Md_readParam_44 : decode bc_Md_readParam 44 = .ok (.getfield 282, 3) := by decide +kernel
theorem d_Md_readParam_47 : decode bc_Md_readParam 47 = .ok (.iaload, 1) := by decide +kernel
theorem d_Md_readParam_48 : decode bc_Md_readParam 48 = .ok (.iadd, 1) := by decide +kernel
theorem d_Md_readParam_49 : decode bc_Md_readParam 49 = .ok (.aload_n 0, 1) := by decide +kernel
theorem d_Md_readParam_50 : decode bc_Md_readParam 50 = .ok (.getfield 255, 3) := by decide +kernel
theorem d_Md_readParam_53 : decode bc_Md_readParam 53 = .ok (.lastore, 1) := by decide +kernel
theorem d_Md_readParam_54 : decode bc_Md_readParam 54 = .ok (.aload_n 0, 1) := by decide +kernel
theorem d_Md_readParam_55 : decode bc_Md_readParam 55 = .ok (.getfield 121, 3) := by decide +kernel
theorem d_Md_readParam_58 : decode bc_Md_readParam 58 = .ok (.aload_n 0, 1) := by decide +kernel
theorem d_Md_readParam_59 : decode bc_Md_readParam 59 = .ok (.getfield 282, 3) := by decide +kernel
theorem d_Md_readParam_62 : decode bc_Md_readParam 62 = .ok (.dup2, 1) := by decide +kernel
theorem d_Md_readParam_63 : decode bc_Md_readParam 63 = .ok (.iaload, 1) := by decide +kernel
theorem d_Md_readParam_64 : decode bc_Md_readParam 64 = .ok (.iconst 1, 1) := by decide +kernel
theorem d_Md_readParam_65 : decode bc_Md_readParam 65 = .ok (.iadd, 1) := by decide +kernel
theorem d_Md_readParam_66 : decode bc_Md_readParam 66 = .ok (.iastore, 1) := by decide +kernel
theorem d_Md_readParam_67 : decode bc_Md_readParam 67 = .ok (.aload_n 0, 1) := by decide +kernel
theorem d_Md_readParam_68 : decode bc_Md_readParam 68 = .ok (.invokevirtual 273, 3) := by decide +kernel
theorem d_Md_readParam_71 : decode bc_Md_readParam 71 = .ok (.return_, 1) := by decide +kernel
abbrev bc_Md_readSides : ByteArray := prog_14_method_39_code
abbrev y_Md_readSides : MethodName := ⟨"KindRoundsModel", "readSides", "(I)V"⟩
theorem d_Md_readSides_0 : decode bc_Md_readSides 0 = .ok (.aload_n 0, 1) := by decide +kernel
theorem d_Md_readSides_1 : decode bc_Md_readSides 1 = .ok (.getfield 221, 3) := by decide +kernel
theorem d_Md_readSides_4 : decode bc_Md_readSides 4 = .ok (.ifCond .ne 18, 3) := by decide +kernel
theorem d_Md_readSides_7 : decode bc_Md_readSides 7 = .ok (.aload_n 0, 1) := by decide +kernel
theorem d_Md_readSides_8 : decode bc_Md_readSides 8 = .ok (.getfield 241, 3) := by decide +kernel
theorem d_Md_readSides_11 : decode bc_Md_readSides 11 = .ok (.iconst 2, 1) := by decide +kernel
theorem d_Md_readSides_12 : decode bc_Md_readSides 12 = .ok (.if_icmp .ne 10, 3) := by decide +kernel
theorem d_Md_readSides_15 : decode bc_Md_readSides 15 = .ok (.aload_n 0, 1) := by decide +kernel
theorem d_Md_readSides_16 : decode bc_Md_readSides 16 = .ok (.invokevirtual 380, 3) := by decide +kernel
theorem d_Md_readSides_19 : decode bc_Md_readSides 19 = .ok (.goto (-19), 3) := by decide +kernel
theorem d_Md_readSides_22 : decode bc_Md_readSides 22 = .ok (.aload_n 0, 1) := by decide +kernel
theorem d_Md_readSides_23 : decode bc_Md_readSides 23 = .ok (.bipush 61, 2) := by decide +kernel
theorem d_Md_readSides_25 : decode bc_Md_readSides 25 = .ok (.invokevirtual 326, 3) := by decide +kernel
theorem d_Md_readSides_28 : decode bc_Md_readSides 28 = .ok (.aload_n 0, 1) := by decide +kernel
theorem d_Md_readSides_29 : decode bc_Md_readSides 29 = .ok (.getfield 221, 3) := by decide +kernel
theorem d_Md_readSides_32 : decode bc_Md_readSides 32 = .ok (.ifCond .le 4, 3) := by decide +kernel
theorem d_Md_readSides_35 : decode bc_Md_readSides 35 = .ok (.return_, 1) := by decide +kernel
theorem d_Md_readSides_36 : decode bc_Md_readSides 36 = .ok (.iload_n 1, 1) := by decide +kernel
theorem d_Md_readSides_37 : decode bc_Md_readSides 37 = .ok (.iconst 1, 1) := by decide +kernel
theorem d_Md_readSides_38 : decode bc_Md_readSides 38 = .ok (.if_icmp .ne 29, 3) := by decide +kernel
theorem d_Md_readSides_41 : decode bc_Md_readSides 41 = .ok (.aload_n 0, 1) := by decide +kernel
theorem d_Md_readSides_42 : decode bc_Md_readSides 42 = .ok (.invokevirtual 383, 3) := by decide +kernel
theorem d_Md_readSides_45 : decode bc_Md_readSides 45 = .ok (.istore_n 2, 1) := by decide +kernel
theorem d_Md_readSides_46 : decode bc_Md_readSides 46 = .ok (.aload_n 0, 1) := by decide +kernel
theorem d_Md_readSides_47 : decode bc_Md_readSides 47 = .ok (.getfield 136, 3) := by decide +kernel
theorem d_Md_readSides_50 : decode bc_Md_readSides 50 = .ok (.aload_n 0, 1) := by decide +kernel
theorem d_Md_readSides_51 : decode bc_Md_readSides 51 = .ok (.getfield 282, 3) := by decide +kernel
theorem d_Md_readSides_54 : decode bc_Md_readSides 54 = .ok (.iload_n 2, 1) := by decide +kernel
theorem d_Md_readSides_55 : decode bc_Md_readSides 55 = .ok (.iastore, 1) := by decide +kernel
theorem d_Md_readSides_56 : decode bc_Md_readSides 56 = .ok (.aload_n 0, 1) := by decide +kernel
theorem d_Md_readSides_57 : decode bc_Md_readSides 57 = .ok (.iconst 2, 1) := by decide +kernel
theorem d_Md_readSides_58 : decode bc_Md_readSides 58 = .ok (.iload_n 2, 1) := by decide +kernel
theorem d_Md_readSides_59 : decode bc_Md_readSides 59 = .ok (.aload_n 0, 1) := by decide +kernel
theorem d_Md_readSides_60 : decode bc_Md_readSides 60 = .ok (.getfield 332, 3) := by decide +kernel
theorem d_Md_readSides_63 : decode bc_Md_readSides 63 = .ok (.invokevirtual 303, 3) := by decide +kernel
theorem d_Md_readSides_66 : decode bc_Md_readSides 66 = .ok (.return_, 1) := by decide +kernel
theorem d_Md_readSides_67 : decode bc_Md_readSides 67 = .ok (.aload_n 0, 1) := by decide +kernel
theorem d_Md_readSides_68 : decode bc_Md_readSides 68 = .ok (.invokevirtual 386, 3) := by decide +kernel
theorem d_Md_readSides_71 : decode bc_Md_readSides 71 = .ok (.aload_n 0, 1) := by decide +kernel
theorem d_Md_readSides_72 : decode bc_Md_readSides 72 = .ok (.bipush 124, 2) := by decide +kernel
theorem d_Md_readSides_74 : decode bc_Md_readSides 74 = .ok (.invokevirtual 270, 3) := by decide +kernel
theorem d_Md_readSides_77 : decode bc_Md_readSides 77 = .ok (.ifCond .eq 14, 3) := by decide +kernel
theorem d_Md_readSides_80 : decode bc_Md_readSides 80 = .ok (.aload_n 0, 1) := by decide +kernel
theorem d_Md_readSides_81 : decode bc_Md_readSides 81 = .ok (.invokevirtual 273, 3) := by decide +kernel
theorem d_Md_readSides_84 : decode bc_Md_readSides 84 = .ok (.aload_n 0, 1) := by decide +kernel
theorem d_Md_readSides_85 : decode bc_Md_readSides 85 = .ok (.invokevirtual 386, 3) := by decide +kernel
theorem d_Md_readSides_88 : decode bc_Md_readSides 88 = .ok (.goto (-17), 3) := by decide +kernel
theorem d_Md_readSides_91 : decode bc_Md_readSides 91 = .ok (.return_, 1) := by decide +kernel
abbrev bc_Md_readCon : ByteArray := prog_14_method_40_code
abbrev y_Md_readCon : MethodName := ⟨"KindRoundsModel", "readCon", "()V"⟩
theorem d_Md_readCon_0 : decode bc_Md_readCon 0 = .ok (.aload_n 0, 1) := by decide +kernel
theorem d_Md_readCon_1 : decode bc_Md_readCon 1 = .ok (.iconst 1, 1) := by decide +kernel
theorem d_Md_readCon_2 : decode bc_Md_readCon 2 = .ok (.invokevirtual 358, 3) := by decide +kernel
theorem d_Md_readCon_5 : decode bc_Md_readCon 5 = .ok (.ifCond .ne 4, 3) := by decide +kernel
theorem d_Md_readCon_8 : decode bc_Md_readCon 8 = .ok (.return_, 1) := by decide +kernel
theorem d_Md_readCon_9 : decode bc_Md_readCon 9 = .ok (.aload_n 0, 1) := by decide +kernel
theorem d_Md_readCon_10 : decode bc_Md_readCon 10 = .ok (.getfield 127, 3) := by decide +kernel
theorem d_Md_readCon_13 : decode bc_Md_readCon 13 = .ok (.aload_n 0, 1) := by decide +kernel
theorem d_Md_readCon_14 : decode bc_Md_readCon 14 = .ok (.getfield 282, 3) := by decide +kernel
theorem d_Md_readCon_17 : decode bc_Md_readCon 17 = .ok (.iaload, 1) := by decide +kernel
theorem d_Md_readCon_18 : decode bc_Md_readCon 18 = .ok (.bipush 6, 2) := by decide +kernel
theorem d_Md_readCon_20 : decode bc_Md_readCon 20 = .ok (.if_icmp .ne 13, 3) := by decide +kernel
theorem d_Md_readCon_23 : decode bc_Md_readCon 23 = .ok (.aload_n 0, 1) := by decide +kernel
theorem d_Md_readCon_24 : decode bc_Md_readCon 24 = .ok (.iconst 2, 1) := by decide +kernel
theorem d_Md_readCon_25 : decode bc_Md_readCon 25 = .ok (.aload_n 0, 1) := by decide +kernel
theorem d_Md_readCon_26 : decode bc_Md_readCon 26 = .ok (.getfield 238, 3) := by decide +kernel
theorem d_Md_readCon_29 : decode bc_Md_readCon 29 = .ok (.invokevirtual 251, 3) := by decide +kernel
theorem d_Md_readCon_32 : decode bc_Md_readCon 32 = .ok (.return_, 1) := by decide +kernel
theorem d_Md_readCon_33 : decode bc_Md_readCon 33 = .ok (.aload_n 0, 1) := by decide +kernel
theorem d_Md_readCon_34 : decode bc_Md_readCon 34 = .ok (.getfield 127, 3) := by decide +kernel
theorem d_Md_readCon_37 : decode bc_Md_readCon 37 = .ok (.aload_n 0, 1) := by decide +kernel
theorem d_Md_readCon_38 : decode bc_Md_readCon 38 = .ok (.getfield 282, 3) := by decide +kernel
theorem d_Md_readCon_41 : decode bc_Md_readCon 41 = .ok (.dup2, 1) := by decide +kernel
theorem d_Md_readCon_42 : decode bc_Md_readCon 42 = .ok (.iaload, 1) := by decide +kernel
theorem d_Md_readCon_43 : decode bc_Md_readCon 43 = .ok (.iconst 1, 1) := by decide +kernel
theorem d_Md_readCon_44 : decode bc_Md_readCon 44 = .ok (.iadd, 1) := by decide +kernel
theorem d_Md_readCon_45 : decode bc_Md_readCon 45 = .ok (.iastore, 1) := by decide +kernel
theorem d_Md_readCon_46 : decode bc_Md_readCon 46 = .ok (.aload_n 0, 1) := by decide +kernel
theorem d_Md_readCon_47 : decode bc_Md_readCon 47 = .ok (.iconst 2, 1) := by decide +kernel
theorem d_Md_readCon_48 : decode bc_Md_readCon 48 = .ok (.iconst (-1), 1) := by decide +kernel
theorem d_Md_readCon_49 : decode bc_Md_readCon 49 = .ok (.invokevirtual 313, 3) := by decide +kernel
theorem d_Md_readCon_52 : decode bc_Md_readCon 52 = .ok (.aload_n 0, 1) := by decide +kernel
theorem d_Md_readCon_53 : decode bc_Md_readCon 53 = .ok (.invokevirtual 273, 3) := by decide +kernel
theorem d_Md_readCon_56 : decode bc_Md_readCon 56 = .ok (.aload_n 0, 1) := by decide +kernel
theorem d_Md_readCon_57 : decode bc_Md_readCon 57 = .ok (.invokevirtual 335, 3) := by decide +kernel
theorem d_Md_readCon_60 : decode bc_Md_readCon 60 = .ok (.ifCond .eq 21, 3) := by decide +kernel
theorem d_Md_readCon_63 : decode bc_Md_readCon 63 = .ok (.aload_n 0, 1) := by decide +kernel
theorem d_Md_readCon_64 : decode bc_Md_readCon 64 = .ok (.invokevirtual 389, 3) := by decide +kernel
theorem d_Md_readCon_67 : decode bc_Md_readCon 67 = .ok (.istore_n 1, 1) := by decide +kernel
theorem d_Md_readCon_68 : decode bc_Md_readCon 68 = .ok (.aload_n 0, 1) := by decide +kernel
theorem d_Md_readCon_69 : decode bc_Md_readCon 69 = .ok (.iconst 1, 1) := by decide +kernel
theorem d_Md_readCon_70 : decode bc_Md_readCon 70 = .ok (.iload_n 1, 1) := by decide +kernel
theorem d_Md_readCon_71 : decode bc_Md_readCon 71 = .ok (.aload_n 0, 1) := by decide +kernel
theorem d_Md_readCon_72 : decode bc_Md_readCon 72 = .ok (.getfield 332, 3) := by decide +kernel
theorem d_Md_readCon_75 : decode bc_Md_readCon 75 = .ok (.invokevirtual 303, 3) := by decide +kernel
theorem d_Md_readCon_78 : decode bc_Md_readCon 78 = .ok (.goto (-22), 3) := by decide +kernel
theorem d_Md_readCon_81 : decode bc_Md_readCon 81 = .ok (.return_, 1) := by decide +kernel
abbrev bc_Md_readClass : ByteArray := prog_14_method_41_code
abbrev y_Md_readClass : MethodName := ⟨"KindRoundsModel", "readClass", "()V"⟩
theorem d_Md_readClass_0 : decode bc_Md_readClass 0 = .ok (.aload_n 0, 1) := by decide +kernel
theorem d_Md_readClass_1 : decode bc_Md_readClass 1 = .ok (.iconst 2, 1) := by decide +kernel
theorem d_Md_readClass_2 : decode bc_Md_readClass 2 = .ok (.invokevirtual 358, 3) := by decide +kernel
theorem d_Md_readClass_5 : decode bc_Md_readClass 5 = .ok (.ifCond .ne 4, 3) := by decide +kernel
theorem d_Md_readClass_8 : decode bc_Md_readClass 8 = .ok (.return_, 1) := by decide +kernel
theorem d_Md_readClass_9 : decode bc_Md_readClass 9 = .ok (.aload_n 0, 1) := by decide +kernel
theorem d_Md_readClass_10 : decode bc_Md_readClass 10 = .ok (.invokevirtual 380, 3) := by decide +kernel
theorem d_Md_readClass_13 : decode bc_Md_readClass 13 = .ok (.aload_n 0, 1) := by decide +kernel
theorem d_Md_readClass_14 : decode bc_Md_readClass 14 = .ok (.bipush 123, 2) := by decide +kernel
theorem d_Md_readClass_16 : decode bc_Md_readClass 16 = .ok (.invokevirtual 326, 3) := by decide +kernel
theorem d_Md_readClass_19 : decode bc_Md_readClass 19 = .ok (.aload_n 0, 1) := by decide +kernel
theorem d_Md_readClass_20 : decode bc_Md_readClass 20 = .ok (.getfield 221, 3) := by decide +kernel
theorem d_Md_readClass_23 : decode bc_Md_readClass 23 = .ok (.ifCond .ne 119, 3) := by decide +kernel
theorem d_Md_readClass_26 : decode bc_Md_readClass 26 = .ok (.aload_n 0, 1) := by decide +kernel
theorem d_Md_readClass_27 : decode bc_Md_readClass 27 = .ok (.getfield 241, 3) := by decide +kernel
theorem d_Md_readClass_30 : decode bc_Md_readClass 30 = .ok (.iconst 2, 1) := by decide +kernel
theorem d_Md_readClass_31 : decode bc_Md_readClass 31 = .ok (.if_icmp .ne 111, 3) := by decide +kernel
theorem d_Md_readClass_34 : decode bc_Md_readClass 34 = .ok (.aload_n 0, 1) := by decide +kernel
theorem d_Md_readClass_35 : decode bc_Md_readClass 35 = .ok (.getfield 127, 3) := by decide +kernel
theorem d_Md_readClass_38 : decode bc_Md_readClass 38 = .ok (.aload_n 0, 1) := by decide +kernel
theorem d_Md_readClass_39 : decode bc_Md_readClass 39 = .ok (.getfield 282, 3) := by decide +kernel
theorem d_Md_readClass_42 : decode bc_Md_readClass 42 = .ok (.iaload, 1) := by decide +kernel
theorem d_Md_readClass_43 : decode bc_Md_readClass 43 = .ok (.iconst 4, 1) := by decide +kernel
theorem d_Md_readClass_44 : decode bc_Md_readClass 44 = .ok (.if_icmp .ne 13, 3) := by decide +kernel
theorem d_Md_readClass_47 : decode bc_Md_readClass 47 = .ok (.aload_n 0, 1) := by decide +kernel
theorem d_Md_readClass_48 : decode bc_Md_readClass 48 = .ok (.iconst 2, 1) := by decide +kernel
theorem d_Md_readClass_49 : decode bc_Md_readClass 49 = .ok (.aload_n 0, 1) := by decide +kernel
theorem d_Md_readClass_50 : decode bc_Md_readClass 50 = .ok (.getfield 238, 3) := by decide +kernel
theorem d_Md_readClass_53 : decode bc_Md_readClass 53 = .ok (.invokevirtual 251, 3) := by decide +kernel
theorem d_Md_readClass_56 : decode bc_Md_readClass 56 = .ok (.return_, 1) := by decide +kernel
theorem d_Md_readClass_57 : decode bc_Md_readClass 57 = .ok (.aload_n 0, 1) := by decide +kernel
theorem d_Md_readClass_58 : decode bc_Md_readClass 58 = .ok (.getfield 127, 3) := by decide +kernel
theorem d_Md_readClass_61 : decode bc_Md_readClass 61 = .ok (.aload_n 0, 1) := by decide +kernel
theorem d_Md_readClass_62 : decode bc_Md_readClass 62 = .ok (.getfield 282, 3) := by decide +kernel
theorem d_Md_readClass_65 : decode bc_Md_readClass 65 = .ok (.dup2, 1) := by decide +kernel
theorem d_Md_readClass_66 : decode bc_Md_readClass 66 = .ok (.iaload, 1) := by decide +kernel
theorem d_Md_readClass_67 : decode bc_Md_readClass 67 = .ok (.iconst 1, 1) := by decide +kernel
theorem d_Md_readClass_68 : decode bc_Md_readClass 68 = .ok (.iadd, 1) := by decide +kernel
theorem d_Md_readClass_69 : decode bc_Md_readClass 69 = .ok (.iastore, 1) := by decide +kernel
theorem d_Md_readClass_70 : decode bc_Md_readClass 70 = .ok (.aload_n 0, 1) := by decide +kernel
theorem d_Md_readClass_71 : decode bc_Md_readClass 71 = .ok (.iconst 3, 1) := by decide +kernel
theorem d_Md_readClass_72 : decode bc_Md_readClass 72 = .ok (.iconst (-1), 1) := by decide +kernel
theorem d_Md_readClass_73 : decode bc_Md_readClass 73 = .ok (.invokevirtual 313, 3) := by decide +kernel
theorem d_Md_readClass_76 : decode bc_Md_readClass 76 = .ok (.aload_n 0, 1) := by decide +kernel
theorem d_Md_readClass_77 : decode bc_Md_readClass 77 = .ok (.aload_n 0, 1) := by decide +kernel
theorem d_Md_readClass_78 : decode bc_Md_readClass 78 = .ok (.getfield 392, 3) := by decide +kernel
theorem d_Md_readClass_81 : decode bc_Md_readClass 81 = .ok (.putfield 310, 3) := by decide +kernel
theorem d_Md_readClass_84 : decode bc_Md_readClass 84 = .ok (.aload_n 0, 1) := by decide +kernel
theorem d_Md_readClass_85 : decode bc_Md_readClass 85 = .ok (.dup, 1) := by decide +kernel
theorem d_Md_readClass_86 : decode bc_Md_readClass 86 = .ok (.getfield 392, 3) := by decide +kernel
theorem d_Md_readClass_89 : decode bc_Md_readClass 89 = .ok (.iconst 1, 1) := by decide +kernel
theorem d_Md_readClass_90 : decode bc_Md_readClass 90 = .ok (.iadd, 1) := by decide +kernel
theorem d_Md_readClass_91 : decode bc_Md_readClass 91 = .ok (.putfield 392, 3) := by decide +kernel
theorem d_Md_readClass_94 : decode bc_Md_readClass 94 = .ok (.aload_n 0, 1) := by decide +kernel
theorem d_Md_readClass_95 : decode bc_Md_readClass 95 = .ok (.invokevirtual 273, 3) := by decide +kernel
theorem d_Md_readClass_98 : decode bc_Md_readClass 98 = .ok (.aload_n 0, 1) := by decide +kernel
theorem d_Md_readClass_99 : decode bc_Md_readClass 99 = .ok (.sipush 1001, 3) := by decide +kernel
theorem d_Md_readClass_102 : decode bc_Md_readClass 102 = .ok (.invokevirtual 326, 3) := by decide +kernel
theorem d_Md_readClass_105 : decode bc_Md_readClass 105 = .ok (.aload_n 0, 1) := by decide +kernel
theorem d_Md_readClass_106 : decode bc_Md_readClass 106 = .ok (.getfield 221, 3) := by decide +kernel
theorem d_Md_readClass_109 : decode bc_Md_readClass 109 = .ok (.ifCond .le 4, 3) := by decide +kernel
theorem d_Md_readClass_112 : decode bc_Md_readClass 112 = .ok (.return_, 1) := by decide +kernel
theorem d_Md_readClass_113 : decode bc_Md_readClass 113 = .ok (.aload_n 0, 1) := by decide +kernel
theorem d_Md_readClass_114 : decode bc_Md_readClass 114 = .ok (.invokevirtual 383, 3) := by decide +kernel
theorem d_Md_readClass_117 : decode bc_Md_readClass 117 = .ok (.istore_n 1, 1) := by decide +kernel
theorem d_Md_readClass_118 : decode bc_Md_readClass 118 = .ok (.aload_n 0, 1) := by decide +kernel
theorem d_Md_readClass_119 : decode bc_Md_readClass 119 = .ok (.iconst 1, 1) := by decide +kernel
theorem d_Md_readClass_120 : decode bc_Md_readClass 120 = .ok (.iload_n 1, 1) := by decide +kernel
theorem d_Md_readClass_121 : decode bc_Md_readClass 121 = .ok (.aload_n 0, 1) := by decide +kernel
theorem d_Md_readClass_122 : decode bc_Md_readClass 122 = .ok (.getfield 332, 3) := by decide +kernel
theorem d_Md_readClass_125 : decode bc_Md_readClass 125 = .ok (.invokevirtual 303, 3) := by decide +kernel
theorem d_Md_readClass_128 : decode bc_Md_readClass 128 = .ok (.aload_n 0, 1) := by decide +kernel
theorem d_Md_readClass_129 : decode bc_Md_readClass 129 = .ok (.iconst (-1), 1) := by decide +kernel
theorem d_Md_readClass_130 : decode bc_Md_readClass 130 = .ok (.putfield 310, 3) := by decide +kernel
theorem d_Md_readClass_133 : decode bc_Md_readClass 133 = .ok (.aload_n 0, 1) := by decide +kernel
theorem d_Md_readClass_134 : decode bc_Md_readClass 134 = .ok (.bipush 59, 2) := by decide +kernel
theorem d_Md_readClass_136 : decode bc_Md_readClass 136 = .ok (.invokevirtual 326, 3) := by decide +kernel
theorem d_Md_readClass_139 : decode bc_Md_readClass 139 = .ok (.goto (-120), 3) := by decide +kernel
theorem d_Md_readClass_142 : decode bc_Md_readClass 142 = .ok (.aload_n 0, 1) := by decide +kernel
theorem d_Md_readClass_143 : decode bc_Md_readClass 143 = .ok (.bipush 125, 2) := by decide +kernel
theorem d_Md_readClass_145 : decode bc_Md_readClass 145 = .ok (.invokevirtual 326, 3) := by decide +kernel
theorem d_Md_readClass_148 : decode bc_Md_readClass 148 = .ok (.return_, 1) := by decide +kernel
abbrev bc_Md_readText : ByteArray := prog_14_method_42_code
abbrev y_Md_readText : MethodName := ⟨"KindRoundsModel", "readText", "()V"⟩
theorem d_Md_readText_0 : decode bc_Md_readText 0 = .ok (.aload_n 0, 1) := by decide +kernel
theorem d_Md_readText_1 : decode bc_Md_readText 1 = .ok (.iconst 0, 1) := by decide +kernel
theorem d_Md_readText_2 : decode bc_Md_readText 2 = .ok (.putfield 364, 3) := by decide +kernel
theorem d_Md_readText_5 : decode bc_Md_readText 5 = .ok (.aload_n 0, 1) := by decide +kernel
theorem d_Md_readText_6 : decode bc_Md_readText 6 = .ok (.iconst 0, 1) := by decide +kernel
theorem d_Md_readText_7 : decode bc_Md_readText 7 = .ok (.putfield 373, 3) := by decide +kernel
theorem d_Md_readText_10 : decode bc_Md_readText 10 = .ok (.aload_n 0, 1) := by decide +kernel
theorem d_Md_readText_11 : decode bc_Md_readText 11 = .ok (.iconst 0, 1) := by decide +kernel
theorem d_Md_readText_12 : decode bc_Md_readText 12 = .ok (.putfield 392, 3) := by decide +kernel
theorem d_Md_readText_15 : decode bc_Md_readText 15 = .ok (.aload_n 0, 1) := by decide +kernel
theorem d_Md_readText_16 : decode bc_Md_readText 16 = .ok (.iconst 0, 1) := by decide +kernel
theorem d_Md_readText_17 : decode bc_Md_readText 17 = .ok (.putfield 279, 3) := by decide +kernel
theorem d_Md_readText_20 : decode bc_Md_readText 20 = .ok (.aload_n 0, 1) := by decide +kernel
theorem d_Md_readText_21 : decode bc_Md_readText 21 = .ok (.iconst 0, 1) := by decide +kernel
theorem d_Md_readText_22 : decode bc_Md_readText 22 = .ok (.putfield 285, 3) := by decide +kernel
theorem d_Md_readText_25 : decode bc_Md_readText 25 = .ok (.aload_n 0, 1) := by decide +kernel
theorem d_Md_readText_26 : decode bc_Md_readText 26 = .ok (.iconst 0, 1) := by decide +kernel
theorem d_Md_readText_27 : decode bc_Md_readText 27 = .ok (.putfield 288, 3) := by decide +kernel
theorem d_Md_readText_30 : decode bc_Md_readText 30 = .ok (.aload_n 0, 1) := by decide +kernel
theorem d_Md_readText_31 : decode bc_Md_readText 31 = .ok (.iconst 0, 1) := by decide +kernel
theorem d_Md_readText_32 : decode bc_Md_readText 32 = .ok (.putfield 209, 3) := by decide +kernel
theorem d_Md_readText_35 : decode bc_Md_readText 35 = .ok (.aload_n 0, 1) := by decide +kernel
theorem d_Md_readText_36 : decode bc_Md_readText 36 = .ok (.aload_n 0, 1) := by decide +kernel
theorem d_Md_readText_37 : decode bc_Md_readText 37 = .ok (.iconst 1, 1) := by decide +kernel
theorem d_Md_readText_38 : decode bc_Md_readText 38 = .ok (.iconst 0, 1) := by decide +kernel
theorem d_Md_readText_39 : decode bc_Md_readText 39 = .ok (.iconst 0, 1) := by decide +kernel
theorem d_Md_readText_40 : decode bc_Md_readText 40 = .ok (.invokevirtual 202, 3) := by decide +kernel
theorem d_Md_readText_43 : decode bc_Md_readText 43 = .ok (.putfield 206, 3) := by decide +kernel
theorem d_Md_readText_46 : decode bc_Md_readText 46 = .ok (.aload_n 0, 1) := by decide +kernel
theorem d_Md_readText_47 : decode bc_Md_readText 47 = .ok (.invokevirtual 395, 3) := by decide +kernel
theorem d_Md_readText_50 : decode bc_Md_readText 50 = .ok (.aload_n 0, 1) := by decide +kernel
theorem d_Md_readText_51 : decode bc_Md_readText 51 = .ok (.getfield 221, 3) := by decide +kernel
theorem d_Md_readText_54 : decode bc_Md_readText 54 = .ok (.ifCond .ne 24, 3) := by decide +kernel
theorem d_Md_readText_57 : decode bc_Md_readText 57 = .ok (.aload_n 0, 1) := by decide +kernel
theorem d_Md_readText_58 : decode bc_Md_readText 58 = .ok (.getfield 241, 3) := by decide +kernel
theorem d_Md_readText_61 : decode bc_Md_readText 61 = .ok (.iconst 5, 1) := by decide +kernel
theorem d_Md_readText_62 : decode bc_Md_readText 62 = .ok (.if_icmp .eq 16, 3) := by decide +kernel
theorem d_Md_readText_65 : decode bc_Md_readText 65 = .ok (.aload_n 0, 1) := by decide +kernel
theorem d_Md_readText_66 : decode bc_Md_readText 66 = .ok (.invokevirtual 398, 3) := by decide +kernel
theorem d_Md_readText_69 : decode bc_Md_readText 69 = .ok (.aload_n 0, 1) := by decide +kernel
theorem d_Md_readText_70 : decode bc_Md_readText 70 = .ok (.bipush 59, 2) := by decide +kernel
theorem d_Md_readText_72 : decode bc_Md_readText 72 = .ok (.invokevirtual 326, 3) := by decide +kernel
theorem d_Md_readText_75 : decode bc_Md_readText 75 = .ok (.goto (-25), 3) := by decide +kernel
theorem d_Md_readText_78 : decode bc_Md_readText 78 = .ok (.return_, 1) := by decide +kernel
abbrev bc_Md_declOf : ByteArray := prog_14_method_43_code
abbrev y_Md_declOf : MethodName := ⟨"KindRoundsModel", "declOf", "(J)I"⟩
theorem d_Md_declOf_0 : decode bc_Md_declOf 0 = .ok (.iconst 0, 1) := by decide +kernel
theorem d_Md_declOf_1 : decode bc_Md_declOf 1 = .ok (.istore_n 3, 1) := by decide +kernel
theorem d_Md_declOf_2 : decode bc_Md_declOf 2 = .ok (.iload_n 3, 1) := by decide +kernel
theorem d_Md_declOf_3 : decode bc_Md_declOf 3 = .ok (.aload_n 0, 1) := by decide +kernel
theorem d_Md_declOf_4 : decode bc_Md_declOf 4 = .ok (.getfield 364, 3) := by decide +kernel
theorem d_Md_declOf_7 : decode bc_Md_declOf 7 = .ok (.if_icmp .ge 22, 3) := by decide +kernel
theorem d_Md_declOf_10 : decode bc_Md_declOf 10 = .ok (.aload_n 0, 1) := by decide +kernel
theorem d_Md_declOf_11 : decode bc_Md_declOf 11 = .ok (.getfield 115, 3) := by decide +kernel
theorem d_Md_declOf_14 : decode bc_Md_declOf 14 = .ok (.iload_n 3, 1) := by decide +kernel
theorem d_Md_declOf_15 : decode bc_Md_declOf 15 = .ok (.laload, 1) := by decide +kernel
theorem d_Md_declOf_16 : decode bc_Md_declOf 16 = .ok (.lload_n 1, 1) := by decide +kernel
theorem d_Md_declOf_17 : decode bc_Md_declOf 17 = .ok (.lcmp, 1) := by decide +kernel
theorem d_Md_declOf_18 : decode bc_Md_declOf 18 = .ok (.ifCond .ne 5, 3) := by decide +kernel
theorem d_Md_declOf_21 : decode bc_Md_declOf 21 = .ok (.iload_n 3, 1) := by decide +kernel
theorem d_Md_declOf_22 : decode bc_Md_declOf 22 = .ok (.ireturn, 1) := by decide +kernel
theorem d_Md_declOf_23 : decode bc_Md_declOf 23 = .ok (.iinc 3 1, 3) := by decide +kernel
theorem d_Md_declOf_26 : decode bc_Md_declOf 26 = .ok (.goto (-24), 3) := by decide +kernel
theorem d_Md_declOf_29 : decode bc_Md_declOf 29 = .ok (.iconst (-1), 1) := by decide +kernel
theorem d_Md_declOf_30 : decode bc_Md_declOf 30 = .ok (.ireturn, 1) := by decide +kernel
abbrev bc_Md_typeOf : ByteArray := prog_14_method_44_code
abbrev y_Md_typeOf : MethodName := ⟨"KindRoundsModel", "typeOf", "(J)I"⟩
theorem d_Md_typeOf_0 : decode bc_Md_typeOf 0 = .ok (.iconst 0, 1) := by decide +kernel
theorem d_Md_typeOf_1 : decode bc_Md_typeOf 1 = .ok (.istore_n 3, 1) := by decide +kernel
theorem d_Md_typeOf_2 : decode bc_Md_typeOf 2 = .ok (.iload_n 3, 1) := by decide +kernel
theorem d_Md_typeOf_3 : decode bc_Md_typeOf 3 = .ok (.aload_n 0, 1) := by decide +kernel
theorem d_Md_typeOf_4 : decode bc_Md_typeOf 4 = .ok (.getfield 364, 3) := by decide +kernel
theorem d_Md_typeOf_7 : decode bc_Md_typeOf 7 = .ok (.if_icmp .ge 32, 3) := by decide +kernel
theorem d_Md_typeOf_10 : decode bc_Md_typeOf 10 = .ok (.aload_n 0, 1) := by decide +kernel
theorem d_Md_typeOf_11 : decode bc_Md_typeOf 11 = .ok (.getfield 115, 3) := by decide +kernel
theorem d_Md_typeOf_14 : decode bc_Md_typeOf 14 = .ok (.iload_n 3, 1) := by decide +kernel
theorem d_Md_typeOf_15 : decode bc_Md_typeOf 15 = .ok (.laload, 1) := by decide +kernel
theorem d_Md_typeOf_16 : decode bc_Md_typeOf 16 = .ok (.lload_n 1, 1) := by decide +kernel
theorem d_Md_typeOf_17 : decode bc_Md_typeOf 17 = .ok (.lcmp, 1) := by decide +kernel
theorem d_Md_typeOf_18 : decode bc_Md_typeOf 18 = .ok (.ifCond .ne 15, 3) := by decide +kernel
theorem d_Md_typeOf_21 : decode bc_Md_typeOf 21 = .ok (.aload_n 0, 1) := by decide +kernel
theorem d_Md_typeOf_22 : decode bc_Md_typeOf 22 = .ok (.getfield 112, 3) := by decide +kernel
theorem d_Md_typeOf_25 : decode bc_Md_typeOf 25 = .ok (.iload_n 3, 1) := by decide +kernel
theorem d_Md_typeOf_26 : decode bc_Md_typeOf 26 = .ok (.iaload, 1) := by decide +kernel
theorem d_Md_typeOf_27 : decode bc_Md_typeOf 27 = .ok (.iconst 2, 1) := by decide +kernel
theorem d_Md_typeOf_28 : decode bc_Md_typeOf 28 = .ok (.if_icmp .ge 5, 3) := by decide +kernel
theorem d_Md_typeOf_31 : decode bc_Md_typeOf 31 = .ok (.iload_n 3, 1) := by decide +kernel
theorem d_Md_typeOf_32 : decode bc_Md_typeOf 32 = .ok (.ireturn, 1) := by decide +kernel
theorem d_Md_typeOf_33 : decode bc_Md_typeOf 33 = .ok (.iinc 3 1, 3) := by decide +kernel
theorem d_Md_typeOf_36 : decode bc_Md_typeOf 36 = .ok (.goto (-34), 3) := by decide +kernel
theorem d_Md_typeOf_39 : decode bc_Md_typeOf 39 = .ok (.iconst (-1), 1) := by decide +kernel
theorem d_Md_typeOf_40 : decode bc_Md_typeOf 40 = .ok (.ireturn, 1) := by decide +kernel
abbrev bc_Md_isParam : ByteArray := prog_14_method_45_code
abbrev y_Md_isParam : MethodName := ⟨"KindRoundsModel", "isParam", "(IJ)Z"⟩
theorem d_Md_isParam_0 : decode bc_Md_isParam 0 = .ok (.iconst 0, 1) := by decide +kernel
theorem d_Md_isParam_1 : decode bc_Md_isParam 1 = .ok (.istore 4, 2) := by decide +kernel
theorem d_Md_isParam_3 : decode bc_Md_isParam 3 = .ok (.iload 4, 2) := by decide +kernel
theorem d_Md_isParam_5 : decode bc_Md_isParam 5 = .ok (.aload_n 0, 1) := by decide +kernel
theorem d_Md_isParam_6 : decode bc_Md_isParam 6 = .ok (.getfield 121, 3) := by decide +kernel
theorem d_Md_isParam_9 : decode bc_Md_isParam 9 = .ok (.iload_n 1, 1) := by decide +kernel
theorem d_Md_isParam_10 : decode bc_Md_isParam 10 = .ok (.iaload, 1) := by decide +kernel
theorem d_Md_isParam_11 : decode bc_Md_isParam 11 = .ok (.if_icmp .ge 27, 3) := by decide +kernel
theorem d_Md_isParam_14 : decode bc_Md_isParam 14 = .ok (.aload_n 0, 1) := by decide +kernel
theorem d_Md_isParam_15 : decode bc_Md_isParam 15 = .ok (.getfield 124, 3) := by decide +kernel
theorem d_Md_isParam_18 : decode bc_Md_isParam 18 = .ok (.iconst 3, 1) := by decide +kernel
theorem d_Md_isParam_19 : decode bc_Md_isParam 19 = .ok (.iload_n 1, 1) := by decide +kernel
theorem d_Md_isParam_20 : decode bc_Md_isParam 20 = .ok (.imul, 1) := by decide +kernel
theorem d_Md_isParam_21 : decode bc_Md_isParam 21 = .ok (.iload 4, 2) := by decide +kernel
theorem d_Md_isParam_23 : decode bc_Md_isParam 23 = .ok (.iadd, 1) := by decide +kernel
theorem d_Md_isParam_24 : decode bc_Md_isParam 24 = .ok (.laload, 1) := by decide +kernel
theorem d_Md_isParam_25 : decode bc_Md_isParam 25 = .ok (.lload_n 2, 1) := by decide +kernel
theorem d_Md_isParam_26 : decode bc_Md_isParam 26 = .ok (.lcmp, 1) := by decide +kernel
theorem d_Md_isParam_27 : decode bc_Md_isParam 27 = .ok (.ifCond .ne 5, 3) := by decide +kernel
theorem d_Md_isParam_30 : decode bc_Md_isParam 30 = .ok (.iconst 1, 1) := by decide +kernel
theorem d_Md_isParam_31 : decode bc_Md_isParam 31 = .ok (.ireturn, 1) := by decide +kernel
theorem d_Md_isParam_32 : decode bc_Md_isParam 32 = .ok (.iinc 4 1, 3) := by decide +kernel
theorem d_Md_isParam_35 : decode bc_Md_isParam 35 = .ok (.goto (-32), 3) := by decide +kernel
theorem d_Md_isParam_38 : decode bc_Md_isParam 38 = .ok (.iconst 0, 1) := by decide +kernel
theorem d_Md_isParam_39 : decode bc_Md_isParam 39 = .ok (.ireturn, 1) := by decide +kernel
abbrev bc_Md_wasTold : ByteArray := prog_14_method_46_code
abbrev y_Md_wasTold : MethodName := ⟨"KindRoundsModel", "wasTold", "(I)Z"⟩
theorem d_Md_wasTold_0 : decode bc_Md_wasTold 0 = .ok (.iconst 0, 1) := by decide +kernel
theorem d_Md_wasTold_1 : decode bc_Md_wasTold 1 = .ok (.istore_n 2, 1) := by decide +kernel
theorem d_Md_wasTold_2 : decode bc_Md_wasTold 2 = .ok (.iload_n 2, 1) := by decide +kernel
theorem d_Md_wasTold_3 : decode bc_Md_wasTold 3 = .ok (.iload_n 1, 1) := by decide +kernel
theorem d_Md_wasTold_4 : decode bc_Md_wasTold 4 = .ok (.if_icmp .ge 67, 3) := by decide +kernel
theorem d_Md_wasTold_7 : decode bc_Md_wasTold 7 = .ok (.aload_n 0, 1) := by decide +kernel
theorem d_Md_wasTold_8 : decode bc_Md_wasTold 8 = .ok (.getfield 42, 3) := by decide +kernel
theorem d_Md_wasTold_11 : decode bc_Md_wasTold 11 = .ok (.iload_n 2, 1) := by decide +kernel
theorem d_Md_wasTold_12 : decode bc_Md_wasTold 12 = .ok (.iaload, 1) := by decide +kernel
theorem d_Md_wasTold_13 : decode bc_Md_wasTold 13 = .ok (.aload_n 0, 1) := by decide +kernel
theorem d_Md_wasTold_14 : decode bc_Md_wasTold 14 = .ok (.getfield 42, 3) := by decide +kernel
theorem d_Md_wasTold_17 : decode bc_Md_wasTold 17 = .ok (.iload_n 1, 1) := by decide +kernel
theorem d_Md_wasTold_18 : decode bc_Md_wasTold 18 = .ok (.iaload, 1) := by decide +kernel
theorem d_Md_wasTold_19 : decode bc_Md_wasTold 19 = .ok (.if_icmp .ne 46, 3) := by decide +kernel
theorem d_Md_wasTold_22 : decode bc_Md_wasTold 22 = .ok (.aload_n 0, 1) := by decide +kernel
theorem d_Md_wasTold_23 : decode bc_Md_wasTold 23 = .ok (.getfield 45, 3) := by decide +kernel
theorem d_Md_wasTold_26 : decode bc_Md_wasTold 26 = .ok (.iload_n 2, 1) := by decide +kernel
theorem d_Md_wasTold_27 : decode bc_Md_wasTold 27 = .ok (.laload, 1) := by decide +kernel
theorem d_Md_wasTold_28 : decode bc_Md_wasTold 28 = .ok (.aload_n 0, 1) := by decide +kernel
theorem d_Md_wasTold_29 : decode bc_Md_wasTold 29 = .ok (.getfield 45, 3) := by decide +kernel
theorem d_Md_wasTold_32 : decode bc_Md_wasTold 32 = .ok (.iload_n 1, 1) := by decide +kernel
theorem d_Md_wasTold_33 : decode bc_Md_wasTold 33 = .ok (.laload, 1) := by decide +kernel
theorem d_Md_wasTold_34 : decode bc_Md_wasTold 34 = .ok (.lcmp, 1) := by decide +kernel
theorem d_Md_wasTold_35 : decode bc_Md_wasTold 35 = .ok (.ifCond .ne 30, 3) := by decide +kernel
theorem d_Md_wasTold_38 : decode bc_Md_wasTold 38 = .ok (.aload_n 0, 1) := by decide +kernel
theorem d_Md_wasTold_39 : decode bc_Md_wasTold 39 = .ok (.getfield 42, 3) := by decide +kernel
theorem d_Md_wasTold_42 : decode bc_Md_wasTold 42 = .ok (.iload_n 1, 1) := by decide +kernel
theorem d_Md_wasTold_43 : decode bc_Md_wasTold 43 = .ok (.iaload, 1) := by decide +kernel
theorem d_Md_wasTold_44 : decode bc_Md_wasTold 44 = .ok (.iconst 1, 1) := by decide +kernel
theorem d_Md_wasTold_45 : decode bc_Md_wasTold 45 = .ok (.if_icmp .ne 18, 3) := by decide +kernel
theorem d_Md_wasTold_48 : decode bc_Md_wasTold 48 = .ok (.aload_n 0, 1) := by decide +kernel
theorem d_Md_wasTold_49 : decode bc_Md_wasTold 49 = .ok (.getfield 51, 3) := by decide +kernel
theorem d_Md_wasTold_52 : decode bc_Md_wasTold 52 = .ok (.iload_n 2, 1) := by decide +kernel
theorem d_Md_wasTold_53 : decode bc_Md_wasTold 53 = .ok (.iaload, 1) := by decide +kernel
theorem d_Md_wasTold_54 : decode bc_Md_wasTold 54 = .ok (.aload_n 0, 1) := by decide +kernel
theorem d_Md_wasTold_55 : decode bc_Md_wasTold 55 = .ok (.getfield 51, 3) := by decide +kernel
theorem d_Md_wasTold_58 : decode bc_Md_wasTold 58 = .ok (.iload_n 1, 1) := by decide +kernel
theorem d_Md_wasTold_59 : decode bc_Md_wasTold 59 = .ok (.iaload, 1) := by decide +kernel
theorem d_Md_wasTold_60 : decode bc_Md_wasTold 60 = .ok (.if_icmp .ne 5, 3) := by decide +kernel
theorem d_Md_wasTold_63 : decode bc_Md_wasTold 63 = .ok (.iconst 1, 1) := by decide +kernel
theorem d_Md_wasTold_64 : decode bc_Md_wasTold 64 = .ok (.ireturn, 1) := by decide +kernel
theorem d_Md_wasTold_65 : decode bc_Md_wasTold 65 = .ok (.iinc 2 1, 3) := by decide +kernel
theorem d_Md_wasTold_68 : decode bc_Md_wasTold 68 = .ok (.goto (-66), 3) := by decide +kernel
theorem d_Md_wasTold_71 : decode bc_Md_wasTold 71 = .ok (.iconst 0, 1) := by decide +kernel
theorem d_Md_wasTold_72 : decode bc_Md_wasTold 72 = .ok (.ireturn, 1) := by decide +kernel
abbrev bc_Md_isWrongName : ByteArray := prog_14_method_47_code
abbrev y_Md_isWrongName : MethodName := ⟨"KindRoundsModel", "isWrongName", "(IZ)Z"⟩
theorem d_Md_isWrongName_0 : decode bc_Md_isWrongName 0 = .ok (.aload_n 0, 1) := by decide +kernel
theorem d_Md_isWrongName_1 : decode bc_Md_isWrongName 1 = .ok (.getfield 42, 3) := by decide +kernel
theorem d_Md_isWrongName_4 : decode bc_Md_isWrongName 4 = .ok (.iload_n 1, 1) := by decide +kernel
theorem d_Md_isWrongName_5 : decode bc_Md_isWrongName 5 = .ok (.iaload, 1) := by decide +kernel
theorem d_Md_isWrongName_6 : decode bc_Md_isWrongName 6 = .ok (.istore_n 3, 1) := by decide +kernel
theorem d_Md_isWrongName_7 : decode bc_Md_isWrongName 7 = .ok (.aload_n 0, 1) := by decide +kernel
theorem d_Md_isWrongName_8 : decode bc_Md_isWrongName 8 = .ok (.getfield 45, 3) := by decide +kernel
theorem d_Md_isWrongName_11 : decode bc_Md_isWrongName 11 = .ok (.iload_n 1, 1) := by decide +kernel
theorem d_Md_isWrongName_12 : decode bc_Md_isWrongName 12 = .ok (.laload, 1) := by decide +kernel
theorem d_Md_isWrongName_13 : decode bc_Md_isWrongName 13 = .ok (.lstore 4, 2) := by decide +kernel
theorem d_Md_isWrongName_15 : decode bc_Md_isWrongName 15 = .ok (.iload_n 3, 1) := by decide +kernel
theorem d_Md_isWrongName_16 : decode bc_Md_isWrongName 16 = .ok (.iconst 5, 1) := by decide +kernel
theorem d_Md_isWrongName_17 : decode bc_Md_isWrongName 17 = .ok (.if_icmp .ne 27, 3) := by decide +kernel
theorem d_Md_isWrongName_20 : decode bc_Md_isWrongName 20 = .ok (.lload 4, 2) := by decide +kernel
theorem d_Md_isWrongName_22 : decode bc_Md_isWrongName 22 = .ok (.ldc2_w 401, 3) := by decide +kernel
theorem d_Md_isWrongName_25 : decode bc_Md_isWrongName 25 = .ok (.lcmp, 1) := by decide +kernel
theorem d_Md_isWrongName_26 : decode bc_Md_isWrongName 26 = .ok (.ifCond .eq 16, 3) := by decide +kernel
theorem d_Md_isWrongName_29 : decode bc_Md_isWrongName 29 = .ok (.aload_n 0, 1) := by decide +kernel
theorem d_Md_isWrongName_30 : decode bc_Md_isWrongName 30 = .ok (.lload 4, 2) := by decide +kernel
theorem d_Md_isWrongName_32 : decode bc_Md_isWrongName 32 = .ok (.invokevirtual 403, 3) := by decide +kernel
theorem d_Md_isWrongName_35 : decode bc_Md_isWrongName 35 = .ok (.ifCond .ge 7, 3) := by decide +kernel
theorem d_Md_isWrongName_38 : decode bc_Md_isWrongName 38 = .ok (.iconst 1, 1) := by decide +kernel
theorem d_Md_isWrongName_39 : decode bc_Md_isWrongName 39 = .ok (.goto 4, 3) := by decide +kernel
theorem d_Md_isWrongName_42 : decode bc_Md_isWrongName 42 = .ok (.iconst 0, 1) := by decide +kernel
theorem d_Md_isWrongName_43 : decode bc_Md_isWrongName 43 = .ok (.ireturn, 1) := by decide +kernel
theorem d_Md_isWrongName_44 : decode bc_Md_isWrongName 44 = .ok (.iload_n 3, 1) := by decide +kernel
theorem d_Md_isWrongName_45 : decode bc_Md_isWrongName 45 = .ok (.bipush 6, 2) := by decide +kernel
theorem d_Md_isWrongName_47 : decode bc_Md_isWrongName 47 = .ok (.if_icmp .ne 43, 3) := by decide +kernel
theorem d_Md_isWrongName_50 : decode bc_Md_isWrongName 50 = .ok (.iload_n 2, 1) := by decide +kernel
theorem d_Md_isWrongName_51 : decode bc_Md_isWrongName 51 = .ok (.ifCond .eq 37, 3) := by decide +kernel
theorem d_Md_isWrongName_54 : decode bc_Md_isWrongName 54 = .ok (.aload_n 0, 1) := by decide +kernel
theorem d_Md_isWrongName_55 : decode bc_Md_isWrongName 55 = .ok (.getfield 112, 3) := by decide +kernel
theorem d_Md_isWrongName_58 : decode bc_Md_isWrongName 58 = .ok (.aload_n 0, 1) := by decide +kernel
theorem d_Md_isWrongName_59 : decode bc_Md_isWrongName 59 = .ok (.getfield 51, 3) := by decide +kernel
theorem d_Md_isWrongName_62 : decode bc_Md_isWrongName 62 = .ok (.iload_n 1, 1) := by decide +kernel
theorem d_Md_isWrongName_63 : decode bc_Md_isWrongName 63 = .ok (.iaload, 1) := by decide +kernel
theorem d_Md_isWrongName_64 : decode bc_Md_isWrongName 64 = .ok (.iaload, 1) := by decide +kernel
theorem d_Md_isWrongName_65 : decode bc_Md_isWrongName 65 = .ok (.iconst 2, 1) := by decide +kernel
theorem d_Md_isWrongName_66 : decode bc_Md_isWrongName 66 = .ok (.if_icmp .ge 22, 3) := by decide +kernel
theorem d_Md_isWrongName_69 : decode bc_Md_isWrongName 69 = .ok (.aload_n 0, 1) := by decide +kernel
theorem d_Md_isWrongName_70 : decode bc_Md_isWrongName 70 = .ok (.aload_n 0, 1) := by decide +kernel
theorem d_Md_isWrongName_71 : decode bc_Md_isWrongName 71 = .ok (.getfield 51, 3) := by decide +kernel
theorem d_Md_isWrongName_74 : decode bc_Md_isWrongName 74 = .ok (.iload_n 1, 1) := by decide +kernel
theorem d_Md_isWrongName_75 : decode bc_Md_isWrongName 75 = .ok (.iaload, 1) := by decide +kernel
theorem d_Md_isWrongName_76 : decode bc_Md_isWrongName 76 = .ok (.lload 4, 2) := by decide +kernel
theorem d_Md_isWrongName_78 : decode bc_Md_isWrongName 78 = .ok (.invokevirtual 407, 3) := by decide +kernel
theorem d_Md_isWrongName_81 : decode bc_Md_isWrongName 81 = .ok (.ifCond .ne 7, 3) := by decide +kernel
theorem d_Md_isWrongName_84 : decode bc_Md_isWrongName 84 = .ok (.iconst 1, 1) := by decide +kernel
theorem d_Md_isWrongName_85 : decode bc_Md_isWrongName 85 = .ok (.goto 4, 3) := by decide +kernel
theorem d_Md_isWrongName_88 : decode bc_Md_isWrongName 88 = .ok (.iconst 0, 1) := by decide +kernel
theorem d_Md_isWrongName_89 : decode bc_Md_isWrongName 89 = .ok (.ireturn, 1) := by decide +kernel
theorem d_Md_isWrongName_90 : decode bc_Md_isWrongName 90 = .ok (.aload_n 0, 1) := by decide +kernel
theorem d_Md_isWrongName_91 : decode bc_Md_isWrongName 91 = .ok (.iload_n 1, 1) := by decide +kernel
theorem d_Md_isWrongName_92 : decode bc_Md_isWrongName 92 = .ok (.invokevirtual 411, 3) := by decide +kernel
theorem d_Md_isWrongName_95 : decode bc_Md_isWrongName 95 = .ok (.ifCond .ne 30, 3) := by decide +kernel
theorem d_Md_isWrongName_98 : decode bc_Md_isWrongName 98 = .ok (.iload_n 3, 1) := by decide +kernel
theorem d_Md_isWrongName_99 : decode bc_Md_isWrongName 99 = .ok (.ifCond .ne 12, 3) := by decide +kernel
theorem d_Md_isWrongName_102 : decode bc_Md_isWrongName 102 = .ok (.lload 4, 2) := by decide +kernel
theorem d_Md_isWrongName_104 : decode bc_Md_isWrongName 104 = .ok (.ldc2_w 401, 3) := by decide +kernel
theorem d_Md_isWrongName_107 : decode bc_Md_isWrongName 107 = .ok (.lcmp, 1) := by decide +kernel
theorem d_Md_isWrongName_108 : decode bc_Md_isWrongName 108 = .ok (.ifCond .eq 17, 3) := by decide +kernel
theorem d_Md_isWrongName_111 : decode bc_Md_isWrongName 111 = .ok (.iload_n 3, 1) := by decide +kernel
theorem d_Md_isWrongName_112 : decode bc_Md_isWrongName 112 = .ok (.iconst 4, 1) := by decide +kernel
theorem d_Md_isWrongName_113 : decode bc_Md_isWrongName 113 = .ok (.if_icmp .ne 16, 3) := by decide +kernel
theorem d_Md_isWrongName_116 : decode bc_Md_isWrongName 116 = .ok (.aload_n 0, 1) := by decide +kernel
theorem d_Md_isWrongName_117 : decode bc_Md_isWrongName 117 = .ok (.lload 4, 2) := by decide +kernel
theorem d_Md_isWrongName_119 : decode bc_Md_isWrongName 119 = .ok (.invokevirtual 414, 3) := by decide +kernel
theorem d_Md_isWrongName_122 : decode bc_Md_isWrongName 122 = .ok (.ifCond .ge 7, 3) := by decide +kernel
theorem d_Md_isWrongName_125 : decode bc_Md_isWrongName 125 = .ok (.iconst 1, 1) := by decide +kernel
theorem d_Md_isWrongName_126 : decode bc_Md_isWrongName 126 = .ok (.goto 4, 3) := by decide +kernel
theorem d_Md_isWrongName_129 : decode bc_Md_isWrongName 129 = .ok (.iconst 0, 1) := by decide +kernel
theorem d_Md_isWrongName_130 : decode bc_Md_isWrongName 130 = .ok (.ireturn, 1) := by decide +kernel
abbrev bc_Md_lookNames : ByteArray := prog_14_method_48_code
abbrev y_Md_lookNames : MethodName := ⟨"KindRoundsModel", "lookNames", "(Z)V"⟩
theorem d_Md_lookNames_0 : decode bc_Md_lookNames 0 = .ok (.iconst 0, 1) := by decide +kernel
theorem d_Md_lookNames_1 : decode bc_Md_lookNames 1 = .ok (.istore_n 2, 1) := by decide +kernel
theorem d_Md_lookNames_2 : decode bc_Md_lookNames 2 = .ok (.iload_n 2, 1) := by decide +kernel
theorem d_Md_lookNames_3 : decode bc_Md_lookNames 3 = .ok (.aload_n 0, 1) := by decide +kernel
theorem d_Md_lookNames_4 : decode bc_Md_lookNames 4 = .ok (.getfield 279, 3) := by decide +kernel
theorem d_Md_lookNames_7 : decode bc_Md_lookNames 7 = .ok (.if_icmp .ge 36, 3) := by decide +kernel
theorem d_Md_lookNames_10 : decode bc_Md_lookNames 10 = .ok (.aload_n 0, 1) := by decide +kernel
theorem d_Md_lookNames_11 : decode bc_Md_lookNames 11 = .ok (.getfield 221, 3) := by decide +kernel
theorem d_Md_lookNames_14 : decode bc_Md_lookNames 14 = .ok (.ifCond .ne 29, 3) := by decide +kernel
theorem d_Md_lookNames_17 : decode bc_Md_lookNames 17 = .ok (.aload_n 0, 1) := by decide +kernel
theorem d_Md_lookNames_18 : decode bc_Md_lookNames 18 = .ok (.iload_n 2, 1) := by decide +kernel
theorem d_Md_lookNames_19 : decode bc_Md_lookNames 19 = .ok (.iload_n 1, 1) := by decide +kernel
theorem d_Md_lookNames_20 : decode bc_Md_lookNames 20 = .ok (.invokevirtual 417, 3) := by decide +kernel
theorem d_Md_lookNames_23 : decode bc_Md_lookNames 23 = .ok (.ifCond .eq 14, 3) := by decide +kernel
theorem d_Md_lookNames_26 : decode bc_Md_lookNames 26 = .ok (.aload_n 0, 1) := by decide +kernel
theorem d_Md_lookNames_27 : decode bc_Md_lookNames 27 = .ok (.iconst 3, 1) := by decide +kernel
theorem d_Md_lookNames_28 : decode bc_Md_lookNames 28 = .ok (.aload_n 0, 1) := by decide +kernel
theorem d_Md_lookNames_29 : decode bc_Md_lookNames 29 = .ok (.getfield 48, 3) := by decide +kernel
theorem d_Md_lookNames_32 : decode bc_Md_lookNames 32 = .ok (.iload_n 2, 1) := by decide +kernel
theorem d_Md_lookNames_33 : decode bc_Md_lookNames 33 = .ok (.iaload, 1) := by decide +kernel
theorem d_Md_lookNames_34 : decode bc_Md_lookNames 34 = .ok (.invokevirtual 251, 3) := by decide +kernel
theorem d_Md_lookNames_37 : decode bc_Md_lookNames 37 = .ok (.iinc 2 1, 3) := by decide +kernel
theorem d_Md_lookNames_40 : decode bc_Md_lookNames 40 = .ok (.goto (-38), 3) := by decide +kernel
theorem d_Md_lookNames_43 : decode bc_Md_lookNames 43 = .ok (.return_, 1) := by decide +kernel
abbrev bc_Md_close : ByteArray := prog_14_method_49_code
abbrev y_Md_close : MethodName := ⟨"KindRoundsModel", "close", "([Z)V"⟩
theorem d_Md_close_0 : decode bc_Md_close 0 = .ok (.iconst 0, 1) := by decide +kernel
theorem d_Md_close_1 : decode bc_Md_close 1 = .ok (.istore_n 1, 1) := by decide +kernel
theorem d_Md_close_2 : decode bc_Md_close 2 = .ok (.iload_n 1, 1) := by decide +kernel
theorem d_Md_close_3 : decode bc_Md_close 3 = .ok (.bipush 16, 2) := by decide +kernel
theorem d_Md_close_5 : decode bc_Md_close 5 = .ok (.if_icmp .ge 83, 3) := by decide +kernel
theorem d_Md_close_8 : decode bc_Md_close 8 = .ok (.iconst 0, 1) := by decide +kernel
theorem d_Md_close_9 : decode bc_Md_close 9 = .ok (.istore_n 2, 1) := by decide +kernel
theorem d_Md_close_10 : decode bc_Md_close 10 = .ok (.iload_n 2, 1) := by decide +kernel
theorem d_Md_close_11 : decode bc_Md_close 11 = .ok (.bipush 16, 2) := by decide +kernel
theorem d_Md_close_13 : decode bc_Md_close 13 = .ok (.if_icmp .ge 69, 3) := by decide +kernel
theorem d_Md_close_16 : decode bc_Md_close 16 = .ok (.iconst 0, 1) := by decide +kernel
theorem d_Md_close_17 : decode bc_Md_close 17 = .ok (.istore_n 3, 1) := by decide +kernel
theorem d_Md_close_18 : decode bc_Md_close 18 = .ok (.iload_n 3, 1) := by decide +kernel
theorem d_Md_close_19 : decode bc_Md_close 19 = .ok (.bipush 16, 2) := by decide +kernel
theorem d_Md_close_21 : decode bc_Md_close 21 = .ok (.if_icmp .ge 55, 3) := by decide +kernel
theorem d_Md_close_24 : decode bc_Md_close 24 = .ok (.aload_n 0, 1) := by decide +kernel
theorem d_Md_close_25 : decode bc_Md_close 25 = .ok (.bipush 16, 2) := by decide +kernel
theorem d_Md_close_27 : decode bc_Md_close 27 = .ok (.iload_n 2, 1) := by decide +kernel
theorem d_Md_close_28 : decode bc_Md_close 28 = .ok (.imul, 1) := by decide +kernel
theorem d_Md_close_29 : decode bc_Md_close 29 = .ok (.iload_n 3, 1) := by decide +kernel
theorem d_Md_close_30 : decode bc_Md_close 30 = .ok (.iadd, 1) := by decide +kernel
theorem d_Md_close_31 : decode bc_Md_close 31 = .ok (.aload_n 0, 1) := by decide +kernel
theorem d_Md_close_32 : decode bc_Md_close 32 = .ok (.bipush 16, 2) := by decide +kernel
theorem d_Md_close_34 : decode bc_Md_close 34 = .ok (.iload_n 2, 1) := by decide +kernel
theorem d_Md_close_35 : decode bc_Md_close 35 = .ok (.imul, 1) := by decide +kernel
theorem d_Md_close_36 : decode bc_Md_close 36 = .ok (.iload_n 3, 1) := by decide +kernel
theorem d_Md_close_37 : decode bc_Md_close 37 = .ok (.iadd, 1) := by decide +kernel
theorem d_Md_close_38 : decode bc_Md_close 38 = .ok (.baload, 1) := by decide +kernel
theorem d_Md_close_39 : decode bc_Md_close 39 = .ok (.ifCond .ne 25, 3) := by decide +kernel
theorem d_Md_close_42 : decode bc_Md_close 42 = .ok (.aload_n 0, 1) := by decide +kernel
theorem d_Md_close_43 : decode bc_Md_close 43 = .ok (.bipush 16, 2) := by decide +kernel
theorem d_Md_close_45 : decode bc_Md_close 45 = .ok (.iload_n 2, 1) := by decide +kernel
theorem d_Md_close_46 : decode bc_Md_close 46 = .ok (.imul, 1) := by decide +kernel
theorem d_Md_close_47 : decode bc_Md_close 47 = .ok (.iload_n 1, 1) := by decide +kernel
theorem d_Md_close_48 : decode bc_Md_close 48 = .ok (.iadd, 1) := by decide +kernel
theorem d_Md_close_49 : decode bc_Md_close 49 = .ok (.baload, 1) := by decide +kernel
theorem d_Md_close_50 : decode bc_Md_close 50 = .ok (.ifCond .eq 18, 3) := by decide +kernel
theorem d_Md_close_53 : decode bc_Md_close 53 = .ok (.aload_n 0, 1) := by decide +kernel
theorem d_Md_close_54 : decode bc_Md_close 54 = .ok (.bipush 16, 2) := by decide +kernel
theorem d_Md_close_56 : decode bc_Md_close 56 = .ok (.iload_n 1, 1) := by decide +kernel
theorem d_Md_close_57 : decode bc_Md_close 57 = .ok (.imul, 1) := by decide +kernel
theorem d_Md_close_58 : decode bc_Md_close 58 = .ok (.iload_n 3, 1) := by decide +kernel
theorem d_Md_close_59 : decode bc_Md_close 59 = .ok (.iadd, 1) := by decide +kernel
theorem d_Md_close_60 : decode bc_Md_close 60 = .ok (.baload, 1) := by decide +kernel
theorem d_Md_close_61 : decode bc_Md_close 61 = .ok (.ifCond .eq 7, 3) := by decide +kernel
theorem d_Md_close_64 : decode bc_Md_close 64 = .ok (.iconst 1, 1) := by decide +kernel
theorem d_Md_close_65 : decode bc_Md_close 65 = .ok (.goto 4, 3) := by decide +kernel
theorem d_Md_close_68 : decode bc_Md_close 68 = .ok (.iconst 0, 1) := by decide +kernel
theorem d_Md_close_69 : decode bc_Md_close 69 = .ok (.bastore, 1) := by decide +kernel
theorem d_Md_close_70 : decode bc_Md_close 70 = .ok (.iinc 3 1, 3) := by decide +kernel
theorem d_Md_close_73 : decode bc_Md_close 73 = .ok (.goto (-55), 3) := by decide +kernel
theorem d_Md_close_76 : decode bc_Md_close 76 = .ok (.iinc 2 1, 3) := by decide +kernel
theorem d_Md_close_79 : decode bc_Md_close 79 = .ok (.goto (-69), 3) := by decide +kernel
theorem d_Md_close_82 : decode bc_Md_close 82 = .ok (.iinc 1 1, 3) := by decide +kernel
theorem d_Md_close_85 : decode bc_Md_close 85 = .ok (.goto (-83), 3) := by decide +kernel
theorem d_Md_close_88 : decode bc_Md_close 88 = .ok (.return_, 1) := by decide +kernel
abbrev bc_Md_findNeeds : ByteArray := prog_14_method_50_code
abbrev y_Md_findNeeds : MethodName := ⟨"KindRoundsModel", "findNeeds", "()V"⟩
theorem d_Md_findNeeds_0 : decode bc_Md_findNeeds 0 = .ok (.iconst 0, 1) := by decide +kernel
theorem d_Md_findNeeds_1 : decode bc_Md_findNeeds 1 = .ok (.istore_n 1, 1) := by decide +kernel
theorem d_Md_findNeeds_2 : decode bc_Md_findNeeds 2 = .ok (.iload_n 1, 1) := by decide +kernel
theorem d_Md_findNeeds_3 : decode bc_Md_findNeeds 3 = .ok (.sipush 256, 3) := by decide +kernel
theorem d_Md_findNeeds_6 : decode bc_Md_findNeeds 6 = .ok (.if_icmp .ge 23, 3) := by decide +kernel
theorem d_Md_findNeeds_9 : decode bc_Md_findNeeds 9 = .ok (.aload_n 0, 1) := by decide +kernel
theorem d_Md_findNeeds_10 : decode bc_Md_findNeeds 10 = .ok (.getfield 151, 3) := by decide +kernel
theorem d_Md_findNeeds_13 : decode bc_Md_findNeeds 13 = .ok (.iload_n 1, 1) := by decide +kernel
theorem d_Md_findNeeds_14 : decode bc_Md_findNeeds 14 = .ok (.iconst 0, 1) := by decide +kernel
theorem d_Md_findNeeds_15 : decode bc_Md_findNeeds 15 = .ok (.bastore, 1) := by decide +kernel
theorem d_Md_findNeeds_16 : decode bc_Md_findNeeds 16 = .ok (.aload_n 0, 1) := by decide +kernel
theorem d_Md_findNeeds_17 : decode bc_Md_findNeeds 17 = .ok (.getfield 154, 3) := by decide +kernel
theorem d_Md_findNeeds_20 : decode bc_Md_findNeeds 20 = .ok (.iload_n 1, 1) := by decide +kernel
theorem d_Md_findNeeds_21 : decode bc_Md_findNeeds 21 = .ok (.iconst 0, 1) := by decide +kernel
theorem d_Md_findNeeds_22 : decode bc_Md_findNeeds 22 = .ok (.bastore, 1) := by decide +kernel
theorem d_Md_findNeeds_23 : decode bc_Md_findNeeds 23 = .ok (.iinc 1 1, 3) := by decide +kernel
theorem d_Md_findNeeds_26 : decode bc_Md_findNeeds 26 = .ok (.goto (-24), 3) := by decide +kernel
theorem d_Md_findNeeds_29 : decode bc_Md_findNeeds 29 = .ok (.iconst 0, 1) := by decide +kernel
theorem d_Md_findNeeds_30 : decode bc_Md_findNeeds 30 = .ok (.istore_n 1, 1) := by decide +kernel
theorem d_Md_findNeeds_31 : decode bc_Md_findNeeds 31 = .ok (.iload_n 1, 1) := by decide +kernel
theorem d_Md_findNeeds_32 : decode bc_Md_findNeeds 32 = .ok (.aload_n 0, 1) := by decide +kernel
theorem d_Md_findNeeds_33 : decode bc_Md_findNeeds 33 = .ok (.getfield 279, 3) := by decide +kernel
theorem d_Md_findNeeds_36 : decode bc_Md_findNeeds 36 = .ok (.if_icmp .ge 93, 3) := by decide +kernel
theorem d_Md_findNeeds_39 : decode bc_Md_findNeeds 39 = .ok (.aload_n 0, 1) := by decide +kernel
theorem d_Md_findNeeds_40 : decode bc_Md_findNeeds 40 = .ok (.getfield 42, 3) := by decide +kernel
theorem d_Md_findNeeds_43 : decode bc_Md_findNeeds 43 = .ok (.iload_n 1, 1) := by decide +kernel
theorem d_Md_findNeeds_44 : decode bc_Md_findNeeds 44 = .ok (.iaload, 1) := by decide +kernel
theorem d_Md_findNeeds_45 : decode bc_Md_findNeeds 45 = .ok (.iconst 5, 1) := by decide +kernel
theorem d_Md_findNeeds_46 : decode bc_Md_findNeeds 46 = .ok (.if_icmp .ne 16, 3) := by decide +kernel
theorem d_Md_findNeeds_49 : decode bc_Md_findNeeds 49 = .ok (.aload_n 0, 1) := by decide +kernel
theorem d_Md_findNeeds_50 : decode bc_Md_findNeeds 50 = .ok (.aload_n 0, 1) := by decide +kernel
theorem d_Md_findNeeds_51 : decode bc_Md_findNeeds 51 = .ok (.getfield 45, 3) := by decide +kernel
theorem d_Md_findNeeds_54 : decode bc_Md_findNeeds 54 = .ok (.iload_n 1, 1) := by decide +kernel
theorem d_Md_findNeeds_55 : decode bc_Md_findNeeds 55 = .ok (.laload, 1) := by decide +kernel
theorem d_Md_findNeeds_56 : decode bc_Md_findNeeds 56 = .ok (.invokevirtual 403, 3) := by decide +kernel
theorem d_Md_findNeeds_59 : decode bc_Md_findNeeds 59 = .ok (.goto 4, 3) := by decide +kernel
theorem d_Md_findNeeds_62 : decode bc_Md_findNeeds 62 = .ok (.iconst (-1), 1) := by decide +kernel
theorem d_Md_findNeeds_63 : decode bc_Md_findNeeds 63 = .ok (.istore_n 2, 1) := by decide +kernel
theorem d_Md_findNeeds_64 : decode bc_Md_findNeeds 64 = .ok (.iload_n 2, 1) := by decide +kernel
theorem d_Md_findNeeds_65 : decode bc_Md_findNeeds 65 = .ok (.ifCond .lt 58, 3) := by decide +kernel
theorem d_Md_findNeeds_68 : decode bc_Md_findNeeds 68 = .ok (.aload_n 0, 1) := by decide +kernel
theorem d_Md_findNeeds_69 : decode bc_Md_findNeeds 69 = .ok (.getfield 51, 3) := by decide +kernel
theorem d_Md_findNeeds_72 : decode bc_Md_findNeeds 72 = .ok (.iload_n 1, 1) := by decide +kernel
theorem d_Md_findNeeds_73 : decode bc_Md_findNeeds 73 = .ok (.iaload, 1) := by decide +kernel
theorem d_Md_findNeeds_74 : decode bc_Md_findNeeds 74 = .ok (.istore_n 3, 1) := by decide +kernel
theorem d_Md_findNeeds_75 : decode bc_Md_findNeeds 75 = .ok (.aload_n 0, 1) := by decide +kernel
theorem d_Md_findNeeds_76 : decode bc_Md_findNeeds 76 = .ok (.getfield 151, 3) := by decide +kernel
theorem d_Md_findNeeds_79 : decode bc_Md_findNeeds 79 = .ok (.bipush 16, 2) := by decide +kernel
theorem d_Md_findNeeds_81 : decode bc_Md_findNeeds 81 = .ok (.iload_n 3, 1) := by decide +kernel
theorem d_Md_findNeeds_82 : decode bc_Md_findNeeds 82 = .ok (.imul, 1) := by decide +kernel
theorem d_Md_findNeeds_83 : decode bc_Md_findNeeds 83 = .ok (.iload_n 2, 1) := by decide +kernel
theorem d_Md_findNeeds_84 : decode bc_Md_findNeeds 84 = .ok (.iadd, 1) := by decide +kernel
theorem d_Md_findNeeds_85 : decode bc_Md_findNeeds 85 = .ok (.iconst 1, 1) := by decide +kernel
theorem d_Md_findNeeds_86 : decode bc_Md_findNeeds 86 = .ok (.bastore, 1) := by decide +kernel
theorem d_Md_findNeeds_87 : decode bc_Md_findNeeds 87 = .ok (.aload_n 0, 1) := by decide +kernel
theorem d_Md_findNeeds_88 : decode bc_Md_findNeeds 88 = .ok (.getfield 154, 3) := by decide +kernel
theorem d_Md_findNeeds_91 : decode bc_Md_findNeeds 91 = .ok (.bipush 16, 2) := by decide +kernel
theorem d_Md_findNeeds_93 : decode bc_Md_findNeeds 93 = .ok (.iload_n 3, 1) := by decide +kernel
theorem d_Md_findNeeds_94 : decode bc_Md_findNeeds 94 = .ok (.imul, 1) := by decide +kernel
theorem d_Md_findNeeds_95 : decode bc_Md_findNeeds 95 = .ok (.iload_n 2, 1) := by decide +kernel
theorem d_Md_findNeeds_96 : decode bc_Md_findNeeds 96 = .ok (.iadd, 1) := by decide +kernel
theorem d_Md_findNeeds_97 : decode bc_Md_findNeeds 97 = .ok (.aload_n 0, 1) := by decide +kernel
theorem d_Md_findNeeds_98 : decode bc_Md_findNeeds 98 = .ok (.getfield 112, 3) := by decide +kernel
theorem d_Md_findNeeds_101 : decode bc_Md_findNeeds 101 = .ok (.iload_n 3, 1) := by decide +kernel
theorem d_Md_findNeeds_102 : decode bc_Md_findNeeds 102 = .ok (.iaload, 1) := by decide +kernel
theorem d_Md_findNeeds_103 : decode bc_Md_findNeeds 103 = .ok (.iconst 1, 1) := by decide +kernel
theorem d_Md_findNeeds_104 : decode bc_Md_findNeeds 104 = .ok (.if_icmp .ne 17, 3) := by decide +kernel
theorem d_Md_findNeeds_107 : decode bc_Md_findNeeds 107 = .ok (.aload_n 0, 1) := by decide +kernel
theorem d_Md_findNeeds_108 : decode bc_Md_findNeeds 108 = .ok (.getfield 112, 3) := by decide +kernel
theorem d_Md_findNeeds_111 : decode bc_Md_findNeeds 111 = .ok (.iload_n 2, 1) := by decide +kernel
theorem d_Md_findNeeds_112 : decode bc_Md_findNeeds 112 = .ok (.iaload, 1) := by decide +kernel
theorem d_Md_findNeeds_113 : decode bc_Md_findNeeds 113 = .ok (.iconst 1, 1) := by decide +kernel
theorem d_Md_findNeeds_114 : decode bc_Md_findNeeds 114 = .ok (.if_icmp .ne 7, 3) := by decide +kernel
theorem d_Md_findNeeds_117 : decode bc_Md_findNeeds 117 = .ok (.iconst 1, 1) := by decide +kernel
theorem d_Md_findNeeds_118 : decode bc_Md_findNeeds 118 = .ok (.goto 4, 3) := by decide +kernel
theorem d_Md_findNeeds_121 : decode bc_Md_findNeeds 121 = .ok (.iconst 0, 1) := by decide +kernel
theorem d_Md_findNeeds_122 : decode bc_Md_findNeeds 122 = .ok (.bastore, 1) := by decide +kernel
theorem d_Md_findNeeds_123 : decode bc_Md_findNeeds 123 = .ok (.iinc 1 1, 3) := by decide +kernel
theorem d_Md_findNeeds_126 : decode bc_Md_findNeeds 126 = .ok (.goto (-95), 3) := by decide +kernel
theorem d_Md_findNeeds_129 : decode bc_Md_findNeeds 129 = .ok (.aload_n 0, 1) := by decide +kernel
theorem d_Md_findNeeds_130 : decode bc_Md_findNeeds 130 = .ok (.getfield 151, 3) := by decide +kernel
theorem d_Md_findNeeds_133 : decode bc_Md_findNeeds 133 = .ok (.invokestatic 421, 3) := by decide +kernel
theorem d_Md_findNeeds_136 : decode bc_Md_findNeeds 136 = .ok (.aload_n 0, 1) := by decide +kernel
theorem d_Md_findNeeds_137 : decode bc_Md_findNeeds 137 = .ok (.getfield 154, 3) := by decide +kernel
theorem d_Md_findNeeds_140 : decode bc_Md_findNeeds 140 = .ok (.invokestatic 421, 3) := by decide +kernel
theorem d_Md_findNeeds_143 : decode bc_Md_findNeeds 143 = .ok (.return_, 1) := by decide +kernel
abbrev bc_Md_lookRings : ByteArray := prog_14_method_51_code
abbrev y_Md_lookRings : MethodName := ⟨"KindRoundsModel", "lookRings", "()V"⟩
theorem d_Md_lookRings_0 : decode bc_Md_lookRings 0 = .ok (.aload_n 0, 1) := by decide +kernel
theorem d_Md_lookRings_1 : decode bc_Md_lookRings 1 = .ok (.invokevirtual 425, 3) := by decide +kernel
theorem d_Md_lookRings_4 : decode bc_Md_lookRings 4 = .ok (.iconst 0, 1) := by decide +kernel
theorem d_Md_lookRings_5 : decode bc_Md_lookRings 5 = .ok (.istore_n 1, 1) := by decide +kernel
theorem d_Md_lookRings_6 : decode bc_Md_lookRings 6 = .ok (.iload_n 1, 1) := by decide +kernel
theorem d_Md_lookRings_7 : decode bc_Md_lookRings 7 = .ok (.aload_n 0, 1) := by decide +kernel
theorem d_Md_lookRings_8 : decode bc_Md_lookRings 8 = .ok (.getfield 364, 3) := by decide +kernel
theorem d_Md_lookRings_11 : decode bc_Md_lookRings 11 = .ok (.if_icmp .ge 49, 3) := by decide +kernel
theorem d_Md_lookRings_14 : decode bc_Md_lookRings 14 = .ok (.aload_n 0, 1) := by decide +kernel
theorem d_Md_lookRings_15 : decode bc_Md_lookRings 15 = .ok (.getfield 221, 3) := by decide +kernel
theorem d_Md_lookRings_18 : decode bc_Md_lookRings 18 = .ok (.ifCond .ne 42, 3) := by decide +kernel
theorem d_Md_lookRings_21 : decode bc_Md_lookRings 21 = .ok (.aload_n 0, 1) := by decide +kernel
theorem d_Md_lookRings_22 : decode bc_Md_lookRings 22 = .ok (.getfield 112, 3) := by decide +kernel
theorem d_Md_lookRings_25 : decode bc_Md_lookRings 25 = .ok (.iload_n 1, 1) := by decide +kernel
theorem d_Md_lookRings_26 : decode bc_Md_lookRings 26 = .ok (.iaload, 1) := by decide +kernel
theorem d_Md_lookRings_27 : decode bc_Md_lookRings 27 = .ok (.iconst 1, 1) := by decide +kernel
theorem d_Md_lookRings_28 : decode bc_Md_lookRings 28 = .ok (.if_icmp .ne 26, 3) := by decide +kernel
theorem d_Md_lookRings_31 : decode bc_Md_lookRings 31 = .ok (.aload_n 0, 1) := by decide +kernel
theorem d_Md_lookRings_32 : decode bc_Md_lookRings 32 = .ok (.getfield 154, 3) := by decide +kernel
theorem d_Md_lookRings_35 : decode bc_Md_lookRings 35 = .ok (.bipush 17, 2) := by decide +kernel
theorem d_Md_lookRings_37 : decode bc_Md_lookRings 37 = .ok (.iload_n 1, 1) := by decide +kernel
theorem d_Md_lookRings_38 : decode bc_Md_lookRings 38 = .ok (.imul, 1) := by decide +kernel
theorem d_Md_lookRings_39 : decode bc_Md_lookRings 39 = .ok (.baload, 1) := by decide +kernel
theorem d_Md_lookRings_40 : decode bc_Md_lookRings 40 = .ok (.ifCond .eq 14, 3) := by decide +kernel
theorem d_Md_lookRings_43 : decode bc_Md_lookRings 43 = .ok (.aload_n 0, 1) := by decide +kernel
theorem d_Md_lookRings_44 : decode bc_Md_lookRings 44 = .ok (.iconst 4, 1) := by decide +kernel
theorem d_Md_lookRings_45 : decode bc_Md_lookRings 45 = .ok (.aload_n 0, 1) := by decide +kernel
theorem d_Md_lookRings_46 : decode bc_Md_lookRings 46 = .ok (.getfield 118, 3) := by decide +kernel
theorem d_Md_lookRings_49 : decode bc_Md_lookRings 49 = .ok (.iload_n 1, 1) := by decide +kernel
theorem d_Md_lookRings_50 : decode bc_Md_lookRings 50 = .ok (.iaload, 1) := by decide +kernel
theorem d_Md_lookRings_51 : decode bc_Md_lookRings 51 = .ok (.invokevirtual 251, 3) := by decide +kernel
theorem d_Md_lookRings_54 : decode bc_Md_lookRings 54 = .ok (.iinc 1 1, 3) := by decide +kernel
theorem d_Md_lookRings_57 : decode bc_Md_lookRings 57 = .ok (.goto (-51), 3) := by decide +kernel
theorem d_Md_lookRings_60 : decode bc_Md_lookRings 60 = .ok (.return_, 1) := by decide +kernel
abbrev bc_Md_lookTakes : ByteArray := prog_14_method_52_code
abbrev y_Md_lookTakes : MethodName := ⟨"KindRoundsModel", "lookTakes", "()V"⟩
theorem d_Md_lookTakes_0 : decode bc_Md_lookTakes 0 = .ok (.iconst 0, 1) := by decide +kernel
theorem d_Md_lookTakes_1 : decode bc_Md_lookTakes 1 = .ok (.istore_n 1, 1) := by decide +kernel
theorem d_Md_lookTakes_2 : decode bc_Md_lookTakes 2 = .ok (.iload_n 1, 1) := by decide +kernel
theorem d_Md_lookTakes_3 : decode bc_Md_lookTakes 3 = .ok (.aload_n 0, 1) := by decide +kernel
theorem d_Md_lookTakes_4 : decode bc_Md_lookTakes 4 = .ok (.getfield 279, 3) := by decide +kernel
theorem d_Md_lookTakes_7 : decode bc_Md_lookTakes 7 = .ok (.if_icmp .ge 99, 3) := by decide +kernel
theorem d_Md_lookTakes_10 : decode bc_Md_lookTakes 10 = .ok (.aload_n 0, 1) := by decide +kernel
theorem d_Md_lookTakes_11 : decode bc_Md_lookTakes 11 = .ok (.getfield 221, 3) := by decide +kernel
theorem d_Md_lookTakes_14 : decode bc_Md_lookTakes 14 = .ok (.ifCond .ne 92, 3) := by decide +kernel
theorem d_Md_lookTakes_17 : decode bc_Md_lookTakes 17 = .ok (.aload_n 0, 1) := by decide +kernel
theorem d_Md_lookTakes_18 : decode bc_Md_lookTakes 18 = .ok (.getfield 42, 3) := by decide +kernel
theorem d_Md_lookTakes_21 : decode bc_Md_lookTakes 21 = .ok (.iload_n 1, 1) := by decide +kernel
theorem d_Md_lookTakes_22 : decode bc_Md_lookTakes 22 = .ok (.iaload, 1) := by decide +kernel
theorem d_Md_lookTakes_23 : decode bc_Md_lookTakes 23 = .ok (.iconst 5, 1) := by decide +kernel
theorem d_Md_lookTakes_24 : decode bc_Md_lookTakes 24 = .ok (.if_icmp .ne 16, 3) := by decide +kernel
theorem d_Md_lookTakes_27 : decode bc_Md_lookTakes 27 = .ok (.aload_n 0, 1) := by decide +kernel
theorem d_Md_lookTakes_28 : decode bc_Md_lookTakes 28 = .ok (.aload_n 0, 1) := by decide +kernel
theorem d_Md_lookTakes_29 : decode bc_Md_lookTakes 29 = .ok (.getfield 45, 3) := by decide +kernel
theorem d_Md_lookTakes_32 : decode bc_Md_lookTakes 32 = .ok (.iload_n 1, 1) := by decide +kernel
theorem d_Md_lookTakes_33 : decode bc_Md_lookTakes 33 = .ok (.laload, 1) := by decide +kernel
theorem d_Md_lookTakes_34 : decode bc_Md_lookTakes 34 = .ok (.invokevirtual 403, 3) := by decide +kernel
theorem d_Md_lookTakes_37 : decode bc_Md_lookTakes 37 = .ok (.goto 4, 3) := by decide +kernel
theorem d_Md_lookTakes_40 : decode bc_Md_lookTakes 40 = .ok (.iconst (-1), 1) := by decide +kernel
theorem d_Md_lookTakes_41 : decode bc_Md_lookTakes 41 = .ok (.istore_n 2, 1) := by decide +kernel
theorem d_Md_lookTakes_42 : decode bc_Md_lookTakes 42 = .ok (.iload_n 2, 1) := by decide +kernel
theorem d_Md_lookTakes_43 : decode bc_Md_lookTakes 43 = .ok (.ifCond .lt 57, 3) := by decide +kernel
theorem d_Md_lookTakes_46 : decode bc_Md_lookTakes 46 = .ok (.aload_n 0, 1) := by decide +kernel
theorem d_Md_lookTakes_47 : decode bc_Md_lookTakes 47 = .ok (.getfield 112, 3) := by decide +kernel
theorem d_Md_lookTakes_50 : decode bc_Md_lookTakes 50 = .ok (.iload_n 2, 1) := by decide +kernel
theorem d_Md_lookTakes_51 : decode bc_Md_lookTakes 51 = .ok (.iaload, 1) := by decide +kernel
theorem d_Md_lookTakes_52 : decode bc_Md_lookTakes 52 = .ok (.iconst 1, 1) := by decide +kernel
theorem d_Md_lookTakes_53 : decode bc_Md_lookTakes 53 = .ok (.if_icmp .ne 47, 3) := by decide +kernel
theorem d_Md_lookTakes_56 : decode bc_Md_lookTakes 56 = .ok (.aload_n 0, 1) := by decide +kernel
theorem d_Md_lookTakes_57 : decode bc_Md_lookTakes 57 = .ok (.getfield 121, 3) := by decide +kernel
theorem d_Md_lookTakes_60 : decode bc_Md_lookTakes 60 = .ok (.iload_n 2, 1) := by decide +kernel
theorem d_Md_lookTakes_61 : decode bc_Md_lookTakes 61 = .ok (.iaload, 1) := by decide +kernel
theorem d_Md_lookTakes_62 : decode bc_Md_lookTakes 62 = .ok (.ifCond .le 38, 3) := by decide +kernel
theorem d_Md_lookTakes_65 : decode bc_Md_lookTakes 65 = .ok (.aload_n 0, 1) := by decide +kernel
theorem d_Md_lookTakes_66 : decode bc_Md_lookTakes 66 = .ok (.getfield 57, 3) := by decide +kernel
theorem d_Md_lookTakes_69 : decode bc_Md_lookTakes 69 = .ok (.iload_n 1, 1) := by decide +kernel
theorem d_Md_lookTakes_70 : decode bc_Md_lookTakes 70 = .ok (.baload, 1) := by decide +kernel
theorem d_Md_lookTakes_71 : decode bc_Md_lookTakes 71 = .ok (.ifCond .eq 18, 3) := by decide +kernel
theorem d_Md_lookTakes_74 : decode bc_Md_lookTakes 74 = .ok (.aload_n 0, 1) := by decide +kernel
theorem d_Md_lookTakes_75 : decode bc_Md_lookTakes 75 = .ok (.getfield 61, 3) := by decide +kernel
theorem d_Md_lookTakes_78 : decode bc_Md_lookTakes 78 = .ok (.iload_n 1, 1) := by decide +kernel
theorem d_Md_lookTakes_79 : decode bc_Md_lookTakes 79 = .ok (.iaload, 1) := by decide +kernel
theorem d_Md_lookTakes_80 : decode bc_Md_lookTakes 80 = .ok (.aload_n 0, 1) := by decide +kernel
theorem d_Md_lookTakes_81 : decode bc_Md_lookTakes 81 = .ok (.getfield 121, 3) := by decide +kernel
theorem d_Md_lookTakes_84 : decode bc_Md_lookTakes 84 = .ok (.iload_n 2, 1) := by decide +kernel
theorem d_Md_lookTakes_85 : decode bc_Md_lookTakes 85 = .ok (.iaload, 1) := by decide +kernel
theorem d_Md_lookTakes_86 : decode bc_Md_lookTakes 86 = .ok (.if_icmp .ge 14, 3) := by decide +kernel
theorem d_Md_lookTakes_89 : decode bc_Md_lookTakes 89 = .ok (.aload_n 0, 1) := by decide +kernel
theorem d_Md_lookTakes_90 : decode bc_Md_lookTakes 90 = .ok (.iconst 5, 1) := by decide +kernel
theorem d_Md_lookTakes_91 : decode bc_Md_lookTakes 91 = .ok (.aload_n 0, 1) := by decide +kernel
theorem d_Md_lookTakes_92 : decode bc_Md_lookTakes 92 = .ok (.getfield 48, 3) := by decide +kernel
theorem d_Md_lookTakes_95 : decode bc_Md_lookTakes 95 = .ok (.iload_n 1, 1) := by decide +kernel
theorem d_Md_lookTakes_96 : decode bc_Md_lookTakes 96 = .ok (.iaload, 1) := by decide +kernel
theorem d_Md_lookTakes_97 : decode bc_Md_lookTakes 97 = .ok (.invokevirtual 251, 3) := by decide +kernel
theorem d_Md_lookTakes_100 : decode bc_Md_lookTakes 100 = .ok (.iinc 1 1, 3) := by decide +kernel
theorem d_Md_lookTakes_103 : decode bc_Md_lookTakes 103 = .ok (.goto (-101), 3) := by decide +kernel
theorem d_Md_lookTakes_106 : decode bc_Md_lookTakes 106 = .ok (.return_, 1) := by decide +kernel
abbrev bc_Md_isTogether : ByteArray := prog_14_method_53_code
abbrev y_Md_isTogether : MethodName := ⟨"KindRoundsModel", "isTogether", "(II)Z"⟩
theorem d_Md_isTogether_0 : decode bc_Md_isTogether 0 = .ok (.iload_n 1, 1) := by decide +kernel
theorem d_Md_isTogether_1 : decode bc_Md_isTogether 1 = .ok (.iload_n 2, 1) := by decide +kernel
theorem d_Md_isTogether_2 : decode bc_Md_isTogether 2 = .ok (.if_icmp .eq 31, 3) := by decide +kernel
theorem d_Md_isTogether_5 : decode bc_Md_isTogether 5 = .ok (.aload_n 0, 1) := by decide +kernel
theorem d_Md_isTogether_6 : decode bc_Md_isTogether 6 = .ok (.getfield 151, 3) := by decide +kernel
theorem d_Md_isTogether_9 : decode bc_Md_isTogether 9 = .ok (.bipush 16, 2) := by decide +kernel
theorem d_Md_isTogether_11 : decode bc_Md_isTogether 11 = .ok (.iload_n 1, 1) := by decide +kernel
theorem d_Md_isTogether_12 : decode bc_Md_isTogether 12 = .ok (.imul, 1) := by decide +kernel
theorem d_Md_isTogether_13 : decode bc_Md_isTogether 13 = .ok (.iload_n 2, 1) := by decide +kernel
theorem d_Md_isTogether_14 : decode bc_Md_isTogether 14 = .ok (.iadd, 1) := by decide +kernel
theorem d_Md_isTogether_15 : decode bc_Md_isTogether 15 = .ok (.baload, 1) := by decide +kernel
theorem d_Md_isTogether_16 : decode bc_Md_isTogether 16 = .ok (.ifCond .eq 21, 3) := by decide +kernel
theorem d_Md_isTogether_19 : decode bc_Md_isTogether 19 = .ok (.aload_n 0, 1) := by decide +kernel
theorem d_Md_isTogether_20 : decode bc_Md_isTogether 20 = .ok (.getfield 151, 3) := by decide +kernel
theorem d_Md_isTogether_23 : decode bc_Md_isTogether 23 = .ok (.bipush 16, 2) := by decide +kernel
theorem d_Md_isTogether_25 : decode bc_Md_isTogether 25 = .ok (.iload_n 2, 1) := by decide +kernel
theorem d_Md_isTogether_26 : decode bc_Md_isTogether 26 = .ok (.imul, 1) := by decide +kernel
theorem d_Md_isTogether_27 : decode bc_Md_isTogether 27 = .ok (.iload_n 1, 1) := by decide +kernel
theorem d_Md_isTogether_28 : decode bc_Md_isTogether 28 = .ok (.iadd, 1) := by decide +kernel
theorem d_Md_isTogether_29 : decode bc_Md_isTogether 29 = .ok (.baload, 1) := by decide +kernel
theorem d_Md_isTogether_30 : decode bc_Md_isTogether 30 = .ok (.ifCond .eq 7, 3) := by decide +kernel
theorem d_Md_isTogether_33 : decode bc_Md_isTogether 33 = .ok (.iconst 1, 1) := by decide +kernel
theorem d_Md_isTogether_34 : decode bc_Md_isTogether 34 = .ok (.goto 4, 3) := by decide +kernel
theorem d_Md_isTogether_37 : decode bc_Md_isTogether 37 = .ok (.iconst 0, 1) := by decide +kernel
theorem d_Md_isTogether_38 : decode bc_Md_isTogether 38 = .ok (.ireturn, 1) := by decide +kernel
abbrev bc_Md_canCome : ByteArray := prog_14_method_54_code
abbrev y_Md_canCome : MethodName := ⟨"KindRoundsModel", "canCome", "(I)Z"⟩
theorem d_Md_canCome_0 : decode bc_Md_canCome 0 = .ok (.iconst 0, 1) := by decide +kernel
theorem d_Md_canCome_1 : decode bc_Md_canCome 1 = .ok (.istore_n 2, 1) := by decide +kernel
theorem d_Md_canCome_2 : decode bc_Md_canCome 2 = .ok (.iload_n 2, 1) := by decide +kernel
theorem d_Md_canCome_3 : decode bc_Md_canCome 3 = .ok (.aload_n 0, 1) := by decide +kernel
theorem d_Md_canCome_4 : decode bc_Md_canCome 4 = .ok (.getfield 364, 3) := by decide +kernel
theorem d_Md_canCome_7 : decode bc_Md_canCome 7 = .ok (.if_icmp .ge 68, 3) := by decide +kernel
theorem d_Md_canCome_10 : decode bc_Md_canCome 10 = .ok (.iconst 0, 1) := by decide +kernel
theorem d_Md_canCome_11 : decode bc_Md_canCome 11 = .ok (.istore_n 3, 1) := by decide +kernel
theorem d_Md_canCome_12 : decode bc_Md_canCome 12 = .ok (.iload_n 3, 1) := by decide +kernel
theorem d_Md_canCome_13 : decode bc_Md_canCome 13 = .ok (.aload_n 0, 1) := by decide +kernel
theorem d_Md_canCome_14 : decode bc_Md_canCome 14 = .ok (.getfield 364, 3) := by decide +kernel
theorem d_Md_canCome_17 : decode bc_Md_canCome 17 = .ok (.if_icmp .ge 52, 3) := by decide +kernel
theorem d_Md_canCome_20 : decode bc_Md_canCome 20 = .ok (.aload_n 0, 1) := by decide +kernel
theorem d_Md_canCome_21 : decode bc_Md_canCome 21 = .ok (.iload_n 1, 1) := by decide +kernel
theorem d_Md_canCome_22 : decode bc_Md_canCome 22 = .ok (.iload_n 2, 1) := by decide +kernel
theorem d_Md_canCome_23 : decode bc_Md_canCome 23 = .ok (.invokevirtual 428, 3) := by decide +kernel
theorem d_Md_canCome_26 : decode bc_Md_canCome 26 = .ok (.ifCond .eq 43, 3) := by decide +kernel
theorem d_Md_canCome_29 : decode bc_Md_canCome 29 = .ok (.aload_n 0, 1) := by decide +kernel
theorem d_Md_canCome_30 : decode bc_Md_canCome 30 = .ok (.getfield 151, 3) := by decide +kernel
theorem d_Md_canCome_33 : decode bc_Md_canCome 33 = .ok (.bipush 16, 2) := by decide +kernel
theorem d_Md_canCome_35 : decode bc_Md_canCome 35 = .ok (.iload_n 2, 1) := by decide +kernel
theorem d_Md_canCome_36 : decode bc_Md_canCome 36 = .ok (.imul, 1) := by decide +kernel
theorem d_Md_canCome_37 : decode bc_Md_canCome 37 = .ok (.iload_n 3, 1) := by decide +kernel
theorem d_Md_canCome_38 : decode bc_Md_canCome 38 = .ok (.iadd, 1) := by decide +kernel
theorem d_Md_canCome_39 : decode bc_Md_canCome 39 = .ok (.baload, 1) := by decide +kernel
theorem d_Md_canCome_40 : decode bc_Md_canCome 40 = .ok (.ifCond .eq 23, 3) := by decide +kernel
theorem d_Md_canCome_43 : decode bc_Md_canCome 43 = .ok (.aload_n 0, 1) := by decide +kernel
theorem d_Md_canCome_44 : decode bc_Md_canCome 44 = .ok (.getfield 157, 3) := by decide +kernel
theorem d_Md_canCome_47 : decode bc_Md_canCome 47 = .ok (.iload_n 3, 1) := by decide +kernel
theorem d_Md_canCome_48 : decode bc_Md_canCome 48 = .ok (.iaload, 1) := by decide +kernel
theorem d_Md_canCome_49 : decode bc_Md_canCome 49 = .ok (.ifCond .ge 14, 3) := by decide +kernel
theorem d_Md_canCome_52 : decode bc_Md_canCome 52 = .ok (.aload_n 0, 1) := by decide +kernel
theorem d_Md_canCome_53 : decode bc_Md_canCome 53 = .ok (.iload_n 1, 1) := by decide +kernel
theorem d_Md_canCome_54 : decode bc_Md_canCome 54 = .ok (.iload_n 3, 1) := by decide +kernel
theorem d_Md_canCome_55 : decode bc_Md_canCome 55 = .ok (.invokevirtual 428, 3) := by decide +kernel
theorem d_Md_canCome_58 : decode bc_Md_canCome 58 = .ok (.ifCond .ne 5, 3) := by decide +kernel
theorem d_Md_canCome_61 : decode bc_Md_canCome 61 = .ok (.iconst 0, 1) := by decide +kernel
theorem d_Md_canCome_62 : decode bc_Md_canCome 62 = .ok (.ireturn, 1) := by decide +kernel
theorem d_Md_canCome_63 : decode bc_Md_canCome 63 = .ok (.iinc 3 1, 3) := by decide +kernel
theorem d_Md_canCome_66 : decode bc_Md_canCome 66 = .ok (.goto (-54), 3) := by decide +kernel
theorem d_Md_canCome_69 : decode bc_Md_canCome 69 = .ok (.iinc 2 1, 3) := by decide +kernel
theorem d_Md_canCome_72 : decode bc_Md_canCome 72 = .ok (.goto (-70), 3) := by decide +kernel
theorem d_Md_canCome_75 : decode bc_Md_canCome 75 = .ok (.iconst 1, 1) := by decide +kernel
theorem d_Md_canCome_76 : decode bc_Md_canCome 76 = .ok (.ireturn, 1) := by decide +kernel
abbrev bc_Md_solveAll : ByteArray := prog_14_method_55_code
abbrev y_Md_solveAll : MethodName := ⟨"KindRoundsModel", "solveAll", "()V"⟩
theorem d_Md_solveAll_0 : decode bc_Md_solveAll 0 = .ok (.aload_n 0, 1) := by decide +kernel
theorem d_Md_solveAll_1 : decode bc_Md_solveAll 1 = .ok (.iconst 0, 1) := by decide +kernel
theorem d_Md_solveAll_2 : decode bc_Md_solveAll 2 = .ok (.putfield 432, 3) := by decide +kernel
theorem d_Md_solveAll_5 : decode bc_Md_solveAll 5 = .ok (.iconst 0, 1) := by decide +kernel
theorem d_Md_solveAll_6 : decode bc_Md_solveAll 6 = .ok (.istore_n 1, 1) := by decide +kernel
theorem d_Md_solveAll_7 : decode bc_Md_solveAll 7 = .ok (.iload_n 1, 1) := by decide +kernel
theorem d_Md_solveAll_8 : decode bc_Md_solveAll 8 = .ok (.aload_n 0, 1) := by decide +kernel
theorem d_Md_solveAll_9 : decode bc_Md_solveAll 9 = .ok (.getfield 364, 3) := by decide +kernel
theorem d_Md_solveAll_12 : decode bc_Md_solveAll 12 = .ok (.if_icmp .ge 16, 3) := by decide +kernel
theorem d_Md_solveAll_15 : decode bc_Md_solveAll 15 = .ok (.aload_n 0, 1) := by decide +kernel
theorem d_Md_solveAll_16 : decode bc_Md_solveAll 16 = .ok (.getfield 157, 3) := by decide +kernel
theorem d_Md_solveAll_19 : decode bc_Md_solveAll 19 = .ok (.iload_n 1, 1) := by decide +kernel
theorem d_Md_solveAll_20 : decode bc_Md_solveAll 20 = .ok (.iconst (-1), 1) := by decide +kernel
theorem d_Md_solveAll_21 : decode bc_Md_solveAll 21 = .ok (.iastore, 1) := by decide +kernel
theorem d_Md_solveAll_22 : decode bc_Md_solveAll 22 = .ok (.iinc 1 1, 3) := by decide +kernel
theorem d_Md_solveAll_25 : decode bc_Md_solveAll 25 = .ok (.goto (-18), 3) := by decide +kernel
theorem d_Md_solveAll_28 : decode bc_Md_solveAll 28 = .ok (.iconst 0, 1) := by decide +kernel
theorem d_Md_solveAll_29 : decode bc_Md_solveAll 29 = .ok (.istore_n 1, 1) := by decide +kernel
theorem d_Md_solveAll_30 : decode bc_Md_solveAll 30 = .ok (.iload_n 1, 1) := by decide +kernel
theorem d_Md_solveAll_31 : decode bc_Md_solveAll 31 = .ok (.aload_n 0, 1) := by decide +kernel
theorem d_Md_solveAll_32 : decode bc_Md_solveAll 32 = .ok (.getfield 364, 3) := by decide +kernel
theorem d_Md_solveAll_35 : decode bc_Md_solveAll 35 = .ok (.if_icmp .ge 124, 3) := by decide +kernel
theorem d_Md_solveAll_38 : decode bc_Md_solveAll 38 = .ok (.aload_n 0, 1) := by decide +kernel
theorem d_Md_solveAll_39 : decode bc_Md_solveAll 39 = .ok (.getfield 221, 3) := by decide +kernel
theorem d_Md_solveAll_42 : decode bc_Md_solveAll 42 = .ok (.ifCond .ne 117, 3) := by decide +kernel
theorem d_Md_solveAll_45 : decode bc_Md_solveAll 45 = .ok (.iconst (-1), 1) := by decide +kernel
theorem d_Md_solveAll_46 : decode bc_Md_solveAll 46 = .ok (.istore_n 2, 1) := by decide +kernel
theorem d_Md_solveAll_47 : decode bc_Md_solveAll 47 = .ok (.aload_n 0, 1) := by decide +kernel
theorem d_Md_solveAll_48 : decode bc_Md_solveAll 48 = .ok (.getfield 364, 3) := by decide +kernel
theorem d_Md_solveAll_51 : decode bc_Md_solveAll 51 = .ok (.iconst 1, 1) := by decide +kernel
theorem d_Md_solveAll_52 : decode bc_Md_solveAll 52 = .ok (.isub, 1) := by decide +kernel
theorem d_Md_solveAll_53 : decode bc_Md_solveAll 53 = .ok (.istore_n 3, 1) := by decide +kernel
theorem d_Md_solveAll_54 : decode bc_Md_solveAll 54 = .ok (.iload_n 3, 1) := by decide +kernel
theorem d_Md_solveAll_55 : decode bc_Md_solveAll 55 = .ok (.ifCond .lt 32, 3) := by decide +kernel
theorem d_Md_solveAll_58 : decode bc_Md_solveAll 58 = .ok (.aload_n 0, 1) := by decide +kernel
theorem d_Md_solveAll_59 : decode bc_Md_solveAll 59 = .ok (.getfield 157, 3) := by decide +kernel
theorem d_Md_solveAll_62 : decode bc_Md_solveAll 62 = .ok (.iload_n 3, 1) := by decide +kernel
theorem d_Md_solveAll_63 : decode bc_Md_solveAll 63 = .ok (.iaload, 1) := by decide +kernel
theorem d_Md_solveAll_64 : decode bc_Md_solveAll 64 = .ok (.ifCond .ge 15, 3) := by decide +kernel
theorem d_Md_solveAll_67 : decode bc_Md_solveAll 67 = .ok (.aload_n 0, 1) := by decide +kernel
theorem d_Md_solveAll_68 : decode bc_Md_solveAll 68 = .ok (.iload_n 3, 1) := by decide +kernel
theorem d_Md_solveAll_69 : decode bc_Md_solveAll 69 = .ok (.invokevirtual 435, 3) := by decide +kernel
theorem d_Md_solveAll_72 : decode bc_Md_solveAll 72 = .ok (.ifCond .eq 7, 3) := by decide +kernel
theorem d_Md_solveAll_75 : decode bc_Md_solveAll 75 = .ok (.iload_n 3, 1) := by decide +kernel
theorem d_Md_solveAll_76 : decode bc_Md_solveAll 76 = .ok (.goto 4, 3) := by decide +kernel
theorem d_Md_solveAll_79 : decode bc_Md_solveAll 79 = .ok (.iload_n 2, 1) := by decide +kernel
theorem d_Md_solveAll_80 : decode bc_Md_solveAll 80 = .ok (.istore_n 2, 1) := by decide +kernel
theorem d_Md_solveAll_81 : decode bc_Md_solveAll 81 = .ok (.iinc 3 (-1), 3) := by decide +kernel
theorem d_Md_solveAll_84 : decode bc_Md_solveAll 84 = .ok (.goto (-30), 3) := by decide +kernel
theorem d_Md_solveAll_87 : decode bc_Md_solveAll 87 = .ok (.iload_n 2, 1) := by decide +kernel
theorem d_Md_solveAll_88 : decode bc_Md_solveAll 88 = .ok (.ifCond .lt 65, 3) := by decide +kernel
theorem d_Md_solveAll_91 : decode bc_Md_solveAll 91 = .ok (.iconst 0, 1) := by decide +kernel
theorem d_Md_solveAll_92 : decode bc_Md_solveAll 92 = .ok (.istore_n 3, 1) := by decide +kernel
theorem d_Md_solveAll_93 : decode bc_Md_solveAll 93 = .ok (.iload_n 3, 1) := by decide +kernel
theorem d_Md_solveAll_94 : decode bc_Md_solveAll 94 = .ok (.aload_n 0, 1) := by decide +kernel
theorem d_Md_solveAll_95 : decode bc_Md_solveAll 95 = .ok (.getfield 364, 3) := by decide +kernel
theorem d_Md_solveAll_98 : decode bc_Md_solveAll 98 = .ok (.if_icmp .ge 37, 3) := by decide +kernel
theorem d_Md_solveAll_101 : decode bc_Md_solveAll 101 = .ok (.aload_n 0, 1) := by decide +kernel
theorem d_Md_solveAll_102 : decode bc_Md_solveAll 102 = .ok (.getfield 157, 3) := by decide +kernel
theorem d_Md_solveAll_105 : decode bc_Md_solveAll 105 = .ok (.iload_n 3, 1) := by decide +kernel
theorem d_Md_solveAll_106 : decode bc_Md_solveAll 106 = .ok (.aload_n 0, 1) := by decide +kernel
theorem d_Md_solveAll_107 : decode bc_Md_solveAll 107 = .ok (.iload_n 2, 1) := by decide +kernel
theorem d_Md_solveAll_108 : decode bc_Md_solveAll 108 = .ok (.iload_n 3, 1) := by decide +kernel
theorem d_Md_solveAll_109 : decode bc_Md_solveAll 109 = .ok (.invokevirtual 428, 3) := by decide +kernel
theorem d_Md_solveAll_112 : decode bc_Md_solveAll 112 = .ok (.ifCond .eq 10, 3) := by decide +kernel
theorem d_Md_solveAll_115 : decode bc_Md_solveAll 115 = .ok (.aload_n 0, 1) := by decide +kernel
theorem d_Md_solveAll_116 : decode bc_Md_solveAll 116 = .ok (.getfield 432, 3) := by decide +kernel
theorem d_Md_solveAll_119 : decode bc_Md_solveAll 119 = .ok (.goto 9, 3) := by decide +kernel
theorem d_Md_solveAll_122 : decode bc_Md_solveAll 122 = .ok (.aload_n 0, 1) := by decide +kernel
theorem d_Md_solveAll_123 : decode bc_Md_solveAll 123 = .ok (.getfield 157, 3) := by decide +kernel
theorem d_Md_solveAll_126 : decode bc_Md_solveAll 126 = .ok (.iload_n 3, 1) := by decide +kernel
theorem d_Md_solveAll_127 : decode bc_Md_solveAll 127 = .ok (.iaload, 1) := by decide +kernel
theorem d_Md_solveAll_128 : decode bc_Md_solveAll 128 = .ok (.iastore, 1) := by decide +kernel
theorem d_Md_solveAll_129 : decode bc_Md_solveAll 129 = .ok (.iinc 3 1, 3) := by decide +kernel
theorem d_Md_solveAll_132 : decode bc_Md_solveAll 132 = .ok (.goto (-39), 3) := by decide +kernel
theorem d_Md_solveAll_135 : decode bc_Md_solveAll 135 = .ok (.aload_n 0, 1) := by decide +kernel
theorem d_Md_solveAll_136 : decode bc_Md_solveAll 136 = .ok (.aload_n 0, 1) := by decide +kernel
theorem d_Md_solveAll_137 : decode bc_Md_solveAll 137 = .ok (.getfield 432, 3) := by decide +kernel
theorem d_Md_solveAll_140 : decode bc_Md_solveAll 140 = .ok (.invokevirtual 438, 3) := by decide +kernel
theorem d_Md_solveAll_143 : decode bc_Md_solveAll 143 = .ok (.aload_n 0, 1) := by decide +kernel
theorem d_Md_solveAll_144 : decode bc_Md_solveAll 144 = .ok (.dup, 1) := by decide +kernel
theorem d_Md_solveAll_145 : decode bc_Md_solveAll 145 = .ok (.getfield 432, 3) := by decide +kernel
theorem d_Md_solveAll_148 : decode bc_Md_solveAll 148 = .ok (.iconst 1, 1) := by decide +kernel
theorem d_Md_solveAll_149 : decode bc_Md_solveAll 149 = .ok (.iadd, 1) := by decide +kernel
theorem d_Md_solveAll_150 : decode bc_Md_solveAll 150 = .ok (.putfield 432, 3) := by decide +kernel
theorem d_Md_solveAll_153 : decode bc_Md_solveAll 153 = .ok (.iinc 1 1, 3) := by decide +kernel
theorem d_Md_solveAll_156 : decode bc_Md_solveAll 156 = .ok (.goto (-126), 3) := by decide +kernel
theorem d_Md_solveAll_159 : decode bc_Md_solveAll 159 = .ok (.return_, 1) := by decide +kernel
abbrev bc_Md_prepare : ByteArray := prog_14_method_56_code
abbrev y_Md_prepare : MethodName := ⟨"KindRoundsModel", "prepare", "(I)V"⟩
theorem d_Md_prepare_0 : decode bc_Md_prepare 0 = .ok (.iconst 0, 1) := by decide +kernel
theorem d_Md_prepare_1 : decode bc_Md_prepare 1 = .ok (.istore_n 2, 1) := by decide +kernel
theorem d_Md_prepare_2 : decode bc_Md_prepare 2 = .ok (.iload_n 2, 1) := by decide +kernel
theorem d_Md_prepare_3 : decode bc_Md_prepare 3 = .ok (.aload_n 0, 1) := by decide +kernel
theorem d_Md_prepare_4 : decode bc_Md_prepare 4 = .ok (.getfield 121, 3) := by decide +kernel
theorem d_Md_prepare_7 : decode bc_Md_prepare 7 = .ok (.iload_n 1, 1) := by decide +kernel
theorem d_Md_prepare_8 : decode bc_Md_prepare 8 = .ok (.iaload, 1) := by decide +kernel
theorem d_Md_prepare_9 : decode bc_Md_prepare 9 = .ok (.if_icmp .ge 26, 3) := by decide +kernel
theorem d_Md_prepare_12 : decode bc_Md_prepare 12 = .ok (.aload_n 0, 1) := by decide +kernel
theorem d_Md_prepare_13 : decode bc_Md_prepare 13 = .ok (.getfield 163, 3) := by decide +kernel
theorem d_Md_prepare_16 : decode bc_Md_prepare 16 = .ok (.iconst 3, 1) := by decide +kernel
theorem d_Md_prepare_17 : decode bc_Md_prepare 17 = .ok (.iload_n 1, 1) := by decide +kernel
theorem d_Md_prepare_18 : decode bc_Md_prepare 18 = .ok (.imul, 1) := by decide +kernel
theorem d_Md_prepare_19 : decode bc_Md_prepare 19 = .ok (.iload_n 2, 1) := by decide +kernel
theorem d_Md_prepare_20 : decode bc_Md_prepare 20 = .ok (.iadd, 1) := by decide +kernel
theorem d_Md_prepare_21 : decode bc_Md_prepare 21 = .ok (.aload_n 0, 1) := by decide +kernel
theorem d_Md_prepare_22 : decode bc_Md_prepare 22 = .ok (.iconst 0, 1) := by decide +kernel
theorem d_Md_prepare_23 : decode bc_Md_prepare 23 = .ok (.iconst 0, 1) := by decide +kernel
theorem d_Md_prepare_24 : decode bc_Md_prepare 24 = .ok (.iconst 0, 1) := by decide +kernel
theorem d_Md_prepare_25 : decode bc_Md_prepare 25 = .ok (.invokevirtual 202, 3) := by decide +kernel
theorem d_Md_prepare_28 : decode bc_Md_prepare 28 = .ok (.iastore, 1) := by decide +kernel
theorem d_Md_prepare_29 : decode bc_Md_prepare 29 = .ok (.iinc 2 1, 3) := by decide +kernel
theorem d_Md_prepare_32 : decode bc_Md_prepare 32 = .ok (.goto (-30), 3) := by decide +kernel
theorem d_Md_prepare_35 : decode bc_Md_prepare 35 = .ok (.aload_n 0, 1) := by decide +kernel
theorem d_Md_prepare_36 : decode bc_Md_prepare 36 = .ok (.getfield 166, 3) := by decide +kernel
theorem d_Md_prepare_39 : decode bc_Md_prepare 39 = .ok (.iload_n 1, 1) := by decide +kernel
theorem d_Md_prepare_40 : decode bc_Md_prepare 40 = .ok (.aload_n 0, 1) := by decide +kernel
theorem d_Md_prepare_41 : decode bc_Md_prepare 41 = .ok (.getfield 112, 3) := by decide +kernel
theorem d_Md_prepare_44 : decode bc_Md_prepare 44 = .ok (.iload_n 1, 1) := by decide +kernel
theorem d_Md_prepare_45 : decode bc_Md_prepare 45 = .ok (.iaload, 1) := by decide +kernel
theorem d_Md_prepare_46 : decode bc_Md_prepare 46 = .ok (.iconst 1, 1) := by decide +kernel
theorem d_Md_prepare_47 : decode bc_Md_prepare 47 = .ok (.if_icmp .ne 13, 3) := by decide +kernel
theorem d_Md_prepare_50 : decode bc_Md_prepare 50 = .ok (.aload_n 0, 1) := by decide +kernel
theorem d_Md_prepare_51 : decode bc_Md_prepare 51 = .ok (.iconst 0, 1) := by decide +kernel
theorem d_Md_prepare_52 : decode bc_Md_prepare 52 = .ok (.iconst 0, 1) := by decide +kernel
theorem d_Md_prepare_53 : decode bc_Md_prepare 53 = .ok (.iconst 0, 1) := by decide +kernel
theorem d_Md_prepare_54 : decode bc_Md_prepare 54 = .ok (.invokevirtual 202, 3) := by decide +kernel
theorem d_Md_prepare_57 : decode bc_Md_prepare 57 = .ok (.goto 7, 3) := by decide +kernel
theorem d_Md_prepare_60 : decode bc_Md_prepare 60 = .ok (.aload_n 0, 1) := by decide +kernel
theorem d_Md_prepare_61 : decode bc_Md_prepare 61 = .ok (.getfield 206, 3) := by decide +kernel
theorem d_Md_prepare_64 : decode bc_Md_prepare 64 = .ok (.iastore, 1) := by decide +kernel
theorem d_Md_prepare_65 : decode bc_Md_prepare 65 = .ok (.aload_n 0, 1) := by decide +kernel
theorem d_Md_prepare_66 : decode bc_Md_prepare 66 = .ok (.getfield 166, 3) := by decide +kernel
theorem d_Md_prepare_69 : decode bc_Md_prepare 69 = .ok (.iload_n 1, 1) := by decide +kernel
theorem d_Md_prepare_70 : decode bc_Md_prepare 70 = .ok (.iaload, 1) := by decide +kernel
theorem d_Md_prepare_71 : decode bc_Md_prepare 71 = .ok (.istore_n 2, 1) := by decide +kernel
theorem d_Md_prepare_72 : decode bc_Md_prepare 72 = .ok (.aload_n 0, 1) := by decide +kernel
theorem d_Md_prepare_73 : decode bc_Md_prepare 73 = .ok (.getfield 121, 3) := by decide +kernel
theorem d_Md_prepare_76 : decode bc_Md_prepare 76 = .ok (.iload_n 1, 1) := by decide +kernel
theorem d_Md_prepare_77 : decode bc_Md_prepare 77 = .ok (.iaload, 1) := by decide +kernel
theorem d_Md_prepare_78 : decode bc_Md_prepare 78 = .ok (.iconst 1, 1) := by decide +kernel
theorem d_Md_prepare_79 : decode bc_Md_prepare 79 = .ok (.isub, 1) := by decide +kernel
theorem d_Md_prepare_80 : decode bc_Md_prepare 80 = .ok (.istore_n 3, 1) := by decide +kernel
theorem d_Md_prepare_81 : decode bc_Md_prepare 81 = .ok (.iload_n 3, 1) := by decide +kernel
theorem d_Md_prepare_82 : decode bc_Md_prepare 82 = .ok (.ifCond .lt 36, 3) := by decide +kernel
theorem d_Md_prepare_85 : decode bc_Md_prepare 85 = .ok (.aload_n 0, 1) := by decide +kernel
theorem d_Md_prepare_86 : decode bc_Md_prepare 86 = .ok (.getfield 112, 3) := by decide +kernel
theorem d_Md_prepare_89 : decode bc_Md_prepare 89 = .ok (.iload_n 1, 1) := by decide +kernel
theorem d_Md_prepare_90 : decode bc_Md_prepare 90 = .ok (.iaload, 1) := by decide +kernel
theorem d_Md_prepare_91 : decode bc_Md_prepare 91 = .ok (.iconst 2, 1) := by decide +kernel
theorem d_Md_prepare_92 : decode bc_Md_prepare 92 = .ok (.if_icmp .ge 26, 3) := by decide +kernel
theorem d_Md_prepare_95 : decode bc_Md_prepare 95 = .ok (.aload_n 0, 1) := by decide +kernel
theorem d_Md_prepare_96 : decode bc_Md_prepare 96 = .ok (.iconst 2, 1) := by decide +kernel
theorem d_Md_prepare_97 : decode bc_Md_prepare 97 = .ok (.aload_n 0, 1) := by decide +kernel
theorem d_Md_prepare_98 : decode bc_Md_prepare 98 = .ok (.getfield 163, 3) := by decide +kernel
theorem d_Md_prepare_101 : decode bc_Md_prepare 101 = .ok (.iconst 3, 1) := by decide +kernel
theorem d_Md_prepare_102 : decode bc_Md_prepare 102 = .ok (.iload_n 1, 1) := by decide +kernel
theorem d_Md_prepare_103 : decode bc_Md_prepare 103 = .ok (.imul, 1) := by decide +kernel
theorem d_Md_prepare_104 : decode bc_Md_prepare 104 = .ok (.iload_n 3, 1) := by decide +kernel
theorem d_Md_prepare_105 : decode bc_Md_prepare 105 = .ok (.iadd, 1) := by decide +kernel
theorem d_Md_prepare_106 : decode bc_Md_prepare 106 = .ok (.iaload, 1) := by decide +kernel
theorem d_Md_prepare_107 : decode bc_Md_prepare 107 = .ok (.iload_n 2, 1) := by decide +kernel
theorem d_Md_prepare_108 : decode bc_Md_prepare 108 = .ok (.invokevirtual 202, 3) := by decide +kernel
theorem d_Md_prepare_111 : decode bc_Md_prepare 111 = .ok (.istore_n 2, 1) := by decide +kernel
theorem d_Md_prepare_112 : decode bc_Md_prepare 112 = .ok (.iinc 3 (-1), 3) := by decide +kernel
theorem d_Md_prepare_115 : decode bc_Md_prepare 115 = .ok (.goto (-34), 3) := by decide +kernel
theorem d_Md_prepare_118 : decode bc_Md_prepare 118 = .ok (.aload_n 0, 1) := by decide +kernel
theorem d_Md_prepare_119 : decode bc_Md_prepare 119 = .ok (.getfield 160, 3) := by decide +kernel
theorem d_Md_prepare_122 : decode bc_Md_prepare 122 = .ok (.iload_n 1, 1) := by decide +kernel
theorem d_Md_prepare_123 : decode bc_Md_prepare 123 = .ok (.aload_n 0, 1) := by decide +kernel
theorem d_Md_prepare_124 : decode bc_Md_prepare 124 = .ok (.getfield 112, 3) := by decide +kernel
theorem d_Md_prepare_127 : decode bc_Md_prepare 127 = .ok (.iload_n 1, 1) := by decide +kernel
theorem d_Md_prepare_128 : decode bc_Md_prepare 128 = .ok (.iaload, 1) := by decide +kernel
theorem d_Md_prepare_129 : decode bc_Md_prepare 129 = .ok (.iconst 2, 1) := by decide +kernel
theorem d_Md_prepare_130 : decode bc_Md_prepare 130 = .ok (.if_icmp .ne 14, 3) := by decide +kernel
theorem d_Md_prepare_133 : decode bc_Md_prepare 133 = .ok (.aload_n 0, 1) := by decide +kernel
theorem d_Md_prepare_134 : decode bc_Md_prepare 134 = .ok (.getfield 163, 3) := by decide +kernel
theorem d_Md_prepare_137 : decode bc_Md_prepare 137 = .ok (.iconst 3, 1) := by decide +kernel
theorem d_Md_prepare_138 : decode bc_Md_prepare 138 = .ok (.iload_n 1, 1) := by decide +kernel
theorem d_Md_prepare_139 : decode bc_Md_prepare 139 = .ok (.imul, 1) := by decide +kernel
theorem d_Md_prepare_140 : decode bc_Md_prepare 140 = .ok (.iaload, 1) := by decide +kernel
theorem d_Md_prepare_141 : decode bc_Md_prepare 141 = .ok (.goto 4, 3) := by decide +kernel
theorem d_Md_prepare_144 : decode bc_Md_prepare 144 = .ok (.iload_n 2, 1) := by decide +kernel
theorem d_Md_prepare_145 : decode bc_Md_prepare 145 = .ok (.iastore, 1) := by decide +kernel
theorem d_Md_prepare_146 : decode bc_Md_prepare 146 = .ok (.return_, 1) := by decide +kernel
abbrev bc_Md_kindOfSmall : ByteArray := prog_14_method_57_code
abbrev y_Md_kindOfSmall : MethodName := ⟨"KindRoundsModel", "kindOfSmall", "(II)I"⟩
theorem d_Md_kindOfSmall_0 : decode bc_Md_kindOfSmall 0 = .ok (.aload_n 0, 1) := by decide +kernel
theorem d_Md_kindOfSmall_1 : decode bc_Md_kindOfSmall 1 = .ok (.getfield 24, 3) := by decide +kernel
theorem d_Md_kindOfSmall_4 : decode bc_Md_kindOfSmall 4 = .ok (.iload_n 1, 1) := by decide +kernel
theorem d_Md_kindOfSmall_5 : decode bc_Md_kindOfSmall 5 = .ok (.iaload, 1) := by decide +kernel
theorem d_Md_kindOfSmall_6 : decode bc_Md_kindOfSmall 6 = .ok (.istore_n 3, 1) := by decide +kernel
theorem d_Md_kindOfSmall_7 : decode bc_Md_kindOfSmall 7 = .ok (.iconst 0, 1) := by decide +kernel
theorem d_Md_kindOfSmall_8 : decode bc_Md_kindOfSmall 8 = .ok (.istore 4, 2) := by decide +kernel
theorem d_Md_kindOfSmall_10 : decode bc_Md_kindOfSmall 10 = .ok (.iload_n 3, 1) := by decide +kernel
theorem d_Md_kindOfSmall_11 : decode bc_Md_kindOfSmall 11 = .ok (.ifCond .lt 53, 3) := by decide +kernel
theorem d_Md_kindOfSmall_14 : decode bc_Md_kindOfSmall 14 = .ok (.iload 4, 2) := by decide +kernel
theorem d_Md_kindOfSmall_16 : decode bc_Md_kindOfSmall 16 = .ok (.aload_n 0, 1) := by decide +kernel
theorem d_Md_kindOfSmall_17 : decode bc_Md_kindOfSmall 17 = .ok (.getfield 121, 3) := by decide +kernel
theorem d_Md_kindOfSmall_20 : decode bc_Md_kindOfSmall 20 = .ok (.iload_n 3, 1) := by decide +kernel
theorem d_Md_kindOfSmall_21 : decode bc_Md_kindOfSmall 21 = .ok (.iaload, 1) := by decide +kernel
theorem d_Md_kindOfSmall_22 : decode bc_Md_kindOfSmall 22 = .ok (.if_icmp .ge 42, 3) := by decide +kernel
theorem d_Md_kindOfSmall_25 : decode bc_Md_kindOfSmall 25 = .ok (.aload_n 0, 1) := by decide +kernel
theorem d_Md_kindOfSmall_26 : decode bc_Md_kindOfSmall 26 = .ok (.getfield 124, 3) := by decide +kernel
theorem d_Md_kindOfSmall_29 : decode bc_Md_kindOfSmall 29 = .ok (.iconst 3, 1) := by decide +kernel
theorem d_Md_kindOfSmall_30 : decode bc_Md_kindOfSmall 30 = .ok (.iload_n 3, 1) := by decide +kernel
theorem d_Md_kindOfSmall_31 : decode bc_Md_kindOfSmall 31 = .ok (.imul, 1) := by decide +kernel
theorem d_Md_kindOfSmall_32 : decode bc_Md_kindOfSmall 32 = .ok (.iload 4, 2) := by decide +kernel
theorem d_Md_kindOfSmall_34 : decode bc_Md_kindOfSmall 34 = .ok (.iadd, 1) := by decide +kernel
theorem d_Md_kindOfSmall_35 : decode bc_Md_kindOfSmall 35 = .ok (.laload, 1) := by decide +kernel
theorem d_Md_kindOfSmall_36 : decode bc_Md_kindOfSmall 36 = .ok (.aload_n 0, 1) := by decide +kernel
theorem d_Md_kindOfSmall_37 : decode bc_Md_kindOfSmall 37 = .ok (.getfield 20, 3) := by decide +kernel
theorem d_Md_kindOfSmall_40 : decode bc_Md_kindOfSmall 40 = .ok (.iload_n 1, 1) := by decide +kernel
theorem d_Md_kindOfSmall_41 : decode bc_Md_kindOfSmall 41 = .ok (.laload, 1) := by decide +kernel
theorem d_Md_kindOfSmall_42 : decode bc_Md_kindOfSmall 42 = .ok (.lcmp, 1) := by decide +kernel
theorem d_Md_kindOfSmall_43 : decode bc_Md_kindOfSmall 43 = .ok (.ifCond .ne 15, 3) := by decide +kernel
theorem d_Md_kindOfSmall_46 : decode bc_Md_kindOfSmall 46 = .ok (.aload_n 0, 1) := by decide +kernel
theorem d_Md_kindOfSmall_47 : decode bc_Md_kindOfSmall 47 = .ok (.getfield 163, 3) := by decide +kernel
theorem d_Md_kindOfSmall_50 : decode bc_Md_kindOfSmall 50 = .ok (.iconst 3, 1) := by decide +kernel
theorem d_Md_kindOfSmall_51 : decode bc_Md_kindOfSmall 51 = .ok (.iload_n 3, 1) := by decide +kernel
theorem d_Md_kindOfSmall_52 : decode bc_Md_kindOfSmall 52 = .ok (.imul, 1) := by decide +kernel
theorem d_Md_kindOfSmall_53 : decode bc_Md_kindOfSmall 53 = .ok (.iload 4, 2) := by decide +kernel
theorem d_Md_kindOfSmall_55 : decode bc_Md_kindOfSmall 55 = .ok (.iadd, 1) := by decide +kernel
theorem d_Md_kindOfSmall_56 : decode bc_Md_kindOfSmall 56 = .ok (.iaload, 1) := by decide +kernel
theorem d_Md_kindOfSmall_57 : decode bc_Md_kindOfSmall 57 = .ok (.ireturn, 1) := by decide +kernel
theorem d_Md_kindOfSmall_58 : decode bc_Md_kindOfSmall 58 = .ok (.iinc 4 1, 3) := by decide +kernel
theorem d_Md_kindOfSmall_61 : decode bc_Md_kindOfSmall 61 = .ok (.goto (-51), 3) := by decide +kernel
theorem d_Md_kindOfSmall_64 : decode bc_Md_kindOfSmall 64 = .ok (.iload_n 2, 1) := by decide +kernel
theorem d_Md_kindOfSmall_65 : decode bc_Md_kindOfSmall 65 = .ok (.istore 4, 2) := by decide +kernel
theorem d_Md_kindOfSmall_67 : decode bc_Md_kindOfSmall 67 = .ok (.iload 4, 2) := by decide +kernel
theorem d_Md_kindOfSmall_69 : decode bc_Md_kindOfSmall 69 = .ok (.iload_n 1, 1) := by decide +kernel
theorem d_Md_kindOfSmall_70 : decode bc_Md_kindOfSmall 70 = .ok (.if_icmp .ge 77, 3) := by decide +kernel
theorem d_Md_kindOfSmall_73 : decode bc_Md_kindOfSmall 73 = .ok (.aload_n 0, 1) := by decide +kernel
theorem d_Md_kindOfSmall_74 : decode bc_Md_kindOfSmall 74 = .ok (.getfield 17, 3) := by decide +kernel
theorem d_Md_kindOfSmall_77 : decode bc_Md_kindOfSmall 77 = .ok (.iload 4, 2) := by decide +kernel
theorem d_Md_kindOfSmall_79 : decode bc_Md_kindOfSmall 79 = .ok (.iaload, 1) := by decide +kernel
theorem d_Md_kindOfSmall_80 : decode bc_Md_kindOfSmall 80 = .ok (.iconst 1, 1) := by decide +kernel
theorem d_Md_kindOfSmall_81 : decode bc_Md_kindOfSmall 81 = .ok (.if_icmp .ne 60, 3) := by decide +kernel
theorem d_Md_kindOfSmall_84 : decode bc_Md_kindOfSmall 84 = .ok (.aload_n 0, 1) := by decide +kernel
theorem d_Md_kindOfSmall_85 : decode bc_Md_kindOfSmall 85 = .ok (.getfield 24, 3) := by decide +kernel
theorem d_Md_kindOfSmall_88 : decode bc_Md_kindOfSmall 88 = .ok (.iload 4, 2) := by decide +kernel
theorem d_Md_kindOfSmall_90 : decode bc_Md_kindOfSmall 90 = .ok (.iaload, 1) := by decide +kernel
theorem d_Md_kindOfSmall_91 : decode bc_Md_kindOfSmall 91 = .ok (.aload_n 0, 1) := by decide +kernel
theorem d_Md_kindOfSmall_92 : decode bc_Md_kindOfSmall 92 = .ok (.getfield 24, 3) := by decide +kernel
theorem d_Md_kindOfSmall_95 : decode bc_Md_kindOfSmall 95 = .ok (.iload_n 1, 1) := by decide +kernel
theorem d_Md_kindOfSmall_96 : decode bc_Md_kindOfSmall 96 = .ok (.iaload, 1) := by decide +kernel
theorem d_Md_kindOfSmall_97 : decode bc_Md_kindOfSmall 97 = .ok (.if_icmp .ne 44, 3) := by decide +kernel
theorem d_Md_kindOfSmall_100 : decode bc_Md_kindOfSmall 100 = .ok (.aload_n 0, 1) := by decide +kernel
theorem d_Md_kindOfSmall_101 : decode bc_Md_kindOfSmall 101 = .ok (.getfield 27, 3) := by decide +kernel
theorem d_Md_kindOfSmall_104 : decode bc_Md_kindOfSmall 104 = .ok (.iload 4, 2) := by decide +kernel
theorem d_Md_kindOfSmall_106 : decode bc_Md_kindOfSmall 106 = .ok (.iaload, 1) := by decide +kernel
theorem d_Md_kindOfSmall_107 : decode bc_Md_kindOfSmall 107 = .ok (.aload_n 0, 1) := by decide +kernel
theorem d_Md_kindOfSmall_108 : decode bc_Md_kindOfSmall 108 = .ok (.getfield 27, 3) := by decide +kernel
theorem d_Md_kindOfSmall_111 : decode bc_Md_kindOfSmall 111 = .ok (.iload_n 1, 1) := by decide +kernel
theorem d_Md_kindOfSmall_112 : decode bc_Md_kindOfSmall 112 = .ok (.iaload, 1) := by decide +kernel
theorem d_Md_kindOfSmall_113 : decode bc_Md_kindOfSmall 113 = .ok (.if_icmp .ne 28, 3) := by decide +kernel
theorem d_Md_kindOfSmall_116 : decode bc_Md_kindOfSmall 116 = .ok (.aload_n 0, 1) := by decide +kernel
theorem d_Md_kindOfSmall_117 : decode bc_Md_kindOfSmall 117 = .ok (.getfield 20, 3) := by decide +kernel
theorem d_Md_kindOfSmall_120 : decode bc_Md_kindOfSmall 120 = .ok (.iload 4, 2) := by decide +kernel
theorem d_Md_kindOfSmall_122 : decode bc_Md_kindOfSmall 122 = .ok (.laload, 1) := by decide +kernel
theorem d_Md_kindOfSmall_123 : decode bc_Md_kindOfSmall 123 = .ok (.aload_n 0, 1) := by decide +kernel
theorem d_Md_kindOfSmall_124 : decode bc_Md_kindOfSmall 124 = .ok (.getfield 20, 3) := by decide +kernel
theorem d_Md_kindOfSmall_127 : decode bc_Md_kindOfSmall 127 = .ok (.iload_n 1, 1) := by decide +kernel
theorem d_Md_kindOfSmall_128 : decode bc_Md_kindOfSmall 128 = .ok (.laload, 1) := by decide +kernel
theorem d_Md_kindOfSmall_129 : decode bc_Md_kindOfSmall 129 = .ok (.lcmp, 1) := by decide +kernel
theorem d_Md_kindOfSmall_130 : decode bc_Md_kindOfSmall 130 = .ok (.ifCond .ne 11, 3) := by decide +kernel
theorem d_Md_kindOfSmall_133 : decode bc_Md_kindOfSmall 133 = .ok (.aload_n 0, 1) := by decide +kernel
theorem d_Md_kindOfSmall_134 : decode bc_Md_kindOfSmall 134 = .ok (.getfield 30, 3) := by decide +kernel
theorem d_Md_kindOfSmall_137 : decode bc_Md_kindOfSmall 137 = .ok (.iload 4, 2) := by decide +kernel
theorem d_Md_kindOfSmall_139 : decode bc_Md_kindOfSmall 139 = .ok (.iaload, 1) := by decide +kernel
theorem d_Md_kindOfSmall_140 : decode bc_Md_kindOfSmall 140 = .ok (.ireturn, 1) := by decide +kernel
theorem d_Md_kindOfSmall_141 : decode bc_Md_kindOfSmall 141 = .ok (.iinc 4 1, 3) := by decide +kernel
theorem d_Md_kindOfSmall_144 : decode bc_Md_kindOfSmall 144 = .ok (.goto (-77), 3) := by decide +kernel
theorem d_Md_kindOfSmall_147 : decode bc_Md_kindOfSmall 147 = .ok (.aload_n 0, 1) := by decide +kernel
theorem d_Md_kindOfSmall_148 : decode bc_Md_kindOfSmall 148 = .ok (.iconst 0, 1) := by decide +kernel
theorem d_Md_kindOfSmall_149 : decode bc_Md_kindOfSmall 149 = .ok (.iconst 0, 1) := by decide +kernel
theorem d_Md_kindOfSmall_150 : decode bc_Md_kindOfSmall 150 = .ok (.iconst 0, 1) := by decide +kernel
theorem d_Md_kindOfSmall_151 : decode bc_Md_kindOfSmall 151 = .ok (.invokevirtual 202, 3) := by decide +kernel
theorem d_Md_kindOfSmall_154 : decode bc_Md_kindOfSmall 154 = .ok (.ireturn, 1) := by decide +kernel
abbrev bc_Md_layKind : ByteArray := prog_14_method_58_code
abbrev y_Md_layKind : MethodName := ⟨"KindRoundsModel", "layKind", "(II)V"⟩
theorem d_Md_layKind_0 : decode bc_Md_layKind 0 = .ok (.aload_n 0, 1) := by decide +kernel
theorem d_Md_layKind_1 : decode bc_Md_layKind 1 = .ok (.getfield 17, 3) := by decide +kernel
theorem d_Md_layKind_4 : decode bc_Md_layKind 4 = .ok (.iload_n 1, 1) := by decide +kernel
theorem d_Md_layKind_5 : decode bc_Md_layKind 5 = .ok (.iaload, 1) := by decide +kernel
theorem d_Md_layKind_6 : decode bc_Md_layKind 6 = .ok (.iconst 3, 1) := by decide +kernel
theorem d_Md_layKind_7 : decode bc_Md_layKind 7 = .ok (.if_icmp .eq 13, 3) := by decide +kernel
theorem d_Md_layKind_10 : decode bc_Md_layKind 10 = .ok (.aload_n 0, 1) := by decide +kernel
theorem d_Md_layKind_11 : decode bc_Md_layKind 11 = .ok (.getfield 17, 3) := by decide +kernel
theorem d_Md_layKind_14 : decode bc_Md_layKind 14 = .ok (.iload_n 1, 1) := by decide +kernel
theorem d_Md_layKind_15 : decode bc_Md_layKind 15 = .ok (.iaload, 1) := by decide +kernel
theorem d_Md_layKind_16 : decode bc_Md_layKind 16 = .ok (.iconst 4, 1) := by decide +kernel
theorem d_Md_layKind_17 : decode bc_Md_layKind 17 = .ok (.if_icmp .ne 16, 3) := by decide +kernel
theorem d_Md_layKind_20 : decode bc_Md_layKind 20 = .ok (.aload_n 0, 1) := by decide +kernel
theorem d_Md_layKind_21 : decode bc_Md_layKind 21 = .ok (.getfield 30, 3) := by decide +kernel
theorem d_Md_layKind_24 : decode bc_Md_layKind 24 = .ok (.iload_n 1, 1) := by decide +kernel
theorem d_Md_layKind_25 : decode bc_Md_layKind 25 = .ok (.aload_n 0, 1) := by decide +kernel
theorem d_Md_layKind_26 : decode bc_Md_layKind 26 = .ok (.getfield 206, 3) := by decide +kernel
theorem d_Md_layKind_29 : decode bc_Md_layKind 29 = .ok (.iastore, 1) := by decide +kernel
theorem d_Md_layKind_30 : decode bc_Md_layKind 30 = .ok (.goto 78, 3) := by decide +kernel
theorem d_Md_layKind_33 : decode bc_Md_layKind 33 = .ok (.aload_n 0, 1) := by decide +kernel
theorem d_Md_layKind_34 : decode bc_Md_layKind 34 = .ok (.getfield 17, 3) := by decide +kernel
theorem d_Md_layKind_37 : decode bc_Md_layKind 37 = .ok (.iload_n 1, 1) := by decide +kernel
theorem d_Md_layKind_38 : decode bc_Md_layKind 38 = .ok (.iaload, 1) := by decide +kernel
theorem d_Md_layKind_39 : decode bc_Md_layKind 39 = .ok (.ifCond .ne 47, 3) := by decide +kernel
theorem d_Md_layKind_42 : decode bc_Md_layKind 42 = .ok (.aload_n 0, 1) := by decide +kernel
theorem d_Md_layKind_43 : decode bc_Md_layKind 43 = .ok (.getfield 30, 3) := by decide +kernel
theorem d_Md_layKind_46 : decode bc_Md_layKind 46 = .ok (.iload_n 1, 1) := by decide +kernel
theorem d_Md_layKind_47 : decode bc_Md_layKind 47 = .ok (.aload_n 0, 1) := by decide +kernel
theorem d_Md_layKind_48 : decode bc_Md_layKind 48 = .ok (.getfield 20, 3) := by decide +kernel
theorem d_Md_layKind_51 : decode bc_Md_layKind 51 = .ok (.iload_n 1, 1) := by decide +kernel
theorem d_Md_layKind_52 : decode bc_Md_layKind 52 = .ok (.laload, 1) := by decide +kernel
theorem d_Md_layKind_53 : decode bc_Md_layKind 53 = .ok (.ldc2_w 401, 3) := by decide +kernel
theorem d_Md_layKind_56 : decode bc_Md_layKind 56 = .ok (.lcmp, 1) := by decide +kernel
theorem d_Md_layKind_57 : decode bc_Md_layKind 57 = .ok (.ifCond .ne 10, 3) := by decide +kernel
theorem d_Md_layKind_60 : decode bc_Md_layKind 60 = .ok (.aload_n 0, 1) := by decide +kernel
theorem d_Md_layKind_61 : decode bc_Md_layKind 61 = .ok (.getfield 206, 3) := by decide +kernel
theorem d_Md_layKind_64 : decode bc_Md_layKind 64 = .ok (.goto 18, 3) := by decide +kernel
theorem d_Md_layKind_67 : decode bc_Md_layKind 67 = .ok (.aload_n 0, 1) := by decide +kernel
theorem d_Md_layKind_68 : decode bc_Md_layKind 68 = .ok (.getfield 160, 3) := by decide +kernel
theorem d_Md_layKind_71 : decode bc_Md_layKind 71 = .ok (.aload_n 0, 1) := by decide +kernel
theorem d_Md_layKind_72 : decode bc_Md_layKind 72 = .ok (.aload_n 0, 1) := by decide +kernel
theorem d_Md_layKind_73 : decode bc_Md_layKind 73 = .ok (.getfield 20, 3) := by decide +kernel
theorem d_Md_layKind_76 : decode bc_Md_layKind 76 = .ok (.iload_n 1, 1) := by decide +kernel
theorem d_Md_layKind_77 : decode bc_Md_layKind 77 = .ok (.laload, 1) := by decide +kernel
theorem d_Md_layKind_78 : decode bc_Md_layKind 78 = .ok (.invokevirtual 403, 3) := by decide +kernel
theorem d_Md_layKind_81 : decode bc_Md_layKind 81 = .ok (.iaload, 1) := by decide +kernel
theorem d_Md_layKind_82 : decode bc_Md_layKind 82 = .ok (.iastore, 1) := by decide +kernel
theorem d_Md_layKind_83 : decode bc_Md_layKind 83 = .ok (.goto 25, 3) := by decide +kernel
theorem d_Md_layKind_86 : decode bc_Md_layKind 86 = .ok (.aload_n 0, 1) := by decide +kernel
theorem d_Md_layKind_87 : decode bc_Md_layKind 87 = .ok (.getfield 17, 3) := by decide +kernel
theorem d_Md_layKind_90 : decode bc_Md_layKind 90 = .ok (.iload_n 1, 1) := by decide +kernel
theorem d_Md_layKind_91 : decode bc_Md_layKind 91 = .ok (.iaload, 1) := by decide +kernel
theorem d_Md_layKind_92 : decode bc_Md_layKind 92 = .ok (.iconst 1, 1) := by decide +kernel
theorem d_Md_layKind_93 : decode bc_Md_layKind 93 = .ok (.if_icmp .ne 15, 3) := by decide +kernel
theorem d_Md_layKind_96 : decode bc_Md_layKind 96 = .ok (.aload_n 0, 1) := by decide +kernel
theorem d_Md_layKind_97 : decode bc_Md_layKind 97 = .ok (.getfield 30, 3) := by decide +kernel
theorem d_Md_layKind_100 : decode bc_Md_layKind 100 = .ok (.iload_n 1, 1) := by decide +kernel
theorem d_Md_layKind_101 : decode bc_Md_layKind 101 = .ok (.aload_n 0, 1) := by decide +kernel
theorem d_Md_layKind_102 : decode bc_Md_layKind 102 = .ok (.iload_n 1, 1) := by decide +kernel
theorem d_Md_layKind_103 : decode bc_Md_layKind 103 = .ok (.iload_n 2, 1) := by decide +kernel
theorem d_Md_layKind_104 : decode bc_Md_layKind 104 = .ok (.invokevirtual 441, 3) := by decide +kernel
theorem d_Md_layKind_107 : decode bc_Md_layKind 107 = .ok (.iastore, 1) := by decide +kernel
theorem d_Md_layKind_108 : decode bc_Md_layKind 108 = .ok (.return_, 1) := by decide +kernel
abbrev bc_Md_solve : ByteArray := prog_14_method_59_code
abbrev y_Md_solve : MethodName := ⟨"KindRoundsModel", "solve", "(I)V"⟩
theorem d_Md_solve_0 : decode bc_Md_solve 0 = .ok (.iconst 0, 1) := by decide +kernel
theorem d_Md_solve_1 : decode bc_Md_solve 1 = .ok (.istore_n 2, 1) := by decide +kernel
theorem d_Md_solve_2 : decode bc_Md_solve 2 = .ok (.iload_n 2, 1) := by decide +kernel
theorem d_Md_solve_3 : decode bc_Md_solve 3 = .ok (.aload_n 0, 1) := by decide +kernel
theorem d_Md_solve_4 : decode bc_Md_solve 4 = .ok (.getfield 364, 3) := by decide +kernel
theorem d_Md_solve_7 : decode bc_Md_solve 7 = .ok (.if_icmp .ge 24, 3) := by decide +kernel
theorem d_Md_solve_10 : decode bc_Md_solve 10 = .ok (.aload_n 0, 1) := by decide +kernel
theorem d_Md_solve_11 : decode bc_Md_solve 11 = .ok (.getfield 157, 3) := by decide +kernel
theorem d_Md_solve_14 : decode bc_Md_solve 14 = .ok (.iload_n 2, 1) := by decide +kernel
theorem d_Md_solve_15 : decode bc_Md_solve 15 = .ok (.iaload, 1) := by decide +kernel
theorem d_Md_solve_16 : decode bc_Md_solve 16 = .ok (.iload_n 1, 1) := by decide +kernel
theorem d_Md_solve_17 : decode bc_Md_solve 17 = .ok (.if_icmp .ne 8, 3) := by decide +kernel
theorem d_Md_solve_20 : decode bc_Md_solve 20 = .ok (.aload_n 0, 1) := by decide +kernel
theorem d_Md_solve_21 : decode bc_Md_solve 21 = .ok (.iload_n 2, 1) := by decide +kernel
theorem d_Md_solve_22 : decode bc_Md_solve 22 = .ok (.invokevirtual 445, 3) := by decide +kernel
theorem d_Md_solve_25 : decode bc_Md_solve 25 = .ok (.iinc 2 1, 3) := by decide +kernel
theorem d_Md_solve_28 : decode bc_Md_solve 28 = .ok (.goto (-26), 3) := by decide +kernel
theorem d_Md_solve_31 : decode bc_Md_solve 31 = .ok (.iconst 0, 1) := by decide +kernel
theorem d_Md_solve_32 : decode bc_Md_solve 32 = .ok (.istore_n 2, 1) := by decide +kernel
theorem d_Md_solve_33 : decode bc_Md_solve 33 = .ok (.iload_n 2, 1) := by decide +kernel
theorem d_Md_solve_34 : decode bc_Md_solve 34 = .ok (.aload_n 0, 1) := by decide +kernel
theorem d_Md_solve_35 : decode bc_Md_solve 35 = .ok (.getfield 288, 3) := by decide +kernel
theorem d_Md_solve_38 : decode bc_Md_solve 38 = .ok (.if_icmp .ge 58, 3) := by decide +kernel
theorem d_Md_solve_41 : decode bc_Md_solve 41 = .ok (.aload_n 0, 1) := by decide +kernel
theorem d_Md_solve_42 : decode bc_Md_solve 42 = .ok (.getfield 17, 3) := by decide +kernel
theorem d_Md_solve_45 : decode bc_Md_solve 45 = .ok (.iload_n 2, 1) := by decide +kernel
theorem d_Md_solve_46 : decode bc_Md_solve 46 = .ok (.iaload, 1) := by decide +kernel
theorem d_Md_solve_47 : decode bc_Md_solve 47 = .ok (.ifCond .eq 13, 3) := by decide +kernel
theorem d_Md_solve_50 : decode bc_Md_solve 50 = .ok (.aload_n 0, 1) := by decide +kernel
theorem d_Md_solve_51 : decode bc_Md_solve 51 = .ok (.getfield 17, 3) := by decide +kernel
theorem d_Md_solve_54 : decode bc_Md_solve 54 = .ok (.iload_n 2, 1) := by decide +kernel
theorem d_Md_solve_55 : decode bc_Md_solve 55 = .ok (.iaload, 1) := by decide +kernel
theorem d_Md_solve_56 : decode bc_Md_solve 56 = .ok (.iconst 1, 1) := by decide +kernel
theorem d_Md_solve_57 : decode bc_Md_solve 57 = .ok (.if_icmp .ne 7, 3) := by decide +kernel
theorem d_Md_solve_60 : decode bc_Md_solve 60 = .ok (.iconst 1, 1) := by decide +kernel
theorem d_Md_solve_61 : decode bc_Md_solve 61 = .ok (.goto 4, 3) := by decide +kernel
theorem d_Md_solve_64 : decode bc_Md_solve 64 = .ok (.iconst 0, 1) := by decide +kernel
theorem d_Md_solve_65 : decode bc_Md_solve 65 = .ok (.istore_n 3, 1) := by decide +kernel
theorem d_Md_solve_66 : decode bc_Md_solve 66 = .ok (.iload_n 3, 1) := by decide +kernel
theorem d_Md_solve_67 : decode bc_Md_solve 67 = .ok (.ifCond .eq 18, 3) := by decide +kernel
theorem d_Md_solve_70 : decode bc_Md_solve 70 = .ok (.aload_n 0, 1) := by decide +kernel
theorem d_Md_solve_71 : decode bc_Md_solve 71 = .ok (.getfield 157, 3) := by decide +kernel
theorem d_Md_solve_74 : decode bc_Md_solve 74 = .ok (.aload_n 0, 1) := by decide +kernel
theorem d_Md_solve_75 : decode bc_Md_solve 75 = .ok (.getfield 24, 3) := by decide +kernel
theorem d_Md_solve_78 : decode bc_Md_solve 78 = .ok (.iload_n 2, 1) := by decide +kernel
theorem d_Md_solve_79 : decode bc_Md_solve 79 = .ok (.iaload, 1) := by decide +kernel
theorem d_Md_solve_80 : decode bc_Md_solve 80 = .ok (.iaload, 1) := by decide +kernel
theorem d_Md_solve_81 : decode bc_Md_solve 81 = .ok (.iload_n 1, 1) := by decide +kernel
theorem d_Md_solve_82 : decode bc_Md_solve 82 = .ok (.if_icmp .ne 8, 3) := by decide +kernel
theorem d_Md_solve_85 : decode bc_Md_solve 85 = .ok (.aload_n 0, 1) := by decide +kernel
theorem d_Md_solve_86 : decode bc_Md_solve 86 = .ok (.iload_n 2, 1) := by decide +kernel
theorem d_Md_solve_87 : decode bc_Md_solve 87 = .ok (.invokevirtual 448, 3) := by decide +kernel
theorem d_Md_solve_90 : decode bc_Md_solve 90 = .ok (.iinc 2 1, 3) := by decide +kernel
theorem d_Md_solve_93 : decode bc_Md_solve 93 = .ok (.goto (-60), 3) := by decide +kernel
theorem d_Md_solve_96 : decode bc_Md_solve 96 = .ok (.iconst 0, 1) := by decide +kernel
theorem d_Md_solve_97 : decode bc_Md_solve 97 = .ok (.istore_n 2, 1) := by decide +kernel
theorem d_Md_solve_98 : decode bc_Md_solve 98 = .ok (.iload_n 2, 1) := by decide +kernel
theorem d_Md_solve_99 : decode bc_Md_solve 99 = .ok (.aload_n 0, 1) := by decide +kernel
theorem d_Md_solve_100 : decode bc_Md_solve 100 = .ok (.getfield 373, 3) := by decide +kernel
theorem d_Md_solve_103 : decode bc_Md_solve 103 = .ok (.if_icmp .ge 59, 3) := by decide +kernel
theorem d_Md_solve_106 : decode bc_Md_solve 106 = .ok (.aload_n 0, 1) := by decide +kernel
theorem d_Md_solve_107 : decode bc_Md_solve 107 = .ok (.getfield 221, 3) := by decide +kernel
theorem d_Md_solve_110 : decode bc_Md_solve 110 = .ok (.ifCond .ne 52, 3) := by decide +kernel
theorem d_Md_solve_113 : decode bc_Md_solve 113 = .ok (.aload_n 0, 1) := by decide +kernel
theorem d_Md_solve_114 : decode bc_Md_solve 114 = .ok (.aload_n 0, 1) := by decide +kernel
theorem d_Md_solve_115 : decode bc_Md_solve 115 = .ok (.getfield 139, 3) := by decide +kernel
theorem d_Md_solve_118 : decode bc_Md_solve 118 = .ok (.iload_n 2, 1) := by decide +kernel
theorem d_Md_solve_119 : decode bc_Md_solve 119 = .ok (.laload, 1) := by decide +kernel
theorem d_Md_solve_120 : decode bc_Md_solve 120 = .ok (.invokevirtual 414, 3) := by decide +kernel
theorem d_Md_solve_123 : decode bc_Md_solve 123 = .ok (.istore_n 3, 1) := by decide +kernel
theorem d_Md_solve_124 : decode bc_Md_solve 124 = .ok (.aload_n 0, 1) := by decide +kernel
theorem d_Md_solve_125 : decode bc_Md_solve 125 = .ok (.getfield 157, 3) := by decide +kernel
theorem d_Md_solve_128 : decode bc_Md_solve 128 = .ok (.iload_n 3, 1) := by decide +kernel
theorem d_Md_solve_129 : decode bc_Md_solve 129 = .ok (.iaload, 1) := by decide +kernel
theorem d_Md_solve_130 : decode bc_Md_solve 130 = .ok (.iload_n 1, 1) := by decide +kernel
theorem d_Md_solve_131 : decode bc_Md_solve 131 = .ok (.if_icmp .ne 25, 3) := by decide +kernel
theorem d_Md_solve_134 : decode bc_Md_solve 134 = .ok (.aload_n 0, 1) := by decide +kernel
theorem d_Md_solve_135 : decode bc_Md_solve 135 = .ok (.aload_n 0, 1) := by decide +kernel
theorem d_Md_solve_136 : decode bc_Md_solve 136 = .ok (.getfield 160, 3) := by decide +kernel
theorem d_Md_solve_139 : decode bc_Md_solve 139 = .ok (.iload_n 3, 1) := by decide +kernel
theorem d_Md_solve_140 : decode bc_Md_solve 140 = .ok (.iaload, 1) := by decide +kernel
theorem d_Md_solve_141 : decode bc_Md_solve 141 = .ok (.aload_n 0, 1) := by decide +kernel
theorem d_Md_solve_142 : decode bc_Md_solve 142 = .ok (.getfield 145, 3) := by decide +kernel
theorem d_Md_solve_145 : decode bc_Md_solve 145 = .ok (.iload_n 2, 1) := by decide +kernel
theorem d_Md_solve_146 : decode bc_Md_solve 146 = .ok (.iaload, 1) := by decide +kernel
theorem d_Md_solve_147 : decode bc_Md_solve 147 = .ok (.aload_n 0, 1) := by decide +kernel
theorem d_Md_solve_148 : decode bc_Md_solve 148 = .ok (.getfield 142, 3) := by decide +kernel
theorem d_Md_solve_151 : decode bc_Md_solve 151 = .ok (.iload_n 2, 1) := by decide +kernel
theorem d_Md_solve_152 : decode bc_Md_solve 152 = .ok (.iaload, 1) := by decide +kernel
theorem d_Md_solve_153 : decode bc_Md_solve 153 = .ok (.invokevirtual 451, 3) := by decide +kernel
theorem d_Md_solve_156 : decode bc_Md_solve 156 = .ok (.iinc 2 1, 3) := by decide +kernel
theorem d_Md_solve_159 : decode bc_Md_solve 159 = .ok (.goto (-61), 3) := by decide +kernel
theorem d_Md_solve_162 : decode bc_Md_solve 162 = .ok (.iconst 0, 1) := by decide +kernel
theorem d_Md_solve_163 : decode bc_Md_solve 163 = .ok (.istore_n 2, 1) := by decide +kernel
theorem d_Md_solve_164 : decode bc_Md_solve 164 = .ok (.iload_n 2, 1) := by decide +kernel
theorem d_Md_solve_165 : decode bc_Md_solve 165 = .ok (.aload_n 0, 1) := by decide +kernel
theorem d_Md_solve_166 : decode bc_Md_solve 166 = .ok (.getfield 364, 3) := by decide +kernel
theorem d_Md_solve_169 : decode bc_Md_solve 169 = .ok (.if_icmp .ge 55, 3) := by decide +kernel
theorem d_Md_solve_172 : decode bc_Md_solve 172 = .ok (.aload_n 0, 1) := by decide +kernel
theorem d_Md_solve_173 : decode bc_Md_solve 173 = .ok (.getfield 130, 3) := by decide +kernel
theorem d_Md_solve_176 : decode bc_Md_solve 176 = .ok (.iload_n 2, 1) := by decide +kernel
theorem d_Md_solve_177 : decode bc_Md_solve 177 = .ok (.iaload, 1) := by decide +kernel
theorem d_Md_solve_178 : decode bc_Md_solve 178 = .ok (.istore_n 3, 1) := by decide +kernel
theorem d_Md_solve_179 : decode bc_Md_solve 179 = .ok (.iload_n 3, 1) := by decide +kernel
theorem d_Md_solve_180 : decode bc_Md_solve 180 = .ok (.aload_n 0, 1) := by decide +kernel
theorem d_Md_solve_181 : decode bc_Md_solve 181 = .ok (.getfield 133, 3) := by decide +kernel
theorem d_Md_solve_184 : decode bc_Md_solve 184 = .ok (.iload_n 2, 1) := by decide +kernel
theorem d_Md_solve_185 : decode bc_Md_solve 185 = .ok (.iaload, 1) := by decide +kernel
theorem d_Md_solve_186 : decode bc_Md_solve 186 = .ok (.if_icmp .ge 32, 3) := by decide +kernel
theorem d_Md_solve_189 : decode bc_Md_solve 189 = .ok (.aload_n 0, 1) := by decide +kernel
theorem d_Md_solve_190 : decode bc_Md_solve 190 = .ok (.getfield 221, 3) := by decide +kernel
theorem d_Md_solve_193 : decode bc_Md_solve 193 = .ok (.ifCond .ne 25, 3) := by decide +kernel
theorem d_Md_solve_196 : decode bc_Md_solve 196 = .ok (.aload_n 0, 1) := by decide +kernel
theorem d_Md_solve_197 : decode bc_Md_solve 197 = .ok (.getfield 157, 3) := by decide +kernel
theorem d_Md_solve_200 : decode bc_Md_solve 200 = .ok (.iload_n 2, 1) := by decide +kernel
theorem d_Md_solve_201 : decode bc_Md_solve 201 = .ok (.iaload, 1) := by decide +kernel
theorem d_Md_solve_202 : decode bc_Md_solve 202 = .ok (.iload_n 1, 1) := by decide +kernel
theorem d_Md_solve_203 : decode bc_Md_solve 203 = .ok (.if_icmp .ne 15, 3) := by decide +kernel
theorem d_Md_solve_206 : decode bc_Md_solve 206 = .ok (.aload_n 0, 1) := by decide +kernel
theorem d_Md_solve_207 : decode bc_Md_solve 207 = .ok (.iload_n 3, 1) := by decide +kernel
theorem d_Md_solve_208 : decode bc_Md_solve 208 = .ok (.iload_n 2, 1) := by decide +kernel
theorem d_Md_solve_209 : decode bc_Md_solve 209 = .ok (.invokevirtual 454, 3) := by decide +kernel
theorem d_Md_solve_212 : decode bc_Md_solve 212 = .ok (.iinc 3 1, 3) := by decide +kernel
theorem d_Md_solve_215 : decode bc_Md_solve 215 = .ok (.goto (-36), 3) := by decide +kernel
theorem d_Md_solve_218 : decode bc_Md_solve 218 = .ok (.iinc 2 1, 3) := by decide +kernel
theorem d_Md_solve_221 : decode bc_Md_solve 221 = .ok (.goto (-57), 3) := by decide +kernel
theorem d_Md_solve_224 : decode bc_Md_solve 224 = .ok (.aload_n 0, 1) := by decide +kernel
theorem d_Md_solve_225 : decode bc_Md_solve 225 = .ok (.getfield 221, 3) := by decide +kernel
theorem d_Md_solve_228 : decode bc_Md_solve 228 = .ok (.ifCond .ne 8, 3) := by decide +kernel
theorem d_Md_solve_231 : decode bc_Md_solve 231 = .ok (.aload_n 0, 1) := by decide +kernel
theorem d_Md_solve_232 : decode bc_Md_solve 232 = .ok (.iload_n 1, 1) := by decide +kernel
theorem d_Md_solve_233 : decode bc_Md_solve 233 = .ok (.invokevirtual 457, 3) := by decide +kernel
theorem d_Md_solve_236 : decode bc_Md_solve 236 = .ok (.return_, 1) := by decide +kernel
abbrev bc_Md_layKindOnce : ByteArray := prog_14_method_60_code
abbrev y_Md_layKindOnce : MethodName := ⟨"KindRoundsModel", "layKindOnce", "(I)V"⟩
theorem d_Md_layKindOnce_0 : decode bc_Md_layKindOnce 0 = .ok (.aload_n 0, 1) := by decide +kernel
theorem d_Md_layKindOnce_1 : decode bc_Md_layKindOnce 1 = .ok (.getfield 17, 3) := by decide +kernel
theorem d_Md_layKindOnce_4 : decode bc_Md_layKindOnce 4 = .ok (.iload_n 1, 1) := by decide +kernel
theorem d_Md_layKindOnce_5 : decode bc_Md_layKindOnce 5 = .ok (.iaload, 1) := by decide +kernel
theorem d_Md_layKindOnce_6 : decode bc_Md_layKindOnce 6 = .ok (.iconst 2, 1) := by decide +kernel
theorem d_Md_layKindOnce_7 : decode bc_Md_layKindOnce 7 = .ok (.if_icmp .eq 9, 3) := by decide +kernel
theorem d_Md_layKindOnce_10 : decode bc_Md_layKindOnce 10 = .ok (.aload_n 0, 1) := by decide +kernel
theorem d_Md_layKindOnce_11 : decode bc_Md_layKindOnce 11 = .ok (.iload_n 1, 1) := by decide +kernel
theorem d_Md_layKindOnce_12 : decode bc_Md_layKindOnce 12 = .ok (.iconst 0, 1) := by decide +kernel
theorem d_Md_layKindOnce_13 : decode bc_Md_layKindOnce 13 = .ok (.invokevirtual 460, 3) := by decide +kernel
theorem d_Md_layKindOnce_16 : decode bc_Md_layKindOnce 16 = .ok (.return_, 1) := by decide +kernel
abbrev bc_Md_doAct : ByteArray := prog_14_method_61_code
abbrev y_Md_doAct : MethodName := ⟨"KindRoundsModel", "doAct", "(II)V"⟩
theorem d_Md_doAct_0 : decode bc_Md_doAct 0 = .ok (.aload_n 0, 1) := by decide +kernel
theorem d_Md_doAct_1 : decode bc_Md_doAct 1 = .ok (.getfield 36, 3) := by decide +kernel
theorem d_Md_doAct_4 : decode bc_Md_doAct 4 = .ok (.iload_n 1, 1) := by decide +kernel
theorem d_Md_doAct_5 : decode bc_Md_doAct 5 = .ok (.iaload, 1) := by decide +kernel
theorem d_Md_doAct_6 : decode bc_Md_doAct 6 = .ok (.istore_n 3, 1) := by decide +kernel
theorem d_Md_doAct_7 : decode bc_Md_doAct 7 = .ok (.aload_n 0, 1) := by decide +kernel
theorem d_Md_doAct_8 : decode bc_Md_doAct 8 = .ok (.getfield 33, 3) := by decide +kernel
theorem d_Md_doAct_11 : decode bc_Md_doAct 11 = .ok (.iload_n 1, 1) := by decide +kernel
theorem d_Md_doAct_12 : decode bc_Md_doAct 12 = .ok (.iaload, 1) := by decide +kernel
theorem d_Md_doAct_13 : decode bc_Md_doAct 13 = .ok (.ifCond .ne 66, 3) := by decide +kernel
theorem d_Md_doAct_16 : decode bc_Md_doAct 16 = .ok (.aload_n 0, 1) := by decide +kernel
theorem d_Md_doAct_17 : decode bc_Md_doAct 17 = .ok (.iconst 0, 1) := by decide +kernel
theorem d_Md_doAct_18 : decode bc_Md_doAct 18 = .ok (.iconst 0, 1) := by decide +kernel
theorem d_Md_doAct_19 : decode bc_Md_doAct 19 = .ok (.iconst 0, 1) := by decide +kernel
theorem d_Md_doAct_20 : decode bc_Md_doAct 20 = .ok (.invokevirtual 202, 3) := by decide +kernel
theorem d_Md_doAct_23 : decode bc_Md_doAct 23 = .ok (.istore 4, 2) := by decide +kernel
theorem d_Md_doAct_25 : decode bc_Md_doAct 25 = .ok (.aload_n 0, 1) := by decide +kernel
theorem d_Md_doAct_26 : decode bc_Md_doAct 26 = .ok (.iconst 2, 1) := by decide +kernel
theorem d_Md_doAct_27 : decode bc_Md_doAct 27 = .ok (.aload_n 0, 1) := by decide +kernel
theorem d_Md_doAct_28 : decode bc_Md_doAct 28 = .ok (.getfield 30, 3) := by decide +kernel
theorem d_Md_doAct_31 : decode bc_Md_doAct 31 = .ok (.aload_n 0, 1) := by decide +kernel
theorem d_Md_doAct_32 : decode bc_Md_doAct 32 = .ok (.getfield 27, 3) := by decide +kernel
theorem d_Md_doAct_35 : decode bc_Md_doAct 35 = .ok (.iload_n 3, 1) := by decide +kernel
theorem d_Md_doAct_36 : decode bc_Md_doAct 36 = .ok (.iaload, 1) := by decide +kernel
theorem d_Md_doAct_37 : decode bc_Md_doAct 37 = .ok (.iaload, 1) := by decide +kernel
theorem d_Md_doAct_38 : decode bc_Md_doAct 38 = .ok (.iload 4, 2) := by decide +kernel
theorem d_Md_doAct_40 : decode bc_Md_doAct 40 = .ok (.invokevirtual 202, 3) := by decide +kernel
theorem d_Md_doAct_43 : decode bc_Md_doAct 43 = .ok (.istore 5, 2) := by decide +kernel
theorem d_Md_doAct_45 : decode bc_Md_doAct 45 = .ok (.aload_n 0, 1) := by decide +kernel
theorem d_Md_doAct_46 : decode bc_Md_doAct 46 = .ok (.aload_n 0, 1) := by decide +kernel
theorem d_Md_doAct_47 : decode bc_Md_doAct 47 = .ok (.getfield 30, 3) := by decide +kernel
theorem d_Md_doAct_50 : decode bc_Md_doAct 50 = .ok (.aload_n 0, 1) := by decide +kernel
theorem d_Md_doAct_51 : decode bc_Md_doAct 51 = .ok (.getfield 24, 3) := by decide +kernel
theorem d_Md_doAct_54 : decode bc_Md_doAct 54 = .ok (.iload_n 3, 1) := by decide +kernel
theorem d_Md_doAct_55 : decode bc_Md_doAct 55 = .ok (.iaload, 1) := by decide +kernel
theorem d_Md_doAct_56 : decode bc_Md_doAct 56 = .ok (.iaload, 1) := by decide +kernel
theorem d_Md_doAct_57 : decode bc_Md_doAct 57 = .ok (.iload 5, 2) := by decide +kernel
theorem d_Md_doAct_59 : decode bc_Md_doAct 59 = .ok (.aload_n 0, 1) := by decide +kernel
theorem d_Md_doAct_60 : decode bc_Md_doAct 60 = .ok (.getfield 39, 3) := by decide +kernel
theorem d_Md_doAct_63 : decode bc_Md_doAct 63 = .ok (.iload_n 1, 1) := by decide +kernel
theorem d_Md_doAct_64 : decode bc_Md_doAct 64 = .ok (.iaload, 1) := by decide +kernel
theorem d_Md_doAct_65 : decode bc_Md_doAct 65 = .ok (.invokevirtual 451, 3) := by decide +kernel
theorem d_Md_doAct_68 : decode bc_Md_doAct 68 = .ok (.aload_n 0, 1) := by decide +kernel
theorem d_Md_doAct_69 : decode bc_Md_doAct 69 = .ok (.getfield 30, 3) := by decide +kernel
theorem d_Md_doAct_72 : decode bc_Md_doAct 72 = .ok (.iload_n 3, 1) := by decide +kernel
theorem d_Md_doAct_73 : decode bc_Md_doAct 73 = .ok (.iload 4, 2) := by decide +kernel
theorem d_Md_doAct_75 : decode bc_Md_doAct 75 = .ok (.iastore, 1) := by decide +kernel
theorem d_Md_doAct_76 : decode bc_Md_doAct 76 = .ok (.goto 42, 3) := by decide +kernel
theorem d_Md_doAct_79 : decode bc_Md_doAct 79 = .ok (.aload_n 0, 1) := by decide +kernel
theorem d_Md_doAct_80 : decode bc_Md_doAct 80 = .ok (.aload_n 0, 1) := by decide +kernel
theorem d_Md_doAct_81 : decode bc_Md_doAct 81 = .ok (.getfield 30, 3) := by decide +kernel
theorem d_Md_doAct_84 : decode bc_Md_doAct 84 = .ok (.iload_n 3, 1) := by decide +kernel
theorem d_Md_doAct_85 : decode bc_Md_doAct 85 = .ok (.iaload, 1) := by decide +kernel
theorem d_Md_doAct_86 : decode bc_Md_doAct 86 = .ok (.aload_n 0, 1) := by decide +kernel
theorem d_Md_doAct_87 : decode bc_Md_doAct 87 = .ok (.getfield 33, 3) := by decide +kernel
theorem d_Md_doAct_90 : decode bc_Md_doAct 90 = .ok (.iload_n 1, 1) := by decide +kernel
theorem d_Md_doAct_91 : decode bc_Md_doAct 91 = .ok (.iaload, 1) := by decide +kernel
theorem d_Md_doAct_92 : decode bc_Md_doAct 92 = .ok (.iconst 1, 1) := by decide +kernel
theorem d_Md_doAct_93 : decode bc_Md_doAct 93 = .ok (.if_icmp .ne 10, 3) := by decide +kernel
theorem d_Md_doAct_96 : decode bc_Md_doAct 96 = .ok (.aload_n 0, 1) := by decide +kernel
theorem d_Md_doAct_97 : decode bc_Md_doAct 97 = .ok (.getfield 206, 3) := by decide +kernel
theorem d_Md_doAct_100 : decode bc_Md_doAct 100 = .ok (.goto 9, 3) := by decide +kernel
theorem d_Md_doAct_103 : decode bc_Md_doAct 103 = .ok (.aload_n 0, 1) := by decide +kernel
theorem d_Md_doAct_104 : decode bc_Md_doAct 104 = .ok (.getfield 166, 3) := by decide +kernel
theorem d_Md_doAct_107 : decode bc_Md_doAct 107 = .ok (.iload_n 2, 1) := by decide +kernel
theorem d_Md_doAct_108 : decode bc_Md_doAct 108 = .ok (.iaload, 1) := by decide +kernel
theorem d_Md_doAct_109 : decode bc_Md_doAct 109 = .ok (.aload_n 0, 1) := by decide +kernel
theorem d_Md_doAct_110 : decode bc_Md_doAct 110 = .ok (.getfield 39, 3) := by decide +kernel
theorem d_Md_doAct_113 : decode bc_Md_doAct 113 = .ok (.iload_n 1, 1) := by decide +kernel
theorem d_Md_doAct_114 : decode bc_Md_doAct 114 = .ok (.iaload, 1) := by decide +kernel
theorem d_Md_doAct_115 : decode bc_Md_doAct 115 = .ok (.invokevirtual 451, 3) := by decide +kernel
theorem d_Md_doAct_118 : decode bc_Md_doAct 118 = .ok (.return_, 1) := by decide +kernel
abbrev bc_Md_closeGroup : ByteArray := prog_14_method_62_code
abbrev y_Md_closeGroup : MethodName := ⟨"KindRoundsModel", "closeGroup", "(I)V"⟩
theorem d_Md_closeGroup_0 : decode bc_Md_closeGroup 0 = .ok (.iconst 0, 1) := by decide +kernel
theorem d_Md_closeGroup_1 : decode bc_Md_closeGroup 1 = .ok (.istore_n 2, 1) := by decide +kernel
theorem d_Md_closeGroup_2 : decode bc_Md_closeGroup 2 = .ok (.iload_n 2, 1) := by decide +kernel
theorem d_Md_closeGroup_3 : decode bc_Md_closeGroup 3 = .ok (.aload_n 0, 1) := by decide +kernel
theorem d_Md_closeGroup_4 : decode bc_Md_closeGroup 4 = .ok (.getfield 364, 3) := by decide +kernel
theorem d_Md_closeGroup_7 : decode bc_Md_closeGroup 7 = .ok (.if_icmp .ge 78, 3) := by decide +kernel
theorem d_Md_closeGroup_10 : decode bc_Md_closeGroup 10 = .ok (.aload_n 0, 1) := by decide +kernel
theorem d_Md_closeGroup_11 : decode bc_Md_closeGroup 11 = .ok (.getfield 157, 3) := by decide +kernel
theorem d_Md_closeGroup_14 : decode bc_Md_closeGroup 14 = .ok (.iload_n 2, 1) := by decide +kernel
theorem d_Md_closeGroup_15 : decode bc_Md_closeGroup 15 = .ok (.iaload, 1) := by decide +kernel
theorem d_Md_closeGroup_16 : decode bc_Md_closeGroup 16 = .ok (.iload_n 1, 1) := by decide +kernel
theorem d_Md_closeGroup_17 : decode bc_Md_closeGroup 17 = .ok (.if_icmp .eq 6, 3) := by decide +kernel
theorem d_Md_closeGroup_20 : decode bc_Md_closeGroup 20 = .ok (.goto 59, 3) := by decide +kernel
theorem d_Md_closeGroup_23 : decode bc_Md_closeGroup 23 = .ok (.aload_n 0, 1) := by decide +kernel
theorem d_Md_closeGroup_24 : decode bc_Md_closeGroup 24 = .ok (.getfield 169, 3) := by decide +kernel
theorem d_Md_closeGroup_27 : decode bc_Md_closeGroup 27 = .ok (.iload_n 2, 1) := by decide +kernel
theorem d_Md_closeGroup_28 : decode bc_Md_closeGroup 28 = .ok (.iconst 0, 1) := by decide +kernel
theorem d_Md_closeGroup_29 : decode bc_Md_closeGroup 29 = .ok (.iastore, 1) := by decide +kernel
theorem d_Md_closeGroup_30 : decode bc_Md_closeGroup 30 = .ok (.iconst 0, 1) := by decide +kernel
theorem d_Md_closeGroup_31 : decode bc_Md_closeGroup 31 = .ok (.istore_n 3, 1) := by decide +kernel
theorem d_Md_closeGroup_32 : decode bc_Md_closeGroup 32 = .ok (.iload_n 3, 1) := by decide +kernel
theorem d_Md_closeGroup_33 : decode bc_Md_closeGroup 33 = .ok (.aload_n 0, 1) := by decide +kernel
theorem d_Md_closeGroup_34 : decode bc_Md_closeGroup 34 = .ok (.getfield 121, 3) := by decide +kernel
theorem d_Md_closeGroup_37 : decode bc_Md_closeGroup 37 = .ok (.iload_n 2, 1) := by decide +kernel
theorem d_Md_closeGroup_38 : decode bc_Md_closeGroup 38 = .ok (.iaload, 1) := by decide +kernel
theorem d_Md_closeGroup_39 : decode bc_Md_closeGroup 39 = .ok (.if_icmp .ge 40, 3) := by decide +kernel
theorem d_Md_closeGroup_42 : decode bc_Md_closeGroup 42 = .ok (.aload_n 0, 1) := by decide +kernel
theorem d_Md_closeGroup_43 : decode bc_Md_closeGroup 43 = .ok (.getfield 169, 3) := by decide +kernel
theorem d_Md_closeGroup_46 : decode bc_Md_closeGroup 46 = .ok (.iload_n 2, 1) := by decide +kernel
theorem d_Md_closeGroup_47 : decode bc_Md_closeGroup 47 = .ok (.dup2, 1) := by decide +kernel
theorem d_Md_closeGroup_48 : decode bc_Md_closeGroup 48 = .ok (.iaload, 1) := by decide +kernel
theorem d_Md_closeGroup_49 : decode bc_Md_closeGroup 49 = .ok (.aload_n 0, 1) := by decide +kernel
theorem d_Md_closeGroup_50 : decode bc_Md_closeGroup 50 = .ok (.aload_n 0, 1) := by decide +kernel
theorem d_Md_closeGroup_51 : decode bc_Md_closeGroup 51 = .ok (.getfield 163, 3) := by decide +kernel
theorem d_Md_closeGroup_54 : decode bc_Md_closeGroup 54 = .ok (.iconst 3, 1) := by decide +kernel
theorem d_Md_closeGroup_55 : decode bc_Md_closeGroup 55 = .ok (.iload_n 2, 1) := by decide +kernel
theorem d_Md_closeGroup_56 : decode bc_Md_closeGroup 56 = .ok (.imul, 1) := by decide +kernel
theorem d_Md_closeGroup_57 : decode bc_Md_closeGroup 57 = .ok (.iload_n 3, 1) := by decide +kernel
theorem d_Md_closeGroup_58 : decode bc_Md_closeGroup 58 = .ok (.iadd, 1) := by decide +kernel
theorem d_Md_closeGroup_59 : decode bc_Md_closeGroup 59 = .ok (.iaload, 1) := by decide +kernel
theorem d_Md_closeGroup_60 : decode bc_Md_closeGroup 60 = .ok (.invokevirtual 463, 3) := by decide +kernel
theorem d_Md_closeGroup_63 : decode bc_Md_closeGroup 63 = .ok (.ifCond .eq 7, 3) := by decide +kernel
theorem d_Md_closeGroup_66 : decode bc_Md_closeGroup 66 = .ok (.iconst 1, 1) := by decide +kernel
theorem d_Md_closeGroup_67 : decode bc_Md_closeGroup 67 = .ok (.goto 4, 3) := by decide +kernel
theorem d_Md_closeGroup_70 : decode bc_Md_closeGroup 70 = .ok (.iconst 0, 1) := by decide +kernel
theorem d_Md_closeGroup_71 : decode bc_Md_closeGroup 71 = .ok (.iadd, 1) := by decide +kernel
theorem d_Md_closeGroup_72 : decode bc_Md_closeGroup 72 = .ok (.iastore, 1) := by decide +kernel
theorem d_Md_closeGroup_73 : decode bc_Md_closeGroup 73 = .ok (.iinc 3 1, 3) := by decide +kernel
theorem d_Md_closeGroup_76 : decode bc_Md_closeGroup 76 = .ok (.goto (-44), 3) := by decide +kernel
theorem d_Md_closeGroup_79 : decode bc_Md_closeGroup 79 = .ok (.iinc 2 1, 3) := by decide +kernel
theorem d_Md_closeGroup_82 : decode bc_Md_closeGroup 82 = .ok (.goto (-80), 3) := by decide +kernel
theorem d_Md_closeGroup_85 : decode bc_Md_closeGroup 85 = .ok (.iconst 0, 1) := by decide +kernel
theorem d_Md_closeGroup_86 : decode bc_Md_closeGroup 86 = .ok (.istore_n 2, 1) := by decide +kernel
theorem d_Md_closeGroup_87 : decode bc_Md_closeGroup 87 = .ok (.iload_n 2, 1) := by decide +kernel
theorem d_Md_closeGroup_88 : decode bc_Md_closeGroup 88 = .ok (.aload_n 0, 1) := by decide +kernel
theorem d_Md_closeGroup_89 : decode bc_Md_closeGroup 89 = .ok (.getfield 209, 3) := by decide +kernel
theorem d_Md_closeGroup_92 : decode bc_Md_closeGroup 92 = .ok (.if_icmp .ge 44, 3) := by decide +kernel
theorem d_Md_closeGroup_95 : decode bc_Md_closeGroup 95 = .ok (.aload_n 0, 1) := by decide +kernel
theorem d_Md_closeGroup_96 : decode bc_Md_closeGroup 96 = .ok (.getfield 91, 3) := by decide +kernel
theorem d_Md_closeGroup_99 : decode bc_Md_closeGroup 99 = .ok (.iload_n 2, 1) := by decide +kernel
theorem d_Md_closeGroup_100 : decode bc_Md_closeGroup 100 = .ok (.aload_n 0, 1) := by decide +kernel
theorem d_Md_closeGroup_101 : decode bc_Md_closeGroup 101 = .ok (.getfield 91, 3) := by decide +kernel
theorem d_Md_closeGroup_104 : decode bc_Md_closeGroup 104 = .ok (.iload_n 2, 1) := by decide +kernel
theorem d_Md_closeGroup_105 : decode bc_Md_closeGroup 105 = .ok (.iaload, 1) := by decide +kernel
theorem d_Md_closeGroup_106 : decode bc_Md_closeGroup 106 = .ok (.ifCond .ne 17, 3) := by decide +kernel
theorem d_Md_closeGroup_109 : decode bc_Md_closeGroup 109 = .ok (.aload_n 0, 1) := by decide +kernel
theorem d_Md_closeGroup_110 : decode bc_Md_closeGroup 110 = .ok (.getfield 100, 3) := by decide +kernel
theorem d_Md_closeGroup_113 : decode bc_Md_closeGroup 113 = .ok (.iload_n 2, 1) := by decide +kernel
theorem d_Md_closeGroup_114 : decode bc_Md_closeGroup 114 = .ok (.iaload, 1) := by decide +kernel
theorem d_Md_closeGroup_115 : decode bc_Md_closeGroup 115 = .ok (.iload_n 2, 1) := by decide +kernel
theorem d_Md_closeGroup_116 : decode bc_Md_closeGroup 116 = .ok (.if_icmp .ne 7, 3) := by decide +kernel
theorem d_Md_closeGroup_119 : decode bc_Md_closeGroup 119 = .ok (.iconst 1, 1) := by decide +kernel
theorem d_Md_closeGroup_120 : decode bc_Md_closeGroup 120 = .ok (.goto 9, 3) := by decide +kernel
theorem d_Md_closeGroup_123 : decode bc_Md_closeGroup 123 = .ok (.aload_n 0, 1) := by decide +kernel
theorem d_Md_closeGroup_124 : decode bc_Md_closeGroup 124 = .ok (.getfield 91, 3) := by decide +kernel
theorem d_Md_closeGroup_127 : decode bc_Md_closeGroup 127 = .ok (.iload_n 2, 1) := by decide +kernel
theorem d_Md_closeGroup_128 : decode bc_Md_closeGroup 128 = .ok (.iaload, 1) := by decide +kernel
theorem d_Md_closeGroup_129 : decode bc_Md_closeGroup 129 = .ok (.iastore, 1) := by decide +kernel
theorem d_Md_closeGroup_130 : decode bc_Md_closeGroup 130 = .ok (.iinc 2 1, 3) := by decide +kernel
theorem d_Md_closeGroup_133 : decode bc_Md_closeGroup 133 = .ok (.goto (-46), 3) := by decide +kernel
theorem d_Md_closeGroup_136 : decode bc_Md_closeGroup 136 = .ok (.return_, 1) := by decide +kernel
abbrev bc_Md_copy : ByteArray := prog_14_method_63_code
abbrev y_Md_copy : MethodName := ⟨"KindRoundsModel", "copy", "([I[II)V"⟩
theorem d_Md_copy_0 : decode bc_Md_copy 0 = .ok (.iconst 0, 1) := by decide +kernel
theorem d_Md_copy_1 : decode bc_Md_copy 1 = .ok (.istore_n 3, 1) := by decide +kernel
theorem d_Md_copy_2 : decode bc_Md_copy 2 = .ok (.iload_n 3, 1) := by decide +kernel
theorem d_Md_copy_3 : decode bc_Md_copy 3 = .ok (.iload_n 2, 1) := by decide +kernel
theorem d_Md_copy_4 : decode bc_Md_copy 4 = .ok (.if_icmp .ge 15, 3) := by decide +kernel
theorem d_Md_copy_7 : decode bc_Md_copy 7 = .ok (.aload_n 1, 1) := by decide +kernel
theorem d_Md_copy_8 : decode bc_Md_copy 8 = .ok (.iload_n 3, 1) := by decide +kernel
theorem d_Md_copy_9 : decode bc_Md_copy 9 = .ok (.aload_n 0, 1) := by decide +kernel
theorem d_Md_copy_10 : decode bc_Md_copy 10 = .ok (.iload_n 3, 1) := by decide +kernel
theorem d_Md_copy_11 : decode bc_Md_copy 11 = .ok (.iaload, 1) := by decide +kernel
theorem d_Md_copy_12 : decode bc_Md_copy 12 = .ok (.iastore, 1) := by decide +kernel
theorem d_Md_copy_13 : decode bc_Md_copy 13 = .ok (.iinc 3 1, 3) := by decide +kernel
theorem d_Md_copy_16 : decode bc_Md_copy 16 = .ok (.goto (-14), 3) := by decide +kernel
theorem d_Md_copy_19 : decode bc_Md_copy 19 = .ok (.return_, 1) := by decide +kernel
abbrev bc_Md_equate : ByteArray := prog_14_method_64_code
abbrev y_Md_equate : MethodName := ⟨"KindRoundsModel", "equate", "(III)V"⟩
theorem d_Md_equate_0 : decode bc_Md_equate 0 = .ok (.aload_n 0, 1) := by decide +kernel
theorem d_Md_equate_1 : decode bc_Md_equate 1 = .ok (.getfield 221, 3) := by decide +kernel
theorem d_Md_equate_4 : decode bc_Md_equate 4 = .ok (.ifCond .le 4, 3) := by decide +kernel
theorem d_Md_equate_7 : decode bc_Md_equate 7 = .ok (.return_, 1) := by decide +kernel
theorem d_Md_equate_8 : decode bc_Md_equate 8 = .ok (.aload_n 0, 1) := by decide +kernel
theorem d_Md_equate_9 : decode bc_Md_equate 9 = .ok (.getfield 100, 3) := by decide +kernel
theorem d_Md_equate_12 : decode bc_Md_equate 12 = .ok (.aload_n 0, 1) := by decide +kernel
theorem d_Md_equate_13 : decode bc_Md_equate 13 = .ok (.getfield 103, 3) := by decide +kernel
theorem d_Md_equate_16 : decode bc_Md_equate 16 = .ok (.aload_n 0, 1) := by decide +kernel
theorem d_Md_equate_17 : decode bc_Md_equate 17 = .ok (.getfield 209, 3) := by decide +kernel
theorem d_Md_equate_20 : decode bc_Md_equate 20 = .ok (.invokestatic 466, 3) := by decide +kernel
theorem d_Md_equate_23 : decode bc_Md_equate 23 = .ok (.aload_n 0, 1) := by decide +kernel
theorem d_Md_equate_24 : decode bc_Md_equate 24 = .ok (.iload_n 1, 1) := by decide +kernel
theorem d_Md_equate_25 : decode bc_Md_equate 25 = .ok (.iload_n 2, 1) := by decide +kernel
theorem d_Md_equate_26 : decode bc_Md_equate 26 = .ok (.invokevirtual 470, 3) := by decide +kernel
theorem d_Md_equate_29 : decode bc_Md_equate 29 = .ok (.ifCond .eq 11, 3) := by decide +kernel
theorem d_Md_equate_32 : decode bc_Md_equate 32 = .ok (.aload_n 0, 1) := by decide +kernel
theorem d_Md_equate_33 : decode bc_Md_equate 33 = .ok (.iload_n 1, 1) := by decide +kernel
theorem d_Md_equate_34 : decode bc_Md_equate 34 = .ok (.invokevirtual 473, 3) := by decide +kernel
theorem d_Md_equate_37 : decode bc_Md_equate 37 = .ok (.ifCond .eq 40, 3) := by decide +kernel
theorem d_Md_equate_40 : decode bc_Md_equate 40 = .ok (.aload_n 0, 1) := by decide +kernel
theorem d_Md_equate_41 : decode bc_Md_equate 41 = .ok (.getfield 103, 3) := by decide +kernel
theorem d_Md_equate_44 : decode bc_Md_equate 44 = .ok (.aload_n 0, 1) := by decide +kernel
theorem d_Md_equate_45 : decode bc_Md_equate 45 = .ok (.getfield 100, 3) := by decide +kernel
theorem d_Md_equate_48 : decode bc_Md_equate 48 = .ok (.aload_n 0, 1) := by decide +kernel
theorem d_Md_equate_49 : decode bc_Md_equate 49 = .ok (.getfield 209, 3) := by decide +kernel
theorem d_Md_equate_52 : decode bc_Md_equate 52 = .ok (.invokestatic 466, 3) := by decide +kernel
theorem d_Md_equate_55 : decode bc_Md_equate 55 = .ok (.aload_n 0, 1) := by decide +kernel
theorem d_Md_equate_56 : decode bc_Md_equate 56 = .ok (.bipush 6, 2) := by decide +kernel
theorem d_Md_equate_58 : decode bc_Md_equate 58 = .ok (.iload_n 3, 1) := by decide +kernel
theorem d_Md_equate_59 : decode bc_Md_equate 59 = .ok (.invokevirtual 251, 3) := by decide +kernel
theorem d_Md_equate_62 : decode bc_Md_equate 62 = .ok (.aload_n 0, 1) := by decide +kernel
theorem d_Md_equate_63 : decode bc_Md_equate 63 = .ok (.iconst 1, 1) := by decide +kernel
theorem d_Md_equate_64 : decode bc_Md_equate 64 = .ok (.putfield 354, 3) := by decide +kernel
theorem d_Md_equate_67 : decode bc_Md_equate 67 = .ok (.aload_n 0, 1) := by decide +kernel
theorem d_Md_equate_68 : decode bc_Md_equate 68 = .ok (.iload_n 1, 1) := by decide +kernel
theorem d_Md_equate_69 : decode bc_Md_equate 69 = .ok (.putfield 476, 3) := by decide +kernel
theorem d_Md_equate_72 : decode bc_Md_equate 72 = .ok (.aload_n 0, 1) := by decide +kernel
theorem d_Md_equate_73 : decode bc_Md_equate 73 = .ok (.iload_n 2, 1) := by decide +kernel
theorem d_Md_equate_74 : decode bc_Md_equate 74 = .ok (.putfield 479, 3) := by decide +kernel
theorem d_Md_equate_77 : decode bc_Md_equate 77 = .ok (.return_, 1) := by decide +kernel
abbrev bc_Md_join : ByteArray := prog_14_method_65_code
abbrev y_Md_join : MethodName := ⟨"KindRoundsModel", "join", "(II)Z"⟩
theorem d_Md_join_0 : decode bc_Md_join 0 = .ok (.iconst 2, 1) := by decide +kernel
theorem d_Md_join_1 : decode bc_Md_join 1 = .ok (.istore_n 3, 1) := by decide +kernel
theorem d_Md_join_2 : decode bc_Md_join 2 = .ok (.aload_n 0, 1) := by decide +kernel
theorem d_Md_join_3 : decode bc_Md_join 3 = .ok (.getfield 172, 3) := by decide +kernel
theorem d_Md_join_6 : decode bc_Md_join 6 = .ok (.iconst 0, 1) := by decide +kernel
theorem d_Md_join_7 : decode bc_Md_join 7 = .ok (.iload_n 1, 1) := by decide +kernel
theorem d_Md_join_8 : decode bc_Md_join 8 = .ok (.iastore, 1) := by decide +kernel
theorem d_Md_join_9 : decode bc_Md_join 9 = .ok (.aload_n 0, 1) := by decide +kernel
theorem d_Md_join_10 : decode bc_Md_join 10 = .ok (.getfield 172, 3) := by decide +kernel
theorem d_Md_join_13 : decode bc_Md_join 13 = .ok (.iconst 1, 1) := by decide +kernel
theorem d_Md_join_14 : decode bc_Md_join 14 = .ok (.iload_n 2, 1) := by decide +kernel
theorem d_Md_join_15 : decode bc_Md_join 15 = .ok (.iastore, 1) := by decide +kernel
theorem d_Md_join_16 : decode bc_Md_join 16 = .ok (.iload_n 3, 1) := by decide +kernel
theorem d_Md_join_17 : decode bc_Md_join 17 = .ok (.ifCond .le 189, 3) := by decide +kernel
theorem d_Md_join_20 : decode bc_Md_join 20 = .ok (.iinc 3 (-2), 3) := by decide +kernel
theorem d_Md_join_23 : decode bc_Md_join 23 = .ok (.aload_n 0, 1) := by decide +kernel
theorem d_Md_join_24 : decode bc_Md_join 24 = .ok (.aload_n 0, 1) := by decide +kernel
theorem d_Md_join_25 : decode bc_Md_join 25 = .ok (.getfield 172, 3) := by decide +kernel
theorem d_Md_join_28 : decode bc_Md_join 28 = .ok (.iload_n 3, 1) := by decide +kernel
theorem d_Md_join_29 : decode bc_Md_join 29 = .ok (.iaload, 1) := by decide +kernel
theorem d_Md_join_30 : decode bc_Md_join 30 = .ok (.invokevirtual 482, 3) := by decide +kernel
theorem d_Md_join_33 : decode bc_Md_join 33 = .ok (.istore 4, 2) := by decide +kernel
theorem d_Md_join_35 : decode bc_Md_join 35 = .ok (.aload_n 0, 1) := by decide +kernel
theorem d_Md_join_36 : decode bc_Md_join 36 = .ok (.aload_n 0, 1) := by decide +kernel
theorem d_Md_join_37 : decode bc_Md_join 37 = .ok (.getfield 172, 3) := by decide +kernel
theorem d_Md_join_40 : decode bc_Md_join 40 = .ok (.iload_n 3, 1) := by decide +kernel
theorem d_Md_join_41 : decode bc_Md_join 41 = .ok (.iconst 1, 1) := by decide +kernel
theorem d_Md_join_42 : decode bc_Md_join 42 = .ok (.iadd, 1) := by decide +kernel
theorem d_Md_join_43 : decode bc_Md_join 43 = .ok (.iaload, 1) := by decide +kernel
theorem d_Md_join_44 : decode bc_Md_join 44 = .ok (.invokevirtual 482, 3) := by decide +kernel
theorem d_Md_join_47 : decode bc_Md_join 47 = .ok (.istore 5, 2) := by decide +kernel
theorem d_Md_join_49 : decode bc_Md_join 49 = .ok (.iload 4, 2) := by decide +kernel
theorem d_Md_join_51 : decode bc_Md_join 51 = .ok (.iload 5, 2) := by decide +kernel
theorem d_Md_join_53 : decode bc_Md_join 53 = .ok (.if_icmp .ne 6, 3) := by decide +kernel
theorem d_Md_join_56 : decode bc_Md_join 56 = .ok (.goto (-40), 3) := by decide +kernel
theorem d_Md_join_59 : decode bc_Md_join 59 = .ok (.aload_n 0, 1) := by decide +kernel
theorem d_Md_join_60 : decode bc_Md_join 60 = .ok (.getfield 91, 3) := by decide +kernel
theorem d_Md_join_63 : decode bc_Md_join 63 = .ok (.iload 4, 2) := by decide +kernel
theorem d_Md_join_65 : decode bc_Md_join 65 = .ok (.iaload, 1) := by decide +kernel
theorem d_Md_join_66 : decode bc_Md_join 66 = .ok (.ifCond .ne 15, 3) := by decide +kernel
theorem d_Md_join_69 : decode bc_Md_join 69 = .ok (.aload_n 0, 1) := by decide +kernel
theorem d_Md_join_70 : decode bc_Md_join 70 = .ok (.getfield 100, 3) := by decide +kernel
theorem d_Md_join_73 : decode bc_Md_join 73 = .ok (.iload 4, 2) := by decide +kernel
theorem d_Md_join_75 : decode bc_Md_join 75 = .ok (.iload 5, 2) := by decide +kernel
theorem d_Md_join_77 : decode bc_Md_join 77 = .ok (.iastore, 1) := by decide +kernel
theorem d_Md_join_78 : decode bc_Md_join 78 = .ok (.goto 125, 3) := by decide +kernel
theorem d_Md_join_81 : decode bc_Md_join 81 = .ok (.aload_n 0, 1) := by decide +kernel
theorem d_Md_join_82 : decode bc_Md_join 82 = .ok (.getfield 91, 3) := by decide +kernel
theorem d_Md_join_85 : decode bc_Md_join 85 = .ok (.iload 5, 2) := by decide +kernel
theorem d_Md_join_87 : decode bc_Md_join 87 = .ok (.iaload, 1) := by decide +kernel
theorem d_Md_join_88 : decode bc_Md_join 88 = .ok (.ifCond .ne 15, 3) := by decide +kernel
theorem d_Md_join_91 : decode bc_Md_join 91 = .ok (.aload_n 0, 1) := by decide +kernel
theorem d_Md_join_92 : decode bc_Md_join 92 = .ok (.getfield 100, 3) := by decide +kernel
theorem d_Md_join_95 : decode bc_Md_join 95 = .ok (.iload 5, 2) := by decide +kernel
theorem d_Md_join_97 : decode bc_Md_join 97 = .ok (.iload 4, 2) := by decide +kernel
theorem d_Md_join_99 : decode bc_Md_join 99 = .ok (.iastore, 1) := by decide +kernel
theorem d_Md_join_100 : decode bc_Md_join 100 = .ok (.goto 103, 3) := by decide +kernel
theorem d_Md_join_103 : decode bc_Md_join 103 = .ok (.aload_n 0, 1) := by decide +kernel
theorem d_Md_join_104 : decode bc_Md_join 104 = .ok (.getfield 91, 3) := by decide +kernel
theorem d_Md_join_107 : decode bc_Md_join 107 = .ok (.iload 4, 2) := by decide +kernel
theorem d_Md_join_109 : decode bc_Md_join 109 = .ok (.iaload, 1) := by decide +kernel
theorem d_Md_join_110 : decode bc_Md_join 110 = .ok (.aload_n 0, 1) := by decide +kernel
theorem d_Md_join_111 : decode bc_Md_join 111 = .ok (.getfield 91, 3) := by decide +kernel
theorem d_Md_join_114 : decode bc_Md_join 114 = .ok (.iload 5, 2) := by decide +kernel
theorem d_Md_join_116 : decode bc_Md_join 116 = .ok (.iaload, 1) := by decide +kernel
theorem d_Md_join_117 : decode bc_Md_join 117 = .ok (.if_icmp .eq 5, 3) := by decide +kernel
theorem d_Md_join_120 : decode bc_Md_join 120 = .ok (.iconst 0, 1) := by decide +kernel
theorem d_Md_join_121 : decode bc_Md_join 121 = .ok (.ireturn, 1) := by decide +kernel
theorem d_Md_join_122 : decode bc_Md_join 122 = .ok (.aload_n 0, 1) := by decide +kernel
theorem d_Md_join_123 : decode bc_Md_join 123 = .ok (.getfield 100, 3) := by decide +kernel
theorem d_Md_join_126 : decode bc_Md_join 126 = .ok (.iload 4, 2) := by decide +kernel
theorem d_Md_join_128 : decode bc_Md_join 128 = .ok (.iload 5, 2) := by decide +kernel
theorem d_Md_join_130 : decode bc_Md_join 130 = .ok (.iastore, 1) := by decide +kernel
theorem d_Md_join_131 : decode bc_Md_join 131 = .ok (.aload_n 0, 1) := by decide +kernel
theorem d_Md_join_132 : decode bc_Md_join 132 = .ok (.getfield 91, 3) := by decide +kernel
theorem d_Md_join_135 : decode bc_Md_join 135 = .ok (.iload 4, 2) := by decide +kernel
theorem d_Md_join_137 : decode bc_Md_join 137 = .ok (.iaload, 1) := by decide +kernel
theorem d_Md_join_138 : decode bc_Md_join 138 = .ok (.iconst 2, 1) := by decide +kernel
theorem d_Md_join_139 : decode bc_Md_join 139 = .ok (.if_icmp .ne 64, 3) := by decide +kernel
theorem d_Md_join_142 : decode bc_Md_join 142 = .ok (.aload_n 0, 1) := by decide +kernel
theorem d_Md_join_143 : decode bc_Md_join 143 = .ok (.getfield 172, 3) := by decide +kernel
theorem d_Md_join_146 : decode bc_Md_join 146 = .ok (.iload_n 3, 1) := by decide +kernel
theorem d_Md_join_147 : decode bc_Md_join 147 = .ok (.aload_n 0, 1) := by decide +kernel
theorem d_Md_join_148 : decode bc_Md_join 148 = .ok (.getfield 97, 3) := by decide +kernel
theorem d_Md_join_151 : decode bc_Md_join 151 = .ok (.iload 4, 2) := by decide +kernel
theorem d_Md_join_153 : decode bc_Md_join 153 = .ok (.iaload, 1) := by decide +kernel
theorem d_Md_join_154 : decode bc_Md_join 154 = .ok (.iastore, 1) := by decide +kernel
theorem d_Md_join_155 : decode bc_Md_join 155 = .ok (.aload_n 0, 1) := by decide +kernel
theorem d_Md_join_156 : decode bc_Md_join 156 = .ok (.getfield 172, 3) := by decide +kernel
theorem d_Md_join_159 : decode bc_Md_join 159 = .ok (.iload_n 3, 1) := by decide +kernel
theorem d_Md_join_160 : decode bc_Md_join 160 = .ok (.iconst 1, 1) := by decide +kernel
theorem d_Md_join_161 : decode bc_Md_join 161 = .ok (.iadd, 1) := by decide +kernel
theorem d_Md_join_162 : decode bc_Md_join 162 = .ok (.aload_n 0, 1) := by decide +kernel
theorem d_Md_join_163 : decode bc_Md_join 163 = .ok (.getfield 97, 3) := by decide +kernel
theorem d_Md_join_166 : decode bc_Md_join 166 = .ok (.iload 5, 2) := by decide +kernel
theorem d_Md_join_168 : decode bc_Md_join 168 = .ok (.iaload, 1) := by decide +kernel
theorem d_Md_join_169 : decode bc_Md_join 169 = .ok (.iastore, 1) := by decide +kernel
theorem d_Md_join_170 : decode bc_Md_join 170 = .ok (.aload_n 0, 1) := by decide +kernel
theorem d_Md_join_171 : decode bc_Md_join 171 = .ok (.getfield 172, 3) := by decide +kernel
theorem d_Md_join_174 : decode bc_Md_join 174 = .ok (.iload_n 3, 1) := by decide +kernel
theorem d_Md_join_175 : decode bc_Md_join 175 = .ok (.iconst 2, 1) := by decide +kernel
theorem d_Md_join_176 : decode bc_Md_join 176 = .ok (.iadd, 1) := by decide +kernel
theorem d_Md_join_177 : decode bc_Md_join 177 = .ok (.aload_n 0, 1) := by decide +kernel
theorem d_Md_join_178 : decode bc_Md_join 178 = .ok (.getfield 94, 3) := by decide +kernel
theorem d_Md_join_181 : decode bc_Md_join 181 = .ok (.iload 4, 2) := by decide +kernel
theorem d_Md_join_183 : decode bc_Md_join 183 = .ok (.iaload, 1) := by decide +kernel
theorem d_Md_join_184 : decode bc_Md_join 184 = .ok (.iastore, 1) := by decide +kernel
theorem d_Md_join_185 : decode bc_Md_join 185 = .ok (.aload_n 0, 1) := by decide +kernel
theorem d_Md_join_186 : decode bc_Md_join 186 = .ok (.getfield 172, 3) := by decide +kernel
theorem d_Md_join_189 : decode bc_Md_join 189 = .ok (.iload_n 3, 1) := by decide +kernel
theorem d_Md_join_190 : decode bc_Md_join 190 = .ok (.iconst 3, 1) := by decide +kernel
theorem d_Md_join_191 : decode bc_Md_join 191 = .ok (.iadd, 1) := by decide +kernel
theorem d_Md_join_192 : decode bc_Md_join 192 = .ok (.aload_n 0, 1) := by decide +kernel
theorem d_Md_join_193 : decode bc_Md_join 193 = .ok (.getfield 94, 3) := by decide +kernel
theorem d_Md_join_196 : decode bc_Md_join 196 = .ok (.iload 5, 2) := by decide +kernel
theorem d_Md_join_198 : decode bc_Md_join 198 = .ok (.iaload, 1) := by decide +kernel
theorem d_Md_join_199 : decode bc_Md_join 199 = .ok (.iastore, 1) := by decide +kernel
theorem d_Md_join_200 : decode bc_Md_join 200 = .ok (.iinc 3 4, 3) := by decide +kernel
theorem d_Md_join_203 : decode bc_Md_join 203 = .ok (.goto (-187), 3) := by decide +kernel
theorem d_Md_join_206 : decode bc_Md_join 206 = .ok (.iconst 1, 1) := by decide +kernel
theorem d_Md_join_207 : decode bc_Md_join 207 = .ok (.ireturn, 1) := by decide +kernel
abbrev bc_Md_unmark : ByteArray := prog_14_method_66_code
abbrev y_Md_unmark : MethodName := ⟨"KindRoundsModel", "unmark", "()V"⟩
theorem d_Md_unmark_0 : decode bc_Md_unmark 0 = .ok (.iconst 0, 1) := by decide +kernel
theorem d_Md_unmark_1 : decode bc_Md_unmark 1 = .ok (.istore_n 1, 1) := by decide +kernel
theorem d_Md_unmark_2 : decode bc_Md_unmark 2 = .ok (.iload_n 1, 1) := by decide +kernel
theorem d_Md_unmark_3 : decode bc_Md_unmark 3 = .ok (.aload_n 0, 1) := by decide +kernel
theorem d_Md_unmark_4 : decode bc_Md_unmark 4 = .ok (.getfield 209, 3) := by decide +kernel
theorem d_Md_unmark_7 : decode bc_Md_unmark 7 = .ok (.if_icmp .ge 16, 3) := by decide +kernel
theorem d_Md_unmark_10 : decode bc_Md_unmark 10 = .ok (.aload_n 0, 1) := by decide +kernel
theorem d_Md_unmark_11 : decode bc_Md_unmark 11 = .ok (.getfield 175, 3) := by decide +kernel
theorem d_Md_unmark_14 : decode bc_Md_unmark 14 = .ok (.iload_n 1, 1) := by decide +kernel
theorem d_Md_unmark_15 : decode bc_Md_unmark 15 = .ok (.iconst 0, 1) := by decide +kernel
theorem d_Md_unmark_16 : decode bc_Md_unmark 16 = .ok (.iastore, 1) := by decide +kernel
theorem d_Md_unmark_17 : decode bc_Md_unmark 17 = .ok (.iinc 1 1, 3) := by decide +kernel
theorem d_Md_unmark_20 : decode bc_Md_unmark 20 = .ok (.goto (-18), 3) := by decide +kernel
theorem d_Md_unmark_23 : decode bc_Md_unmark 23 = .ok (.return_, 1) := by decide +kernel
abbrev bc_Md_goesRound : ByteArray := prog_14_method_67_code
abbrev y_Md_goesRound : MethodName := ⟨"KindRoundsModel", "goesRound", "(I)Z"⟩
theorem d_Md_goesRound_0 : decode bc_Md_goesRound 0 = .ok (.aload_n 0, 1) := by decide +kernel
theorem d_Md_goesRound_1 : decode bc_Md_goesRound 1 = .ok (.invokevirtual 485, 3) := by decide +kernel
theorem d_Md_goesRound_4 : decode bc_Md_goesRound 4 = .ok (.iconst 1, 1) := by decide +kernel
theorem d_Md_goesRound_5 : decode bc_Md_goesRound 5 = .ok (.istore_n 2, 1) := by decide +kernel
theorem d_Md_goesRound_6 : decode bc_Md_goesRound 6 = .ok (.aload_n 0, 1) := by decide +kernel
theorem d_Md_goesRound_7 : decode bc_Md_goesRound 7 = .ok (.getfield 172, 3) := by decide +kernel
theorem d_Md_goesRound_10 : decode bc_Md_goesRound 10 = .ok (.iconst 0, 1) := by decide +kernel
theorem d_Md_goesRound_11 : decode bc_Md_goesRound 11 = .ok (.iload_n 1, 1) := by decide +kernel
theorem d_Md_goesRound_12 : decode bc_Md_goesRound 12 = .ok (.iastore, 1) := by decide +kernel
theorem d_Md_goesRound_13 : decode bc_Md_goesRound 13 = .ok (.iload_n 2, 1) := by decide +kernel
theorem d_Md_goesRound_14 : decode bc_Md_goesRound 14 = .ok (.ifCond .le 132, 3) := by decide +kernel
theorem d_Md_goesRound_17 : decode bc_Md_goesRound 17 = .ok (.aload_n 0, 1) := by decide +kernel
theorem d_Md_goesRound_18 : decode bc_Md_goesRound 18 = .ok (.aload_n 0, 1) := by decide +kernel
theorem d_Md_goesRound_19 : decode bc_Md_goesRound 19 = .ok (.getfield 172, 3) := by decide +kernel
theorem d_Md_goesRound_22 : decode bc_Md_goesRound 22 = .ok (.iload_n 2, 1) := by decide +kernel
theorem d_Md_goesRound_23 : decode bc_Md_goesRound 23 = .ok (.iconst 1, 1) := by decide +kernel
theorem d_Md_goesRound_24 : decode bc_Md_goesRound 24 = .ok (.isub, 1) := by decide +kernel
theorem d_Md_goesRound_25 : decode bc_Md_goesRound 25 = .ok (.iaload, 1) := by decide +kernel
theorem d_Md_goesRound_26 : decode bc_Md_goesRound 26 = .ok (.invokevirtual 482, 3) := by decide +kernel
theorem d_Md_goesRound_29 : decode bc_Md_goesRound 29 = .ok (.istore_n 3, 1) := by decide +kernel
theorem d_Md_goesRound_30 : decode bc_Md_goesRound 30 = .ok (.aload_n 0, 1) := by decide +kernel
theorem d_Md_goesRound_31 : decode bc_Md_goesRound 31 = .ok (.getfield 175, 3) := by decide +kernel
theorem d_Md_goesRound_34 : decode bc_Md_goesRound 34 = .ok (.iload_n 3, 1) := by decide +kernel
theorem d_Md_goesRound_35 : decode bc_Md_goesRound 35 = .ok (.iaload, 1) := by decide +kernel
theorem d_Md_goesRound_36 : decode bc_Md_goesRound 36 = .ok (.iconst 1, 1) := by decide +kernel
theorem d_Md_goesRound_37 : decode bc_Md_goesRound 37 = .ok (.if_icmp .ne 16, 3) := by decide +kernel
theorem d_Md_goesRound_40 : decode bc_Md_goesRound 40 = .ok (.aload_n 0, 1) := by decide +kernel
theorem d_Md_goesRound_41 : decode bc_Md_goesRound 41 = .ok (.getfield 175, 3) := by decide +kernel
theorem d_Md_goesRound_44 : decode bc_Md_goesRound 44 = .ok (.iload_n 3, 1) := by decide +kernel
theorem d_Md_goesRound_45 : decode bc_Md_goesRound 45 = .ok (.iconst 2, 1) := by decide +kernel
theorem d_Md_goesRound_46 : decode bc_Md_goesRound 46 = .ok (.iastore, 1) := by decide +kernel
theorem d_Md_goesRound_47 : decode bc_Md_goesRound 47 = .ok (.iinc 2 (-1), 3) := by decide +kernel
theorem d_Md_goesRound_50 : decode bc_Md_goesRound 50 = .ok (.goto (-37), 3) := by decide +kernel
theorem d_Md_goesRound_53 : decode bc_Md_goesRound 53 = .ok (.aload_n 0, 1) := by decide +kernel
theorem d_Md_goesRound_54 : decode bc_Md_goesRound 54 = .ok (.getfield 175, 3) := by decide +kernel
theorem d_Md_goesRound_57 : decode bc_Md_goesRound 57 = .ok (.iload_n 3, 1) := by decide +kernel
theorem d_Md_goesRound_58 : decode bc_Md_goesRound 58 = .ok (.iaload, 1) := by decide +kernel
theorem d_Md_goesRound_59 : decode bc_Md_goesRound 59 = .ok (.iconst 2, 1) := by decide +kernel
theorem d_Md_goesRound_60 : decode bc_Md_goesRound 60 = .ok (.if_icmp .eq 13, 3) := by decide +kernel
theorem d_Md_goesRound_63 : decode bc_Md_goesRound 63 = .ok (.aload_n 0, 1) := by decide +kernel
theorem d_Md_goesRound_64 : decode bc_Md_goesRound 64 = .ok (.getfield 91, 3) := by decide +kernel
theorem d_Md_goesRound_67 : decode bc_Md_goesRound 67 = .ok (.iload_n 3, 1) := by decide +kernel
theorem d_Md_goesRound_68 : decode bc_Md_goesRound 68 = .ok (.iaload, 1) := by decide +kernel
theorem d_Md_goesRound_69 : decode bc_Md_goesRound 69 = .ok (.iconst 2, 1) := by decide +kernel
theorem d_Md_goesRound_70 : decode bc_Md_goesRound 70 = .ok (.if_icmp .eq 9, 3) := by decide +kernel
theorem d_Md_goesRound_73 : decode bc_Md_goesRound 73 = .ok (.iinc 2 (-1), 3) := by decide +kernel
theorem d_Md_goesRound_76 : decode bc_Md_goesRound 76 = .ok (.goto (-63), 3) := by decide +kernel
theorem d_Md_goesRound_79 : decode bc_Md_goesRound 79 = .ok (.aload_n 0, 1) := by decide +kernel
theorem d_Md_goesRound_80 : decode bc_Md_goesRound 80 = .ok (.getfield 175, 3) := by decide +kernel
theorem d_Md_goesRound_83 : decode bc_Md_goesRound 83 = .ok (.iload_n 3, 1) := by decide +kernel
theorem d_Md_goesRound_84 : decode bc_Md_goesRound 84 = .ok (.iconst 1, 1) := by decide +kernel
theorem d_Md_goesRound_85 : decode bc_Md_goesRound 85 = .ok (.iastore, 1) := by decide +kernel
theorem d_Md_goesRound_86 : decode bc_Md_goesRound 86 = .ok (.aload_n 0, 1) := by decide +kernel
theorem d_Md_goesRound_87 : decode bc_Md_goesRound 87 = .ok (.aload_n 0, 1) := by decide +kernel
theorem d_Md_goesRound_88 : decode bc_Md_goesRound 88 = .ok (.getfield 94, 3) := by decide +kernel
theorem d_Md_goesRound_91 : decode bc_Md_goesRound 91 = .ok (.iload_n 3, 1) := by decide +kernel
theorem d_Md_goesRound_92 : decode bc_Md_goesRound 92 = .ok (.iaload, 1) := by decide +kernel
theorem d_Md_goesRound_93 : decode bc_Md_goesRound 93 = .ok (.invokevirtual 488, 3) := by decide +kernel
theorem d_Md_goesRound_96 : decode bc_Md_goesRound 96 = .ok (.ifCond .ne 16, 3) := by decide +kernel
theorem d_Md_goesRound_99 : decode bc_Md_goesRound 99 = .ok (.aload_n 0, 1) := by decide +kernel
theorem d_Md_goesRound_100 : decode bc_Md_goesRound 100 = .ok (.aload_n 0, 1) := by decide +kernel
theorem d_Md_goesRound_101 : decode bc_Md_goesRound 101 = .ok (.getfield 97, 3) := by decide +kernel
theorem d_Md_goesRound_104 : decode bc_Md_goesRound 104 = .ok (.iload_n 3, 1) := by decide +kernel
theorem d_Md_goesRound_105 : decode bc_Md_goesRound 105 = .ok (.iaload, 1) := by decide +kernel
theorem d_Md_goesRound_106 : decode bc_Md_goesRound 106 = .ok (.invokevirtual 488, 3) := by decide +kernel
theorem d_Md_goesRound_109 : decode bc_Md_goesRound 109 = .ok (.ifCond .eq 5, 3) := by decide +kernel
theorem d_Md_goesRound_112 : decode bc_Md_goesRound 112 = .ok (.iconst 1, 1) := by decide +kernel
theorem d_Md_goesRound_113 : decode bc_Md_goesRound 113 = .ok (.ireturn, 1) := by decide +kernel
theorem d_Md_goesRound_114 : decode bc_Md_goesRound 114 = .ok (.aload_n 0, 1) := by decide +kernel
theorem d_Md_goesRound_115 : decode bc_Md_goesRound 115 = .ok (.getfield 172, 3) := by decide +kernel
theorem d_Md_goesRound_118 : decode bc_Md_goesRound 118 = .ok (.iload_n 2, 1) := by decide +kernel
theorem d_Md_goesRound_119 : decode bc_Md_goesRound 119 = .ok (.aload_n 0, 1) := by decide +kernel
theorem d_Md_goesRound_120 : decode bc_Md_goesRound 120 = .ok (.getfield 97, 3) := by decide +kernel
theorem d_Md_goesRound_123 : decode bc_Md_goesRound 123 = .ok (.iload_n 3, 1) := by decide +kernel
theorem d_Md_goesRound_124 : decode bc_Md_goesRound 124 = .ok (.iaload, 1) := by decide +kernel
theorem d_Md_goesRound_125 : decode bc_Md_goesRound 125 = .ok (.iastore, 1) := by decide +kernel
theorem d_Md_goesRound_126 : decode bc_Md_goesRound 126 = .ok (.aload_n 0, 1) := by decide +kernel
theorem d_Md_goesRound_127 : decode bc_Md_goesRound 127 = .ok (.getfield 172, 3) := by decide +kernel
theorem d_Md_goesRound_130 : decode bc_Md_goesRound 130 = .ok (.iload_n 2, 1) := by decide +kernel
theorem d_Md_goesRound_131 : decode bc_Md_goesRound 131 = .ok (.iconst 1, 1) := by decide +kernel
theorem d_Md_goesRound_132 : decode bc_Md_goesRound 132 = .ok (.iadd, 1) := by decide +kernel
theorem d_Md_goesRound_133 : decode bc_Md_goesRound 133 = .ok (.aload_n 0, 1) := by decide +kernel
theorem d_Md_goesRound_134 : decode bc_Md_goesRound 134 = .ok (.getfield 94, 3) := by decide +kernel
theorem d_Md_goesRound_137 : decode bc_Md_goesRound 137 = .ok (.iload_n 3, 1) := by decide +kernel
theorem d_Md_goesRound_138 : decode bc_Md_goesRound 138 = .ok (.iaload, 1) := by decide +kernel
theorem d_Md_goesRound_139 : decode bc_Md_goesRound 139 = .ok (.iastore, 1) := by decide +kernel
theorem d_Md_goesRound_140 : decode bc_Md_goesRound 140 = .ok (.iinc 2 2, 3) := by decide +kernel
theorem d_Md_goesRound_143 : decode bc_Md_goesRound 143 = .ok (.goto (-130), 3) := by decide +kernel
theorem d_Md_goesRound_146 : decode bc_Md_goesRound 146 = .ok (.iconst 0, 1) := by decide +kernel
theorem d_Md_goesRound_147 : decode bc_Md_goesRound 147 = .ok (.ireturn, 1) := by decide +kernel
abbrev bc_Md_isOnWay : ByteArray := prog_14_method_68_code
abbrev y_Md_isOnWay : MethodName := ⟨"KindRoundsModel", "isOnWay", "(I)Z"⟩
theorem d_Md_isOnWay_0 : decode bc_Md_isOnWay 0 = .ok (.aload_n 0, 1) := by decide +kernel
theorem d_Md_isOnWay_1 : decode bc_Md_isOnWay 1 = .ok (.getfield 175, 3) := by decide +kernel
theorem d_Md_isOnWay_4 : decode bc_Md_isOnWay 4 = .ok (.aload_n 0, 1) := by decide +kernel
theorem d_Md_isOnWay_5 : decode bc_Md_isOnWay 5 = .ok (.iload_n 1, 1) := by decide +kernel
theorem d_Md_isOnWay_6 : decode bc_Md_isOnWay 6 = .ok (.invokevirtual 482, 3) := by decide +kernel
theorem d_Md_isOnWay_9 : decode bc_Md_isOnWay 9 = .ok (.iaload, 1) := by decide +kernel
theorem d_Md_isOnWay_10 : decode bc_Md_isOnWay 10 = .ok (.iconst 1, 1) := by decide +kernel
theorem d_Md_isOnWay_11 : decode bc_Md_isOnWay 11 = .ok (.if_icmp .ne 7, 3) := by decide +kernel
theorem d_Md_isOnWay_14 : decode bc_Md_isOnWay 14 = .ok (.iconst 1, 1) := by decide +kernel
theorem d_Md_isOnWay_15 : decode bc_Md_isOnWay 15 = .ok (.goto 4, 3) := by decide +kernel
theorem d_Md_isOnWay_18 : decode bc_Md_isOnWay 18 = .ok (.iconst 0, 1) := by decide +kernel
theorem d_Md_isOnWay_19 : decode bc_Md_isOnWay 19 = .ok (.ireturn, 1) := by decide +kernel
abbrev bc_Md_hasOpen : ByteArray := prog_14_method_69_code
abbrev y_Md_hasOpen : MethodName := ⟨"KindRoundsModel", "hasOpen", "(I)Z"⟩
theorem d_Md_hasOpen_0 : decode bc_Md_hasOpen 0 = .ok (.aload_n 0, 1) := by decide +kernel
theorem d_Md_hasOpen_1 : decode bc_Md_hasOpen 1 = .ok (.invokevirtual 485, 3) := by decide +kernel
theorem d_Md_hasOpen_4 : decode bc_Md_hasOpen 4 = .ok (.iconst 1, 1) := by decide +kernel
theorem d_Md_hasOpen_5 : decode bc_Md_hasOpen 5 = .ok (.istore_n 2, 1) := by decide +kernel
theorem d_Md_hasOpen_6 : decode bc_Md_hasOpen 6 = .ok (.aload_n 0, 1) := by decide +kernel
theorem d_Md_hasOpen_7 : decode bc_Md_hasOpen 7 = .ok (.getfield 172, 3) := by decide +kernel
theorem d_Md_hasOpen_10 : decode bc_Md_hasOpen 10 = .ok (.iconst 0, 1) := by decide +kernel
theorem d_Md_hasOpen_11 : decode bc_Md_hasOpen 11 = .ok (.iload_n 1, 1) := by decide +kernel
theorem d_Md_hasOpen_12 : decode bc_Md_hasOpen 12 = .ok (.iastore, 1) := by decide +kernel
theorem d_Md_hasOpen_13 : decode bc_Md_hasOpen 13 = .ok (.iload_n 2, 1) := by decide +kernel
theorem d_Md_hasOpen_14 : decode bc_Md_hasOpen 14 = .ok (.ifCond .le 86, 3) := by decide +kernel
theorem d_Md_hasOpen_17 : decode bc_Md_hasOpen 17 = .ok (.iinc 2 (-1), 3) := by decide +kernel
theorem d_Md_hasOpen_20 : decode bc_Md_hasOpen 20 = .ok (.aload_n 0, 1) := by decide +kernel
theorem d_Md_hasOpen_21 : decode bc_Md_hasOpen 21 = .ok (.aload_n 0, 1) := by decide +kernel
theorem d_Md_hasOpen_22 : decode bc_Md_hasOpen 22 = .ok (.getfield 172, 3) := by decide +kernel
theorem d_Md_hasOpen_25 : decode bc_Md_hasOpen 25 = .ok (.iload_n 2, 1) := by decide +kernel
theorem d_Md_hasOpen_26 : decode bc_Md_hasOpen 26 = .ok (.iaload, 1) := by decide +kernel
theorem d_Md_hasOpen_27 : decode bc_Md_hasOpen 27 = .ok (.invokevirtual 482, 3) := by decide +kernel
theorem d_Md_hasOpen_30 : decode bc_Md_hasOpen 30 = .ok (.istore_n 3, 1) := by decide +kernel
theorem d_Md_hasOpen_31 : decode bc_Md_hasOpen 31 = .ok (.aload_n 0, 1) := by decide +kernel
theorem d_Md_hasOpen_32 : decode bc_Md_hasOpen 32 = .ok (.getfield 91, 3) := by decide +kernel
theorem d_Md_hasOpen_35 : decode bc_Md_hasOpen 35 = .ok (.iload_n 3, 1) := by decide +kernel
theorem d_Md_hasOpen_36 : decode bc_Md_hasOpen 36 = .ok (.iaload, 1) := by decide +kernel
theorem d_Md_hasOpen_37 : decode bc_Md_hasOpen 37 = .ok (.ifCond .ne 5, 3) := by decide +kernel
theorem d_Md_hasOpen_40 : decode bc_Md_hasOpen 40 = .ok (.iconst 1, 1) := by decide +kernel
theorem d_Md_hasOpen_41 : decode bc_Md_hasOpen 41 = .ok (.ireturn, 1) := by decide +kernel
theorem d_Md_hasOpen_42 : decode bc_Md_hasOpen 42 = .ok (.aload_n 0, 1) := by decide +kernel
theorem d_Md_hasOpen_43 : decode bc_Md_hasOpen 43 = .ok (.getfield 91, 3) := by decide +kernel
theorem d_Md_hasOpen_46 : decode bc_Md_hasOpen 46 = .ok (.iload_n 3, 1) := by decide +kernel
theorem d_Md_hasOpen_47 : decode bc_Md_hasOpen 47 = .ok (.iaload, 1) := by decide +kernel
theorem d_Md_hasOpen_48 : decode bc_Md_hasOpen 48 = .ok (.iconst 2, 1) := by decide +kernel
theorem d_Md_hasOpen_49 : decode bc_Md_hasOpen 49 = .ok (.if_icmp .ne 41, 3) := by decide +kernel
theorem d_Md_hasOpen_52 : decode bc_Md_hasOpen 52 = .ok (.aload_n 0, 1) := by decide +kernel
theorem d_Md_hasOpen_53 : decode bc_Md_hasOpen 53 = .ok (.getfield 175, 3) := by decide +kernel
theorem d_Md_hasOpen_56 : decode bc_Md_hasOpen 56 = .ok (.iload_n 3, 1) := by decide +kernel
theorem d_Md_hasOpen_57 : decode bc_Md_hasOpen 57 = .ok (.iaload, 1) := by decide +kernel
theorem d_Md_hasOpen_58 : decode bc_Md_hasOpen 58 = .ok (.ifCond .ne 32, 3) := by decide +kernel
theorem d_Md_hasOpen_61 : decode bc_Md_hasOpen 61 = .ok (.aload_n 0, 1) := by decide +kernel
theorem d_Md_hasOpen_62 : decode bc_Md_hasOpen 62 = .ok (.getfield 172, 3) := by decide +kernel
theorem d_Md_hasOpen_65 : decode bc_Md_hasOpen 65 = .ok (.iload_n 2, 1) := by decide +kernel
theorem d_Md_hasOpen_66 : decode bc_Md_hasOpen 66 = .ok (.aload_n 0, 1) := by decide +kernel
theorem d_Md_hasOpen_67 : decode bc_Md_hasOpen 67 = .ok (.getfield 97, 3) := by decide +kernel
theorem d_Md_hasOpen_70 : decode bc_Md_hasOpen 70 = .ok (.iload_n 3, 1) := by decide +kernel
theorem d_Md_hasOpen_71 : decode bc_Md_hasOpen 71 = .ok (.iaload, 1) := by decide +kernel
theorem d_Md_hasOpen_72 : decode bc_Md_hasOpen 72 = .ok (.iastore, 1) := by decide +kernel
theorem d_Md_hasOpen_73 : decode bc_Md_hasOpen 73 = .ok (.aload_n 0, 1) := by decide +kernel
theorem d_Md_hasOpen_74 : decode bc_Md_hasOpen 74 = .ok (.getfield 172, 3) := by decide +kernel
theorem d_Md_hasOpen_77 : decode bc_Md_hasOpen 77 = .ok (.iload_n 2, 1) := by decide +kernel
theorem d_Md_hasOpen_78 : decode bc_Md_hasOpen 78 = .ok (.iconst 1, 1) := by decide +kernel
theorem d_Md_hasOpen_79 : decode bc_Md_hasOpen 79 = .ok (.iadd, 1) := by decide +kernel
theorem d_Md_hasOpen_80 : decode bc_Md_hasOpen 80 = .ok (.aload_n 0, 1) := by decide +kernel
theorem d_Md_hasOpen_81 : decode bc_Md_hasOpen 81 = .ok (.getfield 94, 3) := by decide +kernel
theorem d_Md_hasOpen_84 : decode bc_Md_hasOpen 84 = .ok (.iload_n 3, 1) := by decide +kernel
theorem d_Md_hasOpen_85 : decode bc_Md_hasOpen 85 = .ok (.iaload, 1) := by decide +kernel
theorem d_Md_hasOpen_86 : decode bc_Md_hasOpen 86 = .ok (.iastore, 1) := by decide +kernel
theorem d_Md_hasOpen_87 : decode bc_Md_hasOpen 87 = .ok (.iinc 2 2, 3) := by decide +kernel
theorem d_Md_hasOpen_90 : decode bc_Md_hasOpen 90 = .ok (.aload_n 0, 1) := by decide +kernel
theorem d_Md_hasOpen_91 : decode bc_Md_hasOpen 91 = .ok (.getfield 175, 3) := by decide +kernel
theorem d_Md_hasOpen_94 : decode bc_Md_hasOpen 94 = .ok (.iload_n 3, 1) := by decide +kernel
theorem d_Md_hasOpen_95 : decode bc_Md_hasOpen 95 = .ok (.iconst 1, 1) := by decide +kernel
theorem d_Md_hasOpen_96 : decode bc_Md_hasOpen 96 = .ok (.iastore, 1) := by decide +kernel
theorem d_Md_hasOpen_97 : decode bc_Md_hasOpen 97 = .ok (.goto (-84), 3) := by decide +kernel
theorem d_Md_hasOpen_100 : decode bc_Md_hasOpen 100 = .ok (.iconst 0, 1) := by decide +kernel
theorem d_Md_hasOpen_101 : decode bc_Md_hasOpen 101 = .ok (.ireturn, 1) := by decide +kernel
abbrev bc_Md_put : ByteArray := prog_14_method_70_code
abbrev y_Md_put : MethodName := ⟨"KindRoundsModel", "put", "(I)V"⟩
theorem d_Md_put_0 : decode bc_Md_put 0 = .ok (.aload_n 0, 1) := by decide +kernel
theorem d_Md_put_1 : decode bc_Md_put 1 = .ok (.getfield 491, 3) := by decide +kernel
theorem d_Md_put_4 : decode bc_Md_put 4 = .ok (.sipush 5990, 3) := by decide +kernel
theorem d_Md_put_7 : decode bc_Md_put 7 = .ok (.if_icmp .ge 13, 3) := by decide +kernel
theorem d_Md_put_10 : decode bc_Md_put 10 = .ok (.aload_n 0, 1) := by decide +kernel
theorem d_Md_put_11 : decode bc_Md_put 11 = .ok (.getfield 178, 3) := by decide +kernel
theorem d_Md_put_14 : decode bc_Md_put 14 = .ok (.aload_n 0, 1) := by decide +kernel
theorem d_Md_put_15 : decode bc_Md_put 15 = .ok (.getfield 491, 3) := by decide +kernel
theorem d_Md_put_18 : decode bc_Md_put 18 = .ok (.iload_n 1, 1) := by decide +kernel
theorem d_Md_put_19 : decode bc_Md_put 19 = .ok (.iastore, 1) := by decide +kernel
theorem d_Md_put_20 : decode bc_Md_put 20 = .ok (.aload_n 0, 1) := by decide +kernel
theorem d_Md_put_21 : decode bc_Md_put 21 = .ok (.dup, 1) := by decide +kernel
theorem d_Md_put_22 : decode bc_Md_put 22 = .ok (.getfield 491, 3) := by decide +kernel
theorem d_Md_put_25 : decode bc_Md_put 25 = .ok (.iconst 1, 1) := by decide +kernel
theorem d_Md_put_26 : decode bc_Md_put 26 = .ok (.iadd, 1) := by decide +kernel
theorem d_Md_put_27 : decode bc_Md_put 27 = .ok (.putfield 491, 3) := by decide +kernel
theorem d_Md_put_30 : decode bc_Md_put 30 = .ok (.return_, 1) := by decide +kernel
abbrev bc_Md_commit : ByteArray := prog_14_method_71_code
abbrev y_Md_commit : MethodName := ⟨"KindRoundsModel", "commit", "()I"⟩
theorem d_Md_commit_0 : decode bc_Md_commit 0 = .ok (.iconst 0, 1) := by decide +kernel
theorem d_Md_commit_1 : decode bc_Md_commit 1 = .ok (.istore_n 1, 1) := by decide +kernel
theorem d_Md_commit_2 : decode bc_Md_commit 2 = .ok (.iload_n 1, 1) := by decide +kernel
theorem d_Md_commit_3 : decode bc_Md_commit 3 = .ok (.aload_n 0, 1) := by decide +kernel
theorem d_Md_commit_4 : decode bc_Md_commit 4 = .ok (.getfield 491, 3) := by decide +kernel
theorem d_Md_commit_7 : decode bc_Md_commit 7 = .ok (.if_icmp .ge 21, 3) := by decide +kernel
theorem d_Md_commit_10 : decode bc_Md_commit 10 = .ok (.aload_n 0, 1) := by decide +kernel
theorem d_Md_commit_11 : decode bc_Md_commit 11 = .ok (.getfield 181, 3) := by decide +kernel
theorem d_Md_commit_14 : decode bc_Md_commit 14 = .ok (.iload_n 1, 1) := by decide +kernel
theorem d_Md_commit_15 : decode bc_Md_commit 15 = .ok (.aload_n 0, 1) := by decide +kernel
theorem d_Md_commit_16 : decode bc_Md_commit 16 = .ok (.getfield 178, 3) := by decide +kernel
theorem d_Md_commit_19 : decode bc_Md_commit 19 = .ok (.iload_n 1, 1) := by decide +kernel
theorem d_Md_commit_20 : decode bc_Md_commit 20 = .ok (.iaload, 1) := by decide +kernel
theorem d_Md_commit_21 : decode bc_Md_commit 21 = .ok (.iastore, 1) := by decide +kernel
theorem d_Md_commit_22 : decode bc_Md_commit 22 = .ok (.iinc 1 1, 3) := by decide +kernel
theorem d_Md_commit_25 : decode bc_Md_commit 25 = .ok (.goto (-23), 3) := by decide +kernel
theorem d_Md_commit_28 : decode bc_Md_commit 28 = .ok (.aload_n 0, 1) := by decide +kernel
theorem d_Md_commit_29 : decode bc_Md_commit 29 = .ok (.aload_n 0, 1) := by decide +kernel
theorem d_Md_commit_30 : decode bc_Md_commit 30 = .ok (.getfield 491, 3) := by decide +kernel
theorem d_Md_commit_33 : decode bc_Md_commit 33 = .ok (.putfield 494, 3) := by decide +kernel
theorem d_Md_commit_36 : decode bc_Md_commit 36 = .ok (.aload_n 0, 1) := by decide +kernel
theorem d_Md_commit_37 : decode bc_Md_commit 37 = .ok (.getfield 491, 3) := by decide +kernel
theorem d_Md_commit_40 : decode bc_Md_commit 40 = .ok (.ireturn, 1) := by decide +kernel
abbrev bc_Md_giveLetters : ByteArray := prog_14_method_72_code
abbrev y_Md_giveLetters : MethodName := ⟨"KindRoundsModel", "giveLetters", "(I)V"⟩
theorem d_Md_giveLetters_0 : decode bc_Md_giveLetters 0 = .ok (.iconst 1, 1) := by decide +kernel
theorem d_Md_giveLetters_1 : decode bc_Md_giveLetters 1 = .ok (.istore_n 2, 1) := by decide +kernel
theorem d_Md_giveLetters_2 : decode bc_Md_giveLetters 2 = .ok (.aload_n 0, 1) := by decide +kernel
theorem d_Md_giveLetters_3 : decode bc_Md_giveLetters 3 = .ok (.getfield 172, 3) := by decide +kernel
theorem d_Md_giveLetters_6 : decode bc_Md_giveLetters 6 = .ok (.iconst 0, 1) := by decide +kernel
theorem d_Md_giveLetters_7 : decode bc_Md_giveLetters 7 = .ok (.iload_n 1, 1) := by decide +kernel
theorem d_Md_giveLetters_8 : decode bc_Md_giveLetters 8 = .ok (.iastore, 1) := by decide +kernel
theorem d_Md_giveLetters_9 : decode bc_Md_giveLetters 9 = .ok (.iload_n 2, 1) := by decide +kernel
theorem d_Md_giveLetters_10 : decode bc_Md_giveLetters 10 = .ok (.ifCond .le 130, 3) := by decide +kernel
theorem d_Md_giveLetters_13 : decode bc_Md_giveLetters 13 = .ok (.iinc 2 (-1), 3) := by decide +kernel
theorem d_Md_giveLetters_16 : decode bc_Md_giveLetters 16 = .ok (.aload_n 0, 1) := by decide +kernel
theorem d_Md_giveLetters_17 : decode bc_Md_giveLetters 17 = .ok (.aload_n 0, 1) := by decide +kernel
theorem d_Md_giveLetters_18 : decode bc_Md_giveLetters 18 = .ok (.getfield 172, 3) := by decide +kernel
theorem d_Md_giveLetters_21 : decode bc_Md_giveLetters 21 = .ok (.iload_n 2, 1) := by decide +kernel
theorem d_Md_giveLetters_22 : decode bc_Md_giveLetters 22 = .ok (.iaload, 1) := by decide +kernel
theorem d_Md_giveLetters_23 : decode bc_Md_giveLetters 23 = .ok (.invokevirtual 482, 3) := by decide +kernel
theorem d_Md_giveLetters_26 : decode bc_Md_giveLetters 26 = .ok (.istore_n 3, 1) := by decide +kernel
theorem d_Md_giveLetters_27 : decode bc_Md_giveLetters 27 = .ok (.aload_n 0, 1) := by decide +kernel
theorem d_Md_giveLetters_28 : decode bc_Md_giveLetters 28 = .ok (.getfield 175, 3) := by decide +kernel
theorem d_Md_giveLetters_31 : decode bc_Md_giveLetters 31 = .ok (.iload_n 3, 1) := by decide +kernel
theorem d_Md_giveLetters_32 : decode bc_Md_giveLetters 32 = .ok (.iaload, 1) := by decide +kernel
theorem d_Md_giveLetters_33 : decode bc_Md_giveLetters 33 = .ok (.ifCond .ne 49, 3) := by decide +kernel
theorem d_Md_giveLetters_36 : decode bc_Md_giveLetters 36 = .ok (.aload_n 0, 1) := by decide +kernel
theorem d_Md_giveLetters_37 : decode bc_Md_giveLetters 37 = .ok (.getfield 91, 3) := by decide +kernel
theorem d_Md_giveLetters_40 : decode bc_Md_giveLetters 40 = .ok (.iload_n 3, 1) := by decide +kernel
theorem d_Md_giveLetters_41 : decode bc_Md_giveLetters 41 = .ok (.iaload, 1) := by decide +kernel
theorem d_Md_giveLetters_42 : decode bc_Md_giveLetters 42 = .ok (.ifCond .ne 40, 3) := by decide +kernel
theorem d_Md_giveLetters_45 : decode bc_Md_giveLetters 45 = .ok (.aload_n 0, 1) := by decide +kernel
theorem d_Md_giveLetters_46 : decode bc_Md_giveLetters 46 = .ok (.getfield 184, 3) := by decide +kernel
theorem d_Md_giveLetters_49 : decode bc_Md_giveLetters 49 = .ok (.iload_n 3, 1) := by decide +kernel
theorem d_Md_giveLetters_50 : decode bc_Md_giveLetters 50 = .ok (.aload_n 0, 1) := by decide +kernel
theorem d_Md_giveLetters_51 : decode bc_Md_giveLetters 51 = .ok (.getfield 497, 3) := by decide +kernel
theorem d_Md_giveLetters_54 : decode bc_Md_giveLetters 54 = .ok (.bipush 25, 2) := by decide +kernel
theorem d_Md_giveLetters_56 : decode bc_Md_giveLetters 56 = .ok (.if_icmp .ge 13, 3) := by decide +kernel
theorem d_Md_giveLetters_59 : decode bc_Md_giveLetters 59 = .ok (.bipush 97, 2) := by decide +kernel
theorem d_Md_giveLetters_61 : decode bc_Md_giveLetters 61 = .ok (.aload_n 0, 1) := by decide +kernel
theorem d_Md_giveLetters_62 : decode bc_Md_giveLetters 62 = .ok (.getfield 497, 3) := by decide +kernel
theorem d_Md_giveLetters_65 : decode bc_Md_giveLetters 65 = .ok (.iadd, 1) := by decide +kernel
theorem d_Md_giveLetters_66 : decode bc_Md_giveLetters 66 = .ok (.goto 5, 3) := by decide +kernel
theorem d_Md_giveLetters_69 : decode bc_Md_giveLetters 69 = .ok (.bipush 122, 2) := by decide +kernel
theorem d_Md_giveLetters_71 : decode bc_Md_giveLetters 71 = .ok (.iastore, 1) := by decide +kernel
theorem d_Md_giveLetters_72 : decode bc_Md_giveLetters 72 = .ok (.aload_n 0, 1) := by decide +kernel
theorem d_Md_giveLetters_73 : decode bc_Md_giveLetters 73 = .ok (.dup, 1) := by decide +kernel
theorem d_Md_giveLetters_74 : decode bc_Md_giveLetters 74 = .ok (.getfield 497, 3) := by decide +kernel
theorem d_Md_giveLetters_77 : decode bc_Md_giveLetters 77 = .ok (.iconst 1, 1) := by decide +kernel
theorem d_Md_giveLetters_78 : decode bc_Md_giveLetters 78 = .ok (.iadd, 1) := by decide +kernel
theorem d_Md_giveLetters_79 : decode bc_Md_giveLetters 79 = .ok (.putfield 497, 3) := by decide +kernel
theorem d_Md_giveLetters_82 : decode bc_Md_giveLetters 82 = .ok (.aload_n 0, 1) := by decide +kernel
theorem d_Md_giveLetters_83 : decode bc_Md_giveLetters 83 = .ok (.getfield 175, 3) := by decide +kernel
theorem d_Md_giveLetters_86 : decode bc_Md_giveLetters 86 = .ok (.iload_n 3, 1) := by decide +kernel
theorem d_Md_giveLetters_87 : decode bc_Md_giveLetters 87 = .ok (.iaload, 1) := by decide +kernel
theorem d_Md_giveLetters_88 : decode bc_Md_giveLetters 88 = .ok (.ifCond .ne 42, 3) := by decide +kernel
theorem d_Md_giveLetters_91 : decode bc_Md_giveLetters 91 = .ok (.aload_n 0, 1) := by decide +kernel
theorem d_Md_giveLetters_92 : decode bc_Md_giveLetters 92 = .ok (.getfield 91, 3) := by decide +kernel
theorem d_Md_giveLetters_95 : decode bc_Md_giveLetters 95 = .ok (.iload_n 3, 1) := by decide +kernel
theorem d_Md_giveLetters_96 : decode bc_Md_giveLetters 96 = .ok (.iaload, 1) := by decide +kernel
theorem d_Md_giveLetters_97 : decode bc_Md_giveLetters 97 = .ok (.iconst 2, 1) := by decide +kernel
theorem d_Md_giveLetters_98 : decode bc_Md_giveLetters 98 = .ok (.if_icmp .ne 32, 3) := by decide +kernel
theorem d_Md_giveLetters_101 : decode bc_Md_giveLetters 101 = .ok (.aload_n 0, 1) := by decide +kernel
theorem d_Md_giveLetters_102 : decode bc_Md_giveLetters 102 = .ok (.getfield 172, 3) := by decide +kernel
theorem d_Md_giveLetters_105 : decode bc_Md_giveLetters 105 = .ok (.iload_n 2, 1) := by decide +kernel
theorem d_Md_giveLetters_106 : decode bc_Md_giveLetters 106 = .ok (.aload_n 0, 1) := by decide +kernel
theorem d_Md_giveLetters_107 : decode bc_Md_giveLetters 107 = .ok (.getfield 97, 3) := by decide +kernel
theorem d_Md_giveLetters_110 : decode bc_Md_giveLetters 110 = .ok (.iload_n 3, 1) := by decide +kernel
theorem d_Md_giveLetters_111 : decode bc_Md_giveLetters 111 = .ok (.iaload, 1) := by decide +kernel
theorem d_Md_giveLetters_112 : decode bc_Md_giveLetters 112 = .ok (.iastore, 1) := by decide +kernel
theorem d_Md_giveLetters_113 : decode bc_Md_giveLetters 113 = .ok (.aload_n 0, 1) := by decide +kernel
theorem d_Md_giveLetters_114 : decode bc_Md_giveLetters 114 = .ok (.getfield 172, 3) := by decide +kernel
theorem d_Md_giveLetters_117 : decode bc_Md_giveLetters 117 = .ok (.iload_n 2, 1) := by decide +kernel
theorem d_Md_giveLetters_118 : decode bc_Md_giveLetters 118 = .ok (.iconst 1, 1) := by decide +kernel
theorem d_Md_giveLetters_119 : decode bc_Md_giveLetters 119 = .ok (.iadd, 1) := by decide +kernel
theorem d_Md_giveLetters_120 : decode bc_Md_giveLetters 120 = .ok (.aload_n 0, 1) := by decide +kernel
theorem d_Md_giveLetters_121 : decode bc_Md_giveLetters 121 = .ok (.getfield 94, 3) := by decide +kernel
theorem d_Md_giveLetters_124 : decode bc_Md_giveLetters 124 = .ok (.iload_n 3, 1) := by decide +kernel
theorem d_Md_giveLetters_125 : decode bc_Md_giveLetters 125 = .ok (.iaload, 1) := by decide +kernel
theorem d_Md_giveLetters_126 : decode bc_Md_giveLetters 126 = .ok (.iastore, 1) := by decide +kernel
theorem d_Md_giveLetters_127 : decode bc_Md_giveLetters 127 = .ok (.iinc 2 2, 3) := by decide +kernel
theorem d_Md_giveLetters_130 : decode bc_Md_giveLetters 130 = .ok (.aload_n 0, 1) := by decide +kernel
theorem d_Md_giveLetters_131 : decode bc_Md_giveLetters 131 = .ok (.getfield 175, 3) := by decide +kernel
theorem d_Md_giveLetters_134 : decode bc_Md_giveLetters 134 = .ok (.iload_n 3, 1) := by decide +kernel
theorem d_Md_giveLetters_135 : decode bc_Md_giveLetters 135 = .ok (.iconst 1, 1) := by decide +kernel
theorem d_Md_giveLetters_136 : decode bc_Md_giveLetters 136 = .ok (.iastore, 1) := by decide +kernel
theorem d_Md_giveLetters_137 : decode bc_Md_giveLetters 137 = .ok (.goto (-128), 3) := by decide +kernel
theorem d_Md_giveLetters_140 : decode bc_Md_giveLetters 140 = .ok (.return_, 1) := by decide +kernel
abbrev bc_Md_layKindOut : ByteArray := prog_14_method_73_code
abbrev y_Md_layKindOut : MethodName := ⟨"KindRoundsModel", "layKindOut", "(I)V"⟩
theorem d_Md_layKindOut_0 : decode bc_Md_layKindOut 0 = .ok (.aload_n 0, 1) := by decide +kernel
theorem d_Md_layKindOut_1 : decode bc_Md_layKindOut 1 = .ok (.iconst 0, 1) := by decide +kernel
theorem d_Md_layKindOut_2 : decode bc_Md_layKindOut 2 = .ok (.putfield 491, 3) := by decide +kernel
theorem d_Md_layKindOut_5 : decode bc_Md_layKindOut 5 = .ok (.iconst 1, 1) := by decide +kernel
theorem d_Md_layKindOut_6 : decode bc_Md_layKindOut 6 = .ok (.istore_n 2, 1) := by decide +kernel
theorem d_Md_layKindOut_7 : decode bc_Md_layKindOut 7 = .ok (.aload_n 0, 1) := by decide +kernel
theorem d_Md_layKindOut_8 : decode bc_Md_layKindOut 8 = .ok (.getfield 172, 3) := by decide +kernel
theorem d_Md_layKindOut_11 : decode bc_Md_layKindOut 11 = .ok (.iconst 0, 1) := by decide +kernel
theorem d_Md_layKindOut_12 : decode bc_Md_layKindOut 12 = .ok (.iload_n 1, 1) := by decide +kernel
theorem d_Md_layKindOut_13 : decode bc_Md_layKindOut 13 = .ok (.iastore, 1) := by decide +kernel
theorem d_Md_layKindOut_14 : decode bc_Md_layKindOut 14 = .ok (.iload_n 2, 1) := by decide +kernel
theorem d_Md_layKindOut_15 : decode bc_Md_layKindOut 15 = .ok (.ifCond .le 72, 3) := by decide +kernel
theorem d_Md_layKindOut_18 : decode bc_Md_layKindOut 18 = .ok (.aload_n 0, 1) := by decide +kernel
theorem d_Md_layKindOut_19 : decode bc_Md_layKindOut 19 = .ok (.getfield 491, 3) := by decide +kernel
theorem d_Md_layKindOut_22 : decode bc_Md_layKindOut 22 = .ok (.sipush 2000, 3) := by decide +kernel
theorem d_Md_layKindOut_25 : decode bc_Md_layKindOut 25 = .ok (.if_icmp .gt 62, 3) := by decide +kernel
theorem d_Md_layKindOut_28 : decode bc_Md_layKindOut 28 = .ok (.iinc 2 (-1), 3) := by decide +kernel
theorem d_Md_layKindOut_31 : decode bc_Md_layKindOut 31 = .ok (.aload_n 0, 1) := by decide +kernel
theorem d_Md_layKindOut_32 : decode bc_Md_layKindOut 32 = .ok (.getfield 172, 3) := by decide +kernel
theorem d_Md_layKindOut_35 : decode bc_Md_layKindOut 35 = .ok (.iload_n 2, 1) := by decide +kernel
theorem d_Md_layKindOut_36 : decode bc_Md_layKindOut 36 = .ok (.iaload, 1) := by decide +kernel
theorem d_Md_layKindOut_37 : decode bc_Md_layKindOut 37 = .ok (.istore_n 3, 1) := by decide +kernel
theorem d_Md_layKindOut_38 : decode bc_Md_layKindOut 38 = .ok (.iload_n 3, 1) := by decide +kernel
theorem d_Md_layKindOut_39 : decode bc_Md_layKindOut 39 = .ok (.iconst (-1), 1) := by decide +kernel
theorem d_Md_layKindOut_40 : decode bc_Md_layKindOut 40 = .ok (.if_icmp .ne 12, 3) := by decide +kernel
theorem d_Md_layKindOut_43 : decode bc_Md_layKindOut 43 = .ok (.aload_n 0, 1) := by decide +kernel
theorem d_Md_layKindOut_44 : decode bc_Md_layKindOut 44 = .ok (.bipush 41, 2) := by decide +kernel
theorem d_Md_layKindOut_46 : decode bc_Md_layKindOut 46 = .ok (.invokevirtual 500, 3) := by decide +kernel
theorem d_Md_layKindOut_49 : decode bc_Md_layKindOut 49 = .ok (.goto 35, 3) := by decide +kernel
theorem d_Md_layKindOut_52 : decode bc_Md_layKindOut 52 = .ok (.iload_n 3, 1) := by decide +kernel
theorem d_Md_layKindOut_53 : decode bc_Md_layKindOut 53 = .ok (.bipush (-2), 2) := by decide +kernel
theorem d_Md_layKindOut_55 : decode bc_Md_layKindOut 55 = .ok (.if_icmp .ne 18, 3) := by decide +kernel
theorem d_Md_layKindOut_58 : decode bc_Md_layKindOut 58 = .ok (.aload_n 0, 1) := by decide +kernel
theorem d_Md_layKindOut_59 : decode bc_Md_layKindOut 59 = .ok (.bipush 45, 2) := by decide +kernel
theorem d_Md_layKindOut_61 : decode bc_Md_layKindOut 61 = .ok (.invokevirtual 500, 3) := by decide +kernel
theorem d_Md_layKindOut_64 : decode bc_Md_layKindOut 64 = .ok (.aload_n 0, 1) := by decide +kernel
theorem d_Md_layKindOut_65 : decode bc_Md_layKindOut 65 = .ok (.bipush 62, 2) := by decide +kernel
theorem d_Md_layKindOut_67 : decode bc_Md_layKindOut 67 = .ok (.invokevirtual 500, 3) := by decide +kernel
theorem d_Md_layKindOut_70 : decode bc_Md_layKindOut 70 = .ok (.goto 14, 3) := by decide +kernel
theorem d_Md_layKindOut_73 : decode bc_Md_layKindOut 73 = .ok (.aload_n 0, 1) := by decide +kernel
theorem d_Md_layKindOut_74 : decode bc_Md_layKindOut 74 = .ok (.aload_n 0, 1) := by decide +kernel
theorem d_Md_layKindOut_75 : decode bc_Md_layKindOut 75 = .ok (.iload_n 3, 1) := by decide +kernel
theorem d_Md_layKindOut_76 : decode bc_Md_layKindOut 76 = .ok (.invokevirtual 482, 3) := by decide +kernel
theorem d_Md_layKindOut_79 : decode bc_Md_layKindOut 79 = .ok (.iload_n 2, 1) := by decide +kernel
theorem d_Md_layKindOut_80 : decode bc_Md_layKindOut 80 = .ok (.invokevirtual 503, 3) := by decide +kernel
theorem d_Md_layKindOut_83 : decode bc_Md_layKindOut 83 = .ok (.istore_n 2, 1) := by decide +kernel
theorem d_Md_layKindOut_84 : decode bc_Md_layKindOut 84 = .ok (.goto (-70), 3) := by decide +kernel
theorem d_Md_layKindOut_87 : decode bc_Md_layKindOut 87 = .ok (.return_, 1) := by decide +kernel
abbrev bc_Md_layKindOf : ByteArray := prog_14_method_74_code
abbrev y_Md_layKindOf : MethodName := ⟨"KindRoundsModel", "layKindOf", "(II)I"⟩
theorem d_Md_layKindOf_0 : decode bc_Md_layKindOf 0 = .ok (.aload_n 0, 1) := by decide +kernel
theorem d_Md_layKindOf_1 : decode bc_Md_layKindOf 1 = .ok (.getfield 91, 3) := by decide +kernel
theorem d_Md_layKindOf_4 : decode bc_Md_layKindOf 4 = .ok (.iload_n 1, 1) := by decide +kernel
theorem d_Md_layKindOf_5 : decode bc_Md_layKindOf 5 = .ok (.iaload, 1) := by decide +kernel
theorem d_Md_layKindOf_6 : decode bc_Md_layKindOf 6 = .ok (.iconst 2, 1) := by decide +kernel
theorem d_Md_layKindOf_7 : decode bc_Md_layKindOf 7 = .ok (.if_icmp .eq 36, 3) := by decide +kernel
theorem d_Md_layKindOf_10 : decode bc_Md_layKindOf 10 = .ok (.aload_n 0, 1) := by decide +kernel
theorem d_Md_layKindOf_11 : decode bc_Md_layKindOf 11 = .ok (.aload_n 0, 1) := by decide +kernel
theorem d_Md_layKindOf_12 : decode bc_Md_layKindOf 12 = .ok (.getfield 91, 3) := by decide +kernel
theorem d_Md_layKindOf_15 : decode bc_Md_layKindOf 15 = .ok (.iload_n 1, 1) := by decide +kernel
theorem d_Md_layKindOf_16 : decode bc_Md_layKindOf 16 = .ok (.iaload, 1) := by decide +kernel
theorem d_Md_layKindOf_17 : decode bc_Md_layKindOf 17 = .ok (.ifCond .ne 19, 3) := by decide +kernel
theorem d_Md_layKindOf_20 : decode bc_Md_layKindOf 20 = .ok (.aload_n 0, 1) := by decide +kernel
theorem d_Md_layKindOf_21 : decode bc_Md_layKindOf 21 = .ok (.getfield 506, 3) := by decide +kernel
theorem d_Md_layKindOf_24 : decode bc_Md_layKindOf 24 = .ok (.ifCond .eq 12, 3) := by decide +kernel
theorem d_Md_layKindOf_27 : decode bc_Md_layKindOf 27 = .ok (.aload_n 0, 1) := by decide +kernel
theorem d_Md_layKindOf_28 : decode bc_Md_layKindOf 28 = .ok (.getfield 184, 3) := by decide +kernel
theorem d_Md_layKindOf_31 : decode bc_Md_layKindOf 31 = .ok (.iload_n 1, 1) := by decide +kernel
theorem d_Md_layKindOf_32 : decode bc_Md_layKindOf 32 = .ok (.iaload, 1) := by decide +kernel
theorem d_Md_layKindOf_33 : decode bc_Md_layKindOf 33 = .ok (.goto 5, 3) := by decide +kernel
theorem d_Md_layKindOf_36 : decode bc_Md_layKindOf 36 = .ok (.bipush 42, 2) := by decide +kernel
theorem d_Md_layKindOf_38 : decode bc_Md_layKindOf 38 = .ok (.invokevirtual 500, 3) := by decide +kernel
theorem d_Md_layKindOf_41 : decode bc_Md_layKindOf 41 = .ok (.iload_n 2, 1) := by decide +kernel
theorem d_Md_layKindOf_42 : decode bc_Md_layKindOf 42 = .ok (.ireturn, 1) := by decide +kernel
theorem d_Md_layKindOf_43 : decode bc_Md_layKindOf 43 = .ok (.aload_n 0, 1) := by decide +kernel
theorem d_Md_layKindOf_44 : decode bc_Md_layKindOf 44 = .ok (.getfield 91, 3) := by decide +kernel
theorem d_Md_layKindOf_47 : decode bc_Md_layKindOf 47 = .ok (.aload_n 0, 1) := by decide +kernel
theorem d_Md_layKindOf_48 : decode bc_Md_layKindOf 48 = .ok (.aload_n 0, 1) := by decide +kernel
theorem d_Md_layKindOf_49 : decode bc_Md_layKindOf 49 = .ok (.getfield 94, 3) := by decide +kernel
theorem d_Md_layKindOf_52 : decode bc_Md_layKindOf 52 = .ok (.iload_n 1, 1) := by decide +kernel
theorem d_Md_layKindOf_53 : decode bc_Md_layKindOf 53 = .ok (.iaload, 1) := by decide +kernel
theorem d_Md_layKindOf_54 : decode bc_Md_layKindOf 54 = .ok (.invokevirtual 482, 3) := by decide +kernel
theorem d_Md_layKindOf_57 : decode bc_Md_layKindOf 57 = .ok (.iaload, 1) := by decide +kernel
theorem d_Md_layKindOf_58 : decode bc_Md_layKindOf 58 = .ok (.iconst 2, 1) := by decide +kernel
theorem d_Md_layKindOf_59 : decode bc_Md_layKindOf 59 = .ok (.if_icmp .ne 7, 3) := by decide +kernel
theorem d_Md_layKindOf_62 : decode bc_Md_layKindOf 62 = .ok (.iconst 1, 1) := by decide +kernel
theorem d_Md_layKindOf_63 : decode bc_Md_layKindOf 63 = .ok (.goto 4, 3) := by decide +kernel
theorem d_Md_layKindOf_66 : decode bc_Md_layKindOf 66 = .ok (.iconst 0, 1) := by decide +kernel
theorem d_Md_layKindOf_67 : decode bc_Md_layKindOf 67 = .ok (.istore_n 3, 1) := by decide +kernel
theorem d_Md_layKindOf_68 : decode bc_Md_layKindOf 68 = .ok (.iload_n 2, 1) := by decide +kernel
theorem d_Md_layKindOf_69 : decode bc_Md_layKindOf 69 = .ok (.istore 4, 2) := by decide +kernel
theorem d_Md_layKindOf_71 : decode bc_Md_layKindOf 71 = .ok (.aload_n 0, 1) := by decide +kernel
theorem d_Md_layKindOf_72 : decode bc_Md_layKindOf 72 = .ok (.getfield 172, 3) := by decide +kernel
theorem d_Md_layKindOf_75 : decode bc_Md_layKindOf 75 = .ok (.iload 4, 2) := by decide +kernel
theorem d_Md_layKindOf_77 : decode bc_Md_layKindOf 77 = .ok (.aload_n 0, 1) := by decide +kernel
theorem d_Md_layKindOf_78 : decode bc_Md_layKindOf 78 = .ok (.getfield 97, 3) := by decide +kernel
theorem d_Md_layKindOf_81 : decode bc_Md_layKindOf 81 = .ok (.iload_n 1, 1) := by decide +kernel
theorem d_Md_layKindOf_82 : decode bc_Md_layKindOf 82 = .ok (.iaload, 1) := by decide +kernel
theorem d_Md_layKindOf_83 : decode bc_Md_layKindOf 83 = .ok (.iastore, 1) := by decide +kernel
theorem d_Md_layKindOf_84 : decode bc_Md_layKindOf 84 = .ok (.aload_n 0, 1) := by decide +kernel
theorem d_Md_layKindOf_85 : decode bc_Md_layKindOf 85 = .ok (.getfield 172, 3) := by decide +kernel
theorem d_Md_layKindOf_88 : decode bc_Md_layKindOf 88 = .ok (.iload 4, 2) := by decide +kernel
theorem d_Md_layKindOf_90 : decode bc_Md_layKindOf 90 = .ok (.iconst 1, 1) := by decide +kernel
theorem d_Md_layKindOf_91 : decode bc_Md_layKindOf 91 = .ok (.iadd, 1) := by decide +kernel
theorem d_Md_layKindOf_92 : decode bc_Md_layKindOf 92 = .ok (.bipush (-2), 2) := by decide +kernel
theorem d_Md_layKindOf_94 : decode bc_Md_layKindOf 94 = .ok (.iastore, 1) := by decide +kernel
theorem d_Md_layKindOf_95 : decode bc_Md_layKindOf 95 = .ok (.iinc 4 2, 3) := by decide +kernel
theorem d_Md_layKindOf_98 : decode bc_Md_layKindOf 98 = .ok (.iload_n 3, 1) := by decide +kernel
theorem d_Md_layKindOf_99 : decode bc_Md_layKindOf 99 = .ok (.ifCond .eq 20, 3) := by decide +kernel
theorem d_Md_layKindOf_102 : decode bc_Md_layKindOf 102 = .ok (.aload_n 0, 1) := by decide +kernel
theorem d_Md_layKindOf_103 : decode bc_Md_layKindOf 103 = .ok (.bipush 40, 2) := by decide +kernel
theorem d_Md_layKindOf_105 : decode bc_Md_layKindOf 105 = .ok (.invokevirtual 500, 3) := by decide +kernel
theorem d_Md_layKindOf_108 : decode bc_Md_layKindOf 108 = .ok (.aload_n 0, 1) := by decide +kernel
theorem d_Md_layKindOf_109 : decode bc_Md_layKindOf 109 = .ok (.getfield 172, 3) := by decide +kernel
theorem d_Md_layKindOf_112 : decode bc_Md_layKindOf 112 = .ok (.iload 4, 2) := by decide +kernel
theorem d_Md_layKindOf_114 : decode bc_Md_layKindOf 114 = .ok (.iconst (-1), 1) := by decide +kernel
theorem d_Md_layKindOf_115 : decode bc_Md_layKindOf 115 = .ok (.iastore, 1) := by decide +kernel
theorem d_Md_layKindOf_116 : decode bc_Md_layKindOf 116 = .ok (.iinc 4 1, 3) := by decide +kernel
theorem d_Md_layKindOf_119 : decode bc_Md_layKindOf 119 = .ok (.aload_n 0, 1) := by decide +kernel
theorem d_Md_layKindOf_120 : decode bc_Md_layKindOf 120 = .ok (.getfield 172, 3) := by decide +kernel
theorem d_Md_layKindOf_123 : decode bc_Md_layKindOf 123 = .ok (.iload 4, 2) := by decide +kernel
theorem d_Md_layKindOf_125 : decode bc_Md_layKindOf 125 = .ok (.aload_n 0, 1) := by decide +kernel
theorem d_Md_layKindOf_126 : decode bc_Md_layKindOf 126 = .ok (.getfield 94, 3) := by decide +kernel
theorem d_Md_layKindOf_129 : decode bc_Md_layKindOf 129 = .ok (.iload_n 1, 1) := by decide +kernel
theorem d_Md_layKindOf_130 : decode bc_Md_layKindOf 130 = .ok (.iaload, 1) := by decide +kernel
theorem d_Md_layKindOf_131 : decode bc_Md_layKindOf 131 = .ok (.iastore, 1) := by decide +kernel
theorem d_Md_layKindOf_132 : decode bc_Md_layKindOf 132 = .ok (.iload 4, 2) := by decide +kernel
theorem d_Md_layKindOf_134 : decode bc_Md_layKindOf 134 = .ok (.iconst 1, 1) := by decide +kernel
theorem d_Md_layKindOf_135 : decode bc_Md_layKindOf 135 = .ok (.iadd, 1) := by decide +kernel
theorem d_Md_layKindOf_136 : decode bc_Md_layKindOf 136 = .ok (.ireturn, 1) := by decide +kernel
abbrev bc_Md_showKind : ByteArray := prog_14_method_75_code
abbrev y_Md_showKind : MethodName := ⟨"KindRoundsModel", "showKind", "(I)I"⟩
theorem d_Md_showKind_0 : decode bc_Md_showKind 0 = .ok (.aload_n 0, 1) := by decide +kernel
theorem d_Md_showKind_1 : decode bc_Md_showKind 1 = .ok (.iload_n 1, 1) := by decide +kernel
theorem d_Md_showKind_2 : decode bc_Md_showKind 2 = .ok (.invokevirtual 509, 3) := by decide +kernel
theorem d_Md_showKind_5 : decode bc_Md_showKind 5 = .ok (.aload_n 0, 1) := by decide +kernel
theorem d_Md_showKind_6 : decode bc_Md_showKind 6 = .ok (.getfield 491, 3) := by decide +kernel
theorem d_Md_showKind_9 : decode bc_Md_showKind 9 = .ok (.sipush 2000, 3) := by decide +kernel
theorem d_Md_showKind_12 : decode bc_Md_showKind 12 = .ok (.if_icmp .le 8, 3) := by decide +kernel
theorem d_Md_showKind_15 : decode bc_Md_showKind 15 = .ok (.bipush (-4), 2) := by decide +kernel
theorem d_Md_showKind_17 : decode bc_Md_showKind 17 = .ok (.goto 7, 3) := by decide +kernel
theorem d_Md_showKind_20 : decode bc_Md_showKind 20 = .ok (.aload_n 0, 1) := by decide +kernel
theorem d_Md_showKind_21 : decode bc_Md_showKind 21 = .ok (.invokevirtual 512, 3) := by decide +kernel
theorem d_Md_showKind_24 : decode bc_Md_showKind 24 = .ok (.ireturn, 1) := by decide +kernel
abbrev bc_Md_read : ByteArray := prog_14_method_76_code
abbrev y_Md_read : MethodName := ⟨"KindRoundsModel", "read", "()I"⟩
theorem d_Md_read_0 : decode bc_Md_read 0 = .ok (.aload_n 0, 1) := by decide +kernel
theorem d_Md_read_1 : decode bc_Md_read 1 = .ok (.iconst 0, 1) := by decide +kernel
theorem d_Md_read_2 : decode bc_Md_read 2 = .ok (.putfield 215, 3) := by decide +kernel
theorem d_Md_read_5 : decode bc_Md_read 5 = .ok (.aload_n 0, 1) := by decide +kernel
theorem d_Md_read_6 : decode bc_Md_read 6 = .ok (.invokevirtual 515, 3) := by decide +kernel
theorem d_Md_read_9 : decode bc_Md_read 9 = .ok (.aload_n 0, 1) := by decide +kernel
theorem d_Md_read_10 : decode bc_Md_read 10 = .ok (.getfield 221, 3) := by decide +kernel
theorem d_Md_read_13 : decode bc_Md_read 13 = .ok (.ifCond .ne 8, 3) := by decide +kernel
theorem d_Md_read_16 : decode bc_Md_read 16 = .ok (.aload_n 0, 1) := by decide +kernel
theorem d_Md_read_17 : decode bc_Md_read 17 = .ok (.iconst 1, 1) := by decide +kernel
theorem d_Md_read_18 : decode bc_Md_read 18 = .ok (.invokevirtual 518, 3) := by decide +kernel
theorem d_Md_read_21 : decode bc_Md_read 21 = .ok (.aload_n 0, 1) := by decide +kernel
theorem d_Md_read_22 : decode bc_Md_read 22 = .ok (.getfield 221, 3) := by decide +kernel
theorem d_Md_read_25 : decode bc_Md_read 25 = .ok (.ifCond .ne 7, 3) := by decide +kernel
theorem d_Md_read_28 : decode bc_Md_read 28 = .ok (.aload_n 0, 1) := by decide +kernel
theorem d_Md_read_29 : decode bc_Md_read 29 = .ok (.invokevirtual 521, 3) := by decide +kernel
theorem d_Md_read_32 : decode bc_Md_read 32 = .ok (.aload_n 0, 1) := by decide +kernel
theorem d_Md_read_33 : decode bc_Md_read 33 = .ok (.getfield 221, 3) := by decide +kernel
theorem d_Md_read_36 : decode bc_Md_read 36 = .ok (.ifCond .ne 7, 3) := by decide +kernel
theorem d_Md_read_39 : decode bc_Md_read 39 = .ok (.aload_n 0, 1) := by decide +kernel
theorem d_Md_read_40 : decode bc_Md_read 40 = .ok (.invokevirtual 524, 3) := by decide +kernel
theorem d_Md_read_43 : decode bc_Md_read 43 = .ok (.aload_n 0, 1) := by decide +kernel
theorem d_Md_read_44 : decode bc_Md_read 44 = .ok (.getfield 221, 3) := by decide +kernel
theorem d_Md_read_47 : decode bc_Md_read 47 = .ok (.ifCond .ne 7, 3) := by decide +kernel
theorem d_Md_read_50 : decode bc_Md_read 50 = .ok (.aload_n 0, 1) := by decide +kernel
theorem d_Md_read_51 : decode bc_Md_read 51 = .ok (.invokevirtual 527, 3) := by decide +kernel
theorem d_Md_read_54 : decode bc_Md_read 54 = .ok (.aload_n 0, 1) := by decide +kernel
theorem d_Md_read_55 : decode bc_Md_read 55 = .ok (.iconst 0, 1) := by decide +kernel
theorem d_Md_read_56 : decode bc_Md_read 56 = .ok (.putfield 218, 3) := by decide +kernel
theorem d_Md_read_59 : decode bc_Md_read 59 = .ok (.aload_n 0, 1) := by decide +kernel
theorem d_Md_read_60 : decode bc_Md_read 60 = .ok (.getfield 221, 3) := by decide +kernel
theorem d_Md_read_63 : decode bc_Md_read 63 = .ok (.ifCond .le 13, 3) := by decide +kernel
theorem d_Md_read_66 : decode bc_Md_read 66 = .ok (.aload_n 0, 1) := by decide +kernel
theorem d_Md_read_67 : decode bc_Md_read 67 = .ok (.iconst 0, 1) := by decide +kernel
theorem d_Md_read_68 : decode bc_Md_read 68 = .ok (.putfield 364, 3) := by decide +kernel
theorem d_Md_read_71 : decode bc_Md_read 71 = .ok (.aload_n 0, 1) := by decide +kernel
theorem d_Md_read_72 : decode bc_Md_read 72 = .ok (.iconst 0, 1) := by decide +kernel
theorem d_Md_read_73 : decode bc_Md_read 73 = .ok (.putfield 432, 3) := by decide +kernel
theorem d_Md_read_76 : decode bc_Md_read 76 = .ok (.aload_n 0, 1) := by decide +kernel
theorem d_Md_read_77 : decode bc_Md_read 77 = .ok (.aload_n 0, 1) := by decide +kernel
theorem d_Md_read_78 : decode bc_Md_read 78 = .ok (.getfield 209, 3) := by decide +kernel
theorem d_Md_read_81 : decode bc_Md_read 81 = .ok (.putfield 212, 3) := by decide +kernel
theorem d_Md_read_84 : decode bc_Md_read 84 = .ok (.aload_n 0, 1) := by decide +kernel
theorem d_Md_read_85 : decode bc_Md_read 85 = .ok (.aload_n 0, 1) := by decide +kernel
theorem d_Md_read_86 : decode bc_Md_read 86 = .ok (.getfield 288, 3) := by decide +kernel
theorem d_Md_read_89 : decode bc_Md_read 89 = .ok (.putfield 530, 3) := by decide +kernel
theorem d_Md_read_92 : decode bc_Md_read 92 = .ok (.aload_n 0, 1) := by decide +kernel
theorem d_Md_read_93 : decode bc_Md_read 93 = .ok (.getfield 100, 3) := by decide +kernel
theorem d_Md_read_96 : decode bc_Md_read 96 = .ok (.aload_n 0, 1) := by decide +kernel
theorem d_Md_read_97 : decode bc_Md_read 97 = .ok (.getfield 187, 3) := by decide +kernel
theorem d_Md_read_100 : decode bc_Md_read 100 = .ok (.aload_n 0, 1) := by decide +kernel
theorem d_Md_read_101 : decode bc_Md_read 101 = .ok (.getfield 209, 3) := by decide +kernel
theorem d_Md_read_104 : decode bc_Md_read 104 = .ok (.invokestatic 466, 3) := by decide +kernel
theorem d_Md_read_107 : decode bc_Md_read 107 = .ok (.aload_n 0, 1) := by decide +kernel
theorem d_Md_read_108 : decode bc_Md_read 108 = .ok (.getfield 221, 3) := by decide +kernel
theorem d_Md_read_111 : decode bc_Md_read 111 = .ok (.ifCond .le 13, 3) := by decide +kernel
theorem d_Md_read_114 : decode bc_Md_read 114 = .ok (.bipush (-10), 2) := by decide +kernel
theorem d_Md_read_116 : decode bc_Md_read 116 = .ok (.aload_n 0, 1) := by decide +kernel
theorem d_Md_read_117 : decode bc_Md_read 117 = .ok (.getfield 221, 3) := by decide +kernel
theorem d_Md_read_120 : decode bc_Md_read 120 = .ok (.isub, 1) := by decide +kernel
theorem d_Md_read_121 : decode bc_Md_read 121 = .ok (.goto 7, 3) := by decide +kernel
theorem d_Md_read_124 : decode bc_Md_read 124 = .ok (.aload_n 0, 1) := by decide +kernel
theorem d_Md_read_125 : decode bc_Md_read 125 = .ok (.getfield 364, 3) := by decide +kernel
theorem d_Md_read_128 : decode bc_Md_read 128 = .ok (.ireturn, 1) := by decide +kernel
abbrev bc_Md_place : ByteArray := prog_14_method_77_code
abbrev y_Md_place : MethodName := ⟨"KindRoundsModel", "place", "()I"⟩
theorem d_Md_place_0 : decode bc_Md_place 0 = .ok (.aload_n 0, 1) := by decide +kernel
theorem d_Md_place_1 : decode bc_Md_place 1 = .ok (.iconst 0, 1) := by decide +kernel
theorem d_Md_place_2 : decode bc_Md_place 2 = .ok (.putfield 215, 3) := by decide +kernel
theorem d_Md_place_5 : decode bc_Md_place 5 = .ok (.aload_n 0, 1) := by decide +kernel
theorem d_Md_place_6 : decode bc_Md_place 6 = .ok (.getfield 13, 3) := by decide +kernel
theorem d_Md_place_9 : decode bc_Md_place 9 = .ok (.ireturn, 1) := by decide +kernel
abbrev bc_Md_side : ByteArray := prog_14_method_78_code
abbrev y_Md_side : MethodName := ⟨"KindRoundsModel", "side", "(I)I"⟩
theorem d_Md_side_0 : decode bc_Md_side 0 = .ok (.aload_n 0, 1) := by decide +kernel
theorem d_Md_side_1 : decode bc_Md_side 1 = .ok (.iconst 0, 1) := by decide +kernel
theorem d_Md_side_2 : decode bc_Md_side 2 = .ok (.putfield 215, 3) := by decide +kernel
theorem d_Md_side_5 : decode bc_Md_side 5 = .ok (.iload_n 1, 1) := by decide +kernel
theorem d_Md_side_6 : decode bc_Md_side 6 = .ok (.ifCond .eq 11, 3) := by decide +kernel
theorem d_Md_side_9 : decode bc_Md_side 9 = .ok (.iload_n 1, 1) := by decide +kernel
theorem d_Md_side_10 : decode bc_Md_side 10 = .ok (.iconst 1, 1) := by decide +kernel
theorem d_Md_side_11 : decode bc_Md_side 11 = .ok (.if_icmp .eq 6, 3) := by decide +kernel
theorem d_Md_side_14 : decode bc_Md_side 14 = .ok (.bipush (-2), 2) := by decide +kernel
theorem d_Md_side_16 : decode bc_Md_side 16 = .ok (.ireturn, 1) := by decide +kernel
theorem d_Md_side_17 : decode bc_Md_side 17 = .ok (.aload_n 0, 1) := by decide +kernel
theorem d_Md_side_18 : decode bc_Md_side 18 = .ok (.getfield 354, 3) := by decide +kernel
theorem d_Md_side_21 : decode bc_Md_side 21 = .ok (.ifCond .ne 6, 3) := by decide +kernel
theorem d_Md_side_24 : decode bc_Md_side 24 = .ok (.bipush (-3), 2) := by decide +kernel
theorem d_Md_side_26 : decode bc_Md_side 26 = .ok (.ireturn, 1) := by decide +kernel
theorem d_Md_side_27 : decode bc_Md_side 27 = .ok (.aload_n 0, 1) := by decide +kernel
theorem d_Md_side_28 : decode bc_Md_side 28 = .ok (.invokevirtual 485, 3) := by decide +kernel
theorem d_Md_side_31 : decode bc_Md_side 31 = .ok (.aload_n 0, 1) := by decide +kernel
theorem d_Md_side_32 : decode bc_Md_side 32 = .ok (.iconst 0, 1) := by decide +kernel
theorem d_Md_side_33 : decode bc_Md_side 33 = .ok (.putfield 497, 3) := by decide +kernel
theorem d_Md_side_36 : decode bc_Md_side 36 = .ok (.aload_n 0, 1) := by decide +kernel
theorem d_Md_side_37 : decode bc_Md_side 37 = .ok (.aload_n 0, 1) := by decide +kernel
theorem d_Md_side_38 : decode bc_Md_side 38 = .ok (.getfield 476, 3) := by decide +kernel
theorem d_Md_side_41 : decode bc_Md_side 41 = .ok (.invokevirtual 533, 3) := by decide +kernel
theorem d_Md_side_44 : decode bc_Md_side 44 = .ok (.aload_n 0, 1) := by decide +kernel
theorem d_Md_side_45 : decode bc_Md_side 45 = .ok (.aload_n 0, 1) := by decide +kernel
theorem d_Md_side_46 : decode bc_Md_side 46 = .ok (.getfield 479, 3) := by decide +kernel
theorem d_Md_side_49 : decode bc_Md_side 49 = .ok (.invokevirtual 533, 3) := by decide +kernel
theorem d_Md_side_52 : decode bc_Md_side 52 = .ok (.aload_n 0, 1) := by decide +kernel
theorem d_Md_side_53 : decode bc_Md_side 53 = .ok (.iconst 1, 1) := by decide +kernel
theorem d_Md_side_54 : decode bc_Md_side 54 = .ok (.putfield 506, 3) := by decide +kernel
theorem d_Md_side_57 : decode bc_Md_side 57 = .ok (.aload_n 0, 1) := by decide +kernel
theorem d_Md_side_58 : decode bc_Md_side 58 = .ok (.iload_n 1, 1) := by decide +kernel
theorem d_Md_side_59 : decode bc_Md_side 59 = .ok (.ifCond .ne 10, 3) := by decide +kernel
theorem d_Md_side_62 : decode bc_Md_side 62 = .ok (.aload_n 0, 1) := by decide +kernel
theorem d_Md_side_63 : decode bc_Md_side 63 = .ok (.getfield 476, 3) := by decide +kernel
theorem d_Md_side_66 : decode bc_Md_side 66 = .ok (.goto 7, 3) := by decide +kernel
theorem d_Md_side_69 : decode bc_Md_side 69 = .ok (.aload_n 0, 1) := by decide +kernel
theorem d_Md_side_70 : decode bc_Md_side 70 = .ok (.getfield 479, 3) := by decide +kernel
theorem d_Md_side_73 : decode bc_Md_side 73 = .ok (.invokevirtual 536, 3) := by decide +kernel
theorem d_Md_side_76 : decode bc_Md_side 76 = .ok (.istore_n 2, 1) := by decide +kernel
theorem d_Md_side_77 : decode bc_Md_side 77 = .ok (.aload_n 0, 1) := by decide +kernel
theorem d_Md_side_78 : decode bc_Md_side 78 = .ok (.iconst 0, 1) := by decide +kernel
theorem d_Md_side_79 : decode bc_Md_side 79 = .ok (.putfield 506, 3) := by decide +kernel
theorem d_Md_side_82 : decode bc_Md_side 82 = .ok (.iload_n 2, 1) := by decide +kernel
theorem d_Md_side_83 : decode bc_Md_side 83 = .ok (.ireturn, 1) := by decide +kernel
abbrev bc_Md_out : ByteArray := prog_14_method_79_code
abbrev y_Md_out : MethodName := ⟨"KindRoundsModel", "out", "(I)I"⟩
theorem d_Md_out_0 : decode bc_Md_out 0 = .ok (.aload_n 0, 1) := by decide +kernel
theorem d_Md_out_1 : decode bc_Md_out 1 = .ok (.iconst 0, 1) := by decide +kernel
theorem d_Md_out_2 : decode bc_Md_out 2 = .ok (.putfield 215, 3) := by decide +kernel
theorem d_Md_out_5 : decode bc_Md_out 5 = .ok (.iload_n 1, 1) := by decide +kernel
theorem d_Md_out_6 : decode bc_Md_out 6 = .ok (.ifCond .lt 20, 3) := by decide +kernel
theorem d_Md_out_9 : decode bc_Md_out 9 = .ok (.iload_n 1, 1) := by decide +kernel
theorem d_Md_out_10 : decode bc_Md_out 10 = .ok (.aload_n 0, 1) := by decide +kernel
theorem d_Md_out_11 : decode bc_Md_out 11 = .ok (.getfield 494, 3) := by decide +kernel
theorem d_Md_out_14 : decode bc_Md_out 14 = .ok (.if_icmp .ge 12, 3) := by decide +kernel
theorem d_Md_out_17 : decode bc_Md_out 17 = .ok (.aload_n 0, 1) := by decide +kernel
theorem d_Md_out_18 : decode bc_Md_out 18 = .ok (.getfield 181, 3) := by decide +kernel
theorem d_Md_out_21 : decode bc_Md_out 21 = .ok (.iload_n 1, 1) := by decide +kernel
theorem d_Md_out_22 : decode bc_Md_out 22 = .ok (.iaload, 1) := by decide +kernel
theorem d_Md_out_23 : decode bc_Md_out 23 = .ok (.goto 4, 3) := by decide +kernel
theorem d_Md_out_26 : decode bc_Md_out 26 = .ok (.iconst (-1), 1) := by decide +kernel
theorem d_Md_out_27 : decode bc_Md_out 27 = .ok (.ireturn, 1) := by decide +kernel
abbrev bc_Md_isDecl : ByteArray := prog_14_method_80_code
abbrev y_Md_isDecl : MethodName := ⟨"KindRoundsModel", "isDecl", "(I)Z"⟩
theorem d_Md_isDecl_0 : decode bc_Md_isDecl 0 = .ok (.iload_n 1, 1) := by decide +kernel
theorem d_Md_isDecl_1 : decode bc_Md_isDecl 1 = .ok (.ifCond .lt 15, 3) := by decide +kernel
theorem d_Md_isDecl_4 : decode bc_Md_isDecl 4 = .ok (.iload_n 1, 1) := by decide +kernel
theorem d_Md_isDecl_5 : decode bc_Md_isDecl 5 = .ok (.aload_n 0, 1) := by decide +kernel
theorem d_Md_isDecl_6 : decode bc_Md_isDecl 6 = .ok (.getfield 364, 3) := by decide +kernel
theorem d_Md_isDecl_9 : decode bc_Md_isDecl 9 = .ok (.if_icmp .ge 7, 3) := by decide +kernel
theorem d_Md_isDecl_12 : decode bc_Md_isDecl 12 = .ok (.iconst 1, 1) := by decide +kernel
theorem d_Md_isDecl_13 : decode bc_Md_isDecl 13 = .ok (.goto 4, 3) := by decide +kernel
theorem d_Md_isDecl_16 : decode bc_Md_isDecl 16 = .ok (.iconst 0, 1) := by decide +kernel
theorem d_Md_isDecl_17 : decode bc_Md_isDecl 17 = .ok (.ireturn, 1) := by decide +kernel
abbrev bc_Md_told : ByteArray := prog_14_method_81_code
abbrev y_Md_told : MethodName := ⟨"KindRoundsModel", "told", "(II)I"⟩
theorem d_Md_told_0 : decode bc_Md_told 0 = .ok (.aload_n 0, 1) := by decide +kernel
theorem d_Md_told_1 : decode bc_Md_told 1 = .ok (.iconst 0, 1) := by decide +kernel
theorem d_Md_told_2 : decode bc_Md_told 2 = .ok (.putfield 215, 3) := by decide +kernel
theorem d_Md_told_5 : decode bc_Md_told 5 = .ok (.aload_n 0, 1) := by decide +kernel
theorem d_Md_told_6 : decode bc_Md_told 6 = .ok (.iload_n 1, 1) := by decide +kernel
theorem d_Md_told_7 : decode bc_Md_told 7 = .ok (.invokevirtual 539, 3) := by decide +kernel
theorem d_Md_told_10 : decode bc_Md_told 10 = .ok (.ifCond .ne 5, 3) := by decide +kernel
theorem d_Md_told_13 : decode bc_Md_told 13 = .ok (.iconst (-1), 1) := by decide +kernel
theorem d_Md_told_14 : decode bc_Md_told 14 = .ok (.ireturn, 1) := by decide +kernel
theorem d_Md_told_15 : decode bc_Md_told 15 = .ok (.iload_n 2, 1) := by decide +kernel
theorem d_Md_told_16 : decode bc_Md_told 16 = .ok (.tableswitch 82 0 5 #[40, 47, 54, 61, 68, 75], 40) := by decide +kernel
theorem d_Md_told_56 : decode bc_Md_told 56 = .ok (.aload_n 0, 1) := by decide +kernel
theorem d_Md_told_57 : decode bc_Md_told 57 = .ok (.getfield 112, 3) := by decide +kernel
theorem d_Md_told_60 : decode bc_Md_told 60 = .ok (.iload_n 1, 1) := by decide +kernel
theorem d_Md_told_61 : decode bc_Md_told 61 = .ok (.iaload, 1) := by decide +kernel
theorem d_Md_told_62 : decode bc_Md_told 62 = .ok (.ireturn, 1) := by decide +kernel
theorem d_Md_told_63 : decode bc_Md_told 63 = .ok (.aload_n 0, 1) := by decide +kernel
theorem d_Md_told_64 : decode bc_Md_told 64 = .ok (.getfield 121, 3) := by decide +kernel
theorem d_Md_told_67 : decode bc_Md_told 67 = .ok (.iload_n 1, 1) := by decide +kernel
theorem d_Md_told_68 : decode bc_Md_told 68 = .ok (.iaload, 1) := by decide +kernel
theorem d_Md_told_69 : decode bc_Md_told 69 = .ok (.ireturn, 1) := by decide +kernel
theorem d_Md_told_70 : decode bc_Md_told 70 = .ok (.aload_n 0, 1) := by decide +kernel
theorem d_Md_told_71 : decode bc_Md_told 71 = .ok (.getfield 157, 3) := by decide +kernel
theorem d_Md_told_74 : decode bc_Md_told 74 = .ok (.iload_n 1, 1) := by decide +kernel
theorem d_Md_told_75 : decode bc_Md_told 75 = .ok (.iaload, 1) := by decide +kernel
theorem d_Md_told_76 : decode bc_Md_told 76 = .ok (.ireturn, 1) := by decide +kernel
theorem d_Md_told_77 : decode bc_Md_told 77 = .ok (.aload_n 0, 1) := by decide +kernel
theorem d_Md_told_78 : decode bc_Md_told 78 = .ok (.getfield 118, 3) := by decide +kernel
theorem d_Md_told_81 : decode bc_Md_told 81 = .ok (.iload_n 1, 1) := by decide +kernel
theorem d_Md_told_82 : decode bc_Md_told 82 = .ok (.iaload, 1) := by decide +kernel
theorem d_Md_told_83 : decode bc_Md_told 83 = .ok (.ireturn, 1) := by decide +kernel
theorem d_Md_told_84 : decode bc_Md_told 84 = .ok (.aload_n 0, 1) := by decide +kernel
theorem d_Md_told_85 : decode bc_Md_told 85 = .ok (.getfield 127, 3) := by decide +kernel
theorem d_Md_told_88 : decode bc_Md_told 88 = .ok (.iload_n 1, 1) := by decide +kernel
theorem d_Md_told_89 : decode bc_Md_told 89 = .ok (.iaload, 1) := by decide +kernel
theorem d_Md_told_90 : decode bc_Md_told 90 = .ok (.ireturn, 1) := by decide +kernel
theorem d_Md_told_91 : decode bc_Md_told 91 = .ok (.aload_n 0, 1) := by decide +kernel
theorem d_Md_told_92 : decode bc_Md_told 92 = .ok (.getfield 169, 3) := by decide +kernel
theorem d_Md_told_95 : decode bc_Md_told 95 = .ok (.iload_n 1, 1) := by decide +kernel
theorem d_Md_told_96 : decode bc_Md_told 96 = .ok (.iaload, 1) := by decide +kernel
theorem d_Md_told_97 : decode bc_Md_told 97 = .ok (.ireturn, 1) := by decide +kernel
theorem d_Md_told_98 : decode bc_Md_told 98 = .ok (.bipush (-2), 2) := by decide +kernel
theorem d_Md_told_100 : decode bc_Md_told 100 = .ok (.ireturn, 1) := by decide +kernel
abbrev bc_Md_kindOf : ByteArray := prog_14_method_82_code
abbrev y_Md_kindOf : MethodName := ⟨"KindRoundsModel", "kindOf", "(II)I"⟩
theorem d_Md_kindOf_0 : decode bc_Md_kindOf 0 = .ok (.aload_n 0, 1) := by decide +kernel
theorem d_Md_kindOf_1 : decode bc_Md_kindOf 1 = .ok (.iconst 0, 1) := by decide +kernel
theorem d_Md_kindOf_2 : decode bc_Md_kindOf 2 = .ok (.putfield 215, 3) := by decide +kernel
theorem d_Md_kindOf_5 : decode bc_Md_kindOf 5 = .ok (.aload_n 0, 1) := by decide +kernel
theorem d_Md_kindOf_6 : decode bc_Md_kindOf 6 = .ok (.iload_n 1, 1) := by decide +kernel
theorem d_Md_kindOf_7 : decode bc_Md_kindOf 7 = .ok (.invokevirtual 539, 3) := by decide +kernel
theorem d_Md_kindOf_10 : decode bc_Md_kindOf 10 = .ok (.ifCond .eq 18, 3) := by decide +kernel
theorem d_Md_kindOf_13 : decode bc_Md_kindOf 13 = .ok (.iload_n 2, 1) := by decide +kernel
theorem d_Md_kindOf_14 : decode bc_Md_kindOf 14 = .ok (.iconst (-1), 1) := by decide +kernel
theorem d_Md_kindOf_15 : decode bc_Md_kindOf 15 = .ok (.if_icmp .lt 13, 3) := by decide +kernel
theorem d_Md_kindOf_18 : decode bc_Md_kindOf 18 = .ok (.iload_n 2, 1) := by decide +kernel
theorem d_Md_kindOf_19 : decode bc_Md_kindOf 19 = .ok (.aload_n 0, 1) := by decide +kernel
theorem d_Md_kindOf_20 : decode bc_Md_kindOf 20 = .ok (.getfield 121, 3) := by decide +kernel
theorem d_Md_kindOf_23 : decode bc_Md_kindOf 23 = .ok (.iload_n 1, 1) := by decide +kernel
theorem d_Md_kindOf_24 : decode bc_Md_kindOf 24 = .ok (.iaload, 1) := by decide +kernel
theorem d_Md_kindOf_25 : decode bc_Md_kindOf 25 = .ok (.if_icmp .lt 5, 3) := by decide +kernel
theorem d_Md_kindOf_28 : decode bc_Md_kindOf 28 = .ok (.iconst (-1), 1) := by decide +kernel
theorem d_Md_kindOf_29 : decode bc_Md_kindOf 29 = .ok (.ireturn, 1) := by decide +kernel
theorem d_Md_kindOf_30 : decode bc_Md_kindOf 30 = .ok (.aload_n 0, 1) := by decide +kernel
theorem d_Md_kindOf_31 : decode bc_Md_kindOf 31 = .ok (.iload_n 2, 1) := by decide +kernel
theorem d_Md_kindOf_32 : decode bc_Md_kindOf 32 = .ok (.ifCond .ge 12, 3) := by decide +kernel
theorem d_Md_kindOf_35 : decode bc_Md_kindOf 35 = .ok (.aload_n 0, 1) := by decide +kernel
theorem d_Md_kindOf_36 : decode bc_Md_kindOf 36 = .ok (.getfield 160, 3) := by decide +kernel
theorem d_Md_kindOf_39 : decode bc_Md_kindOf 39 = .ok (.iload_n 1, 1) := by decide +kernel
theorem d_Md_kindOf_40 : decode bc_Md_kindOf 40 = .ok (.iaload, 1) := by decide +kernel
theorem d_Md_kindOf_41 : decode bc_Md_kindOf 41 = .ok (.goto 13, 3) := by decide +kernel
theorem d_Md_kindOf_44 : decode bc_Md_kindOf 44 = .ok (.aload_n 0, 1) := by decide +kernel
theorem d_Md_kindOf_45 : decode bc_Md_kindOf 45 = .ok (.getfield 163, 3) := by decide +kernel
theorem d_Md_kindOf_48 : decode bc_Md_kindOf 48 = .ok (.iconst 3, 1) := by decide +kernel
theorem d_Md_kindOf_49 : decode bc_Md_kindOf 49 = .ok (.iload_n 1, 1) := by decide +kernel
theorem d_Md_kindOf_50 : decode bc_Md_kindOf 50 = .ok (.imul, 1) := by decide +kernel
theorem d_Md_kindOf_51 : decode bc_Md_kindOf 51 = .ok (.iload_n 2, 1) := by decide +kernel
theorem d_Md_kindOf_52 : decode bc_Md_kindOf 52 = .ok (.iadd, 1) := by decide +kernel
theorem d_Md_kindOf_53 : decode bc_Md_kindOf 53 = .ok (.iaload, 1) := by decide +kernel
theorem d_Md_kindOf_54 : decode bc_Md_kindOf 54 = .ok (.invokevirtual 536, 3) := by decide +kernel
theorem d_Md_kindOf_57 : decode bc_Md_kindOf 57 = .ok (.ireturn, 1) := by decide +kernel
abbrev bc_Md_groups : ByteArray := prog_14_method_83_code
abbrev y_Md_groups : MethodName := ⟨"KindRoundsModel", "groups", "()I"⟩
theorem d_Md_groups_0 : decode bc_Md_groups 0 = .ok (.aload_n 0, 1) := by decide +kernel
theorem d_Md_groups_1 : decode bc_Md_groups 1 = .ok (.iconst 0, 1) := by decide +kernel
theorem d_Md_groups_2 : decode bc_Md_groups 2 = .ok (.putfield 215, 3) := by decide +kernel
theorem d_Md_groups_5 : decode bc_Md_groups 5 = .ok (.aload_n 0, 1) := by decide +kernel
theorem d_Md_groups_6 : decode bc_Md_groups 6 = .ok (.getfield 432, 3) := by decide +kernel
theorem d_Md_groups_9 : decode bc_Md_groups 9 = .ok (.ireturn, 1) := by decide +kernel
abbrev bc_Md_member : ByteArray := prog_14_method_84_code
abbrev y_Md_member : MethodName := ⟨"KindRoundsModel", "member", "(II)I"⟩
theorem d_Md_member_0 : decode bc_Md_member 0 = .ok (.aload_n 0, 1) := by decide +kernel
theorem d_Md_member_1 : decode bc_Md_member 1 = .ok (.iconst 0, 1) := by decide +kernel
theorem d_Md_member_2 : decode bc_Md_member 2 = .ok (.putfield 215, 3) := by decide +kernel
theorem d_Md_member_5 : decode bc_Md_member 5 = .ok (.iconst 0, 1) := by decide +kernel
theorem d_Md_member_6 : decode bc_Md_member 6 = .ok (.istore_n 3, 1) := by decide +kernel
theorem d_Md_member_7 : decode bc_Md_member 7 = .ok (.iconst 0, 1) := by decide +kernel
theorem d_Md_member_8 : decode bc_Md_member 8 = .ok (.istore 4, 2) := by decide +kernel
theorem d_Md_member_10 : decode bc_Md_member 10 = .ok (.iload 4, 2) := by decide +kernel
theorem d_Md_member_12 : decode bc_Md_member 12 = .ok (.aload_n 0, 1) := by decide +kernel
theorem d_Md_member_13 : decode bc_Md_member 13 = .ok (.getfield 364, 3) := by decide +kernel
theorem d_Md_member_16 : decode bc_Md_member 16 = .ok (.if_icmp .ge 47, 3) := by decide +kernel
theorem d_Md_member_19 : decode bc_Md_member 19 = .ok (.iload_n 1, 1) := by decide +kernel
theorem d_Md_member_20 : decode bc_Md_member 20 = .ok (.ifCond .lt 43, 3) := by decide +kernel
theorem d_Md_member_23 : decode bc_Md_member 23 = .ok (.iload_n 1, 1) := by decide +kernel
theorem d_Md_member_24 : decode bc_Md_member 24 = .ok (.aload_n 0, 1) := by decide +kernel
theorem d_Md_member_25 : decode bc_Md_member 25 = .ok (.getfield 432, 3) := by decide +kernel
theorem d_Md_member_28 : decode bc_Md_member 28 = .ok (.if_icmp .ge 35, 3) := by decide +kernel
theorem d_Md_member_31 : decode bc_Md_member 31 = .ok (.iload_n 2, 1) := by decide +kernel
theorem d_Md_member_32 : decode bc_Md_member 32 = .ok (.ifCond .lt 31, 3) := by decide +kernel
theorem d_Md_member_35 : decode bc_Md_member 35 = .ok (.aload_n 0, 1) := by decide +kernel
theorem d_Md_member_36 : decode bc_Md_member 36 = .ok (.getfield 157, 3) := by decide +kernel
theorem d_Md_member_39 : decode bc_Md_member 39 = .ok (.iload 4, 2) := by decide +kernel
theorem d_Md_member_41 : decode bc_Md_member 41 = .ok (.iaload, 1) := by decide +kernel
theorem d_Md_member_42 : decode bc_Md_member 42 = .ok (.iload_n 1, 1) := by decide +kernel
theorem d_Md_member_43 : decode bc_Md_member 43 = .ok (.if_icmp .ne 14, 3) := by decide +kernel
theorem d_Md_member_46 : decode bc_Md_member 46 = .ok (.iload_n 3, 1) := by decide +kernel
theorem d_Md_member_47 : decode bc_Md_member 47 = .ok (.iload_n 2, 1) := by decide +kernel
theorem d_Md_member_48 : decode bc_Md_member 48 = .ok (.if_icmp .ne 6, 3) := by decide +kernel
theorem d_Md_member_51 : decode bc_Md_member 51 = .ok (.iload 4, 2) := by decide +kernel
theorem d_Md_member_53 : decode bc_Md_member 53 = .ok (.ireturn, 1) := by decide +kernel
theorem d_Md_member_54 : decode bc_Md_member 54 = .ok (.iinc 3 1, 3) := by decide +kernel
theorem d_Md_member_57 : decode bc_Md_member 57 = .ok (.iinc 4 1, 3) := by decide +kernel
theorem d_Md_member_60 : decode bc_Md_member 60 = .ok (.goto (-50), 3) := by decide +kernel
theorem d_Md_member_63 : decode bc_Md_member 63 = .ok (.iconst (-1), 1) := by decide +kernel
theorem d_Md_member_64 : decode bc_Md_member 64 = .ok (.ireturn, 1) := by decide +kernel
abbrev bc_Md_needs : ByteArray := prog_14_method_85_code
abbrev y_Md_needs : MethodName := ⟨"KindRoundsModel", "needs", "(II)I"⟩
theorem d_Md_needs_0 : decode bc_Md_needs 0 = .ok (.aload_n 0, 1) := by decide +kernel
theorem d_Md_needs_1 : decode bc_Md_needs 1 = .ok (.iconst 0, 1) := by decide +kernel
theorem d_Md_needs_2 : decode bc_Md_needs 2 = .ok (.putfield 215, 3) := by decide +kernel
theorem d_Md_needs_5 : decode bc_Md_needs 5 = .ok (.aload_n 0, 1) := by decide +kernel
theorem d_Md_needs_6 : decode bc_Md_needs 6 = .ok (.iload_n 1, 1) := by decide +kernel
theorem d_Md_needs_7 : decode bc_Md_needs 7 = .ok (.invokevirtual 539, 3) := by decide +kernel
theorem d_Md_needs_10 : decode bc_Md_needs 10 = .ok (.ifCond .eq 33, 3) := by decide +kernel
theorem d_Md_needs_13 : decode bc_Md_needs 13 = .ok (.aload_n 0, 1) := by decide +kernel
theorem d_Md_needs_14 : decode bc_Md_needs 14 = .ok (.iload_n 2, 1) := by decide +kernel
theorem d_Md_needs_15 : decode bc_Md_needs 15 = .ok (.invokevirtual 539, 3) := by decide +kernel
theorem d_Md_needs_18 : decode bc_Md_needs 18 = .ok (.ifCond .eq 25, 3) := by decide +kernel
theorem d_Md_needs_21 : decode bc_Md_needs 21 = .ok (.aload_n 0, 1) := by decide +kernel
theorem d_Md_needs_22 : decode bc_Md_needs 22 = .ok (.getfield 151, 3) := by decide +kernel
theorem d_Md_needs_25 : decode bc_Md_needs 25 = .ok (.bipush 16, 2) := by decide +kernel
theorem d_Md_needs_27 : decode bc_Md_needs 27 = .ok (.iload_n 1, 1) := by decide +kernel
theorem d_Md_needs_28 : decode bc_Md_needs 28 = .ok (.imul, 1) := by decide +kernel
theorem d_Md_needs_29 : decode bc_Md_needs 29 = .ok (.iload_n 2, 1) := by decide +kernel
theorem d_Md_needs_30 : decode bc_Md_needs 30 = .ok (.iadd, 1) := by decide +kernel
theorem d_Md_needs_31 : decode bc_Md_needs 31 = .ok (.baload, 1) := by decide +kernel
theorem d_Md_needs_32 : decode bc_Md_needs 32 = .ok (.ifCond .eq 7, 3) := by decide +kernel
theorem d_Md_needs_35 : decode bc_Md_needs 35 = .ok (.iconst 1, 1) := by decide +kernel
theorem d_Md_needs_36 : decode bc_Md_needs 36 = .ok (.goto 8, 3) := by decide +kernel
theorem d_Md_needs_39 : decode bc_Md_needs 39 = .ok (.iconst 0, 1) := by decide +kernel
theorem d_Md_needs_40 : decode bc_Md_needs 40 = .ok (.goto 4, 3) := by decide +kernel
theorem d_Md_needs_43 : decode bc_Md_needs 43 = .ok (.iconst (-1), 1) := by decide +kernel
theorem d_Md_needs_44 : decode bc_Md_needs 44 = .ok (.ireturn, 1) := by decide +kernel
abbrev bc_Md_readAsked : ByteArray := prog_14_method_86_code
abbrev y_Md_readAsked : MethodName := ⟨"KindRoundsModel", "readAsked", "(Z)I"⟩
theorem d_Md_readAsked_0 : decode bc_Md_readAsked 0 = .ok (.aload_n 0, 1) := by decide +kernel
theorem d_Md_readAsked_1 : decode bc_Md_readAsked 1 = .ok (.getfield 187, 3) := by decide +kernel
theorem d_Md_readAsked_4 : decode bc_Md_readAsked 4 = .ok (.aload_n 0, 1) := by decide +kernel
theorem d_Md_readAsked_5 : decode bc_Md_readAsked 5 = .ok (.getfield 100, 3) := by decide +kernel
theorem d_Md_readAsked_8 : decode bc_Md_readAsked 8 = .ok (.aload_n 0, 1) := by decide +kernel
theorem d_Md_readAsked_9 : decode bc_Md_readAsked 9 = .ok (.getfield 212, 3) := by decide +kernel
theorem d_Md_readAsked_12 : decode bc_Md_readAsked 12 = .ok (.invokestatic 466, 3) := by decide +kernel
theorem d_Md_readAsked_15 : decode bc_Md_readAsked 15 = .ok (.aload_n 0, 1) := by decide +kernel
theorem d_Md_readAsked_16 : decode bc_Md_readAsked 16 = .ok (.aload_n 0, 1) := by decide +kernel
theorem d_Md_readAsked_17 : decode bc_Md_readAsked 17 = .ok (.getfield 212, 3) := by decide +kernel
theorem d_Md_readAsked_20 : decode bc_Md_readAsked 20 = .ok (.putfield 209, 3) := by decide +kernel
theorem d_Md_readAsked_23 : decode bc_Md_readAsked 23 = .ok (.aload_n 0, 1) := by decide +kernel
theorem d_Md_readAsked_24 : decode bc_Md_readAsked 24 = .ok (.aload_n 0, 1) := by decide +kernel
theorem d_Md_readAsked_25 : decode bc_Md_readAsked 25 = .ok (.getfield 530, 3) := by decide +kernel
theorem d_Md_readAsked_28 : decode bc_Md_readAsked 28 = .ok (.putfield 288, 3) := by decide +kernel
theorem d_Md_readAsked_31 : decode bc_Md_readAsked 31 = .ok (.aload_n 0, 1) := by decide +kernel
theorem d_Md_readAsked_32 : decode bc_Md_readAsked 32 = .ok (.iconst 0, 1) := by decide +kernel
theorem d_Md_readAsked_33 : decode bc_Md_readAsked 33 = .ok (.putfield 279, 3) := by decide +kernel
theorem d_Md_readAsked_36 : decode bc_Md_readAsked 36 = .ok (.aload_n 0, 1) := by decide +kernel
theorem d_Md_readAsked_37 : decode bc_Md_readAsked 37 = .ok (.iconst 0, 1) := by decide +kernel
theorem d_Md_readAsked_38 : decode bc_Md_readAsked 38 = .ok (.putfield 285, 3) := by decide +kernel
theorem d_Md_readAsked_41 : decode bc_Md_readAsked 41 = .ok (.aload_n 0, 1) := by decide +kernel
theorem d_Md_readAsked_42 : decode bc_Md_readAsked 42 = .ok (.invokevirtual 395, 3) := by decide +kernel
theorem d_Md_readAsked_45 : decode bc_Md_readAsked 45 = .ok (.aload_n 0, 1) := by decide +kernel
theorem d_Md_readAsked_46 : decode bc_Md_readAsked 46 = .ok (.invokevirtual 383, 3) := by decide +kernel
theorem d_Md_readAsked_49 : decode bc_Md_readAsked 49 = .ok (.istore_n 2, 1) := by decide +kernel
theorem d_Md_readAsked_50 : decode bc_Md_readAsked 50 = .ok (.iload_n 1, 1) := by decide +kernel
theorem d_Md_readAsked_51 : decode bc_Md_readAsked 51 = .ok (.ifCond .eq 23, 3) := by decide +kernel
theorem d_Md_readAsked_54 : decode bc_Md_readAsked 54 = .ok (.aload_n 0, 1) := by decide +kernel
theorem d_Md_readAsked_55 : decode bc_Md_readAsked 55 = .ok (.bipush 44, 2) := by decide +kernel
theorem d_Md_readAsked_57 : decode bc_Md_readAsked 57 = .ok (.invokevirtual 326, 3) := by decide +kernel
theorem d_Md_readAsked_60 : decode bc_Md_readAsked 60 = .ok (.aload_n 0, 1) := by decide +kernel
theorem d_Md_readAsked_61 : decode bc_Md_readAsked 61 = .ok (.bipush (-2), 2) := by decide +kernel
theorem d_Md_readAsked_63 : decode bc_Md_readAsked 63 = .ok (.putfield 282, 3) := by decide +kernel
theorem d_Md_readAsked_66 : decode bc_Md_readAsked 66 = .ok (.aload_n 0, 1) := by decide +kernel
theorem d_Md_readAsked_67 : decode bc_Md_readAsked 67 = .ok (.aload_n 0, 1) := by decide +kernel
theorem d_Md_readAsked_68 : decode bc_Md_readAsked 68 = .ok (.invokevirtual 383, 3) := by decide +kernel
theorem d_Md_readAsked_71 : decode bc_Md_readAsked 71 = .ok (.putfield 542, 3) := by decide +kernel
theorem d_Md_readAsked_74 : decode bc_Md_readAsked 74 = .ok (.aload_n 0, 1) := by decide +kernel
theorem d_Md_readAsked_75 : decode bc_Md_readAsked 75 = .ok (.getfield 221, 3) := by decide +kernel
theorem d_Md_readAsked_78 : decode bc_Md_readAsked 78 = .ok (.ifCond .ne 15, 3) := by decide +kernel
theorem d_Md_readAsked_81 : decode bc_Md_readAsked 81 = .ok (.aload_n 0, 1) := by decide +kernel
theorem d_Md_readAsked_82 : decode bc_Md_readAsked 82 = .ok (.getfield 241, 3) := by decide +kernel
theorem d_Md_readAsked_85 : decode bc_Md_readAsked 85 = .ok (.iconst 5, 1) := by decide +kernel
theorem d_Md_readAsked_86 : decode bc_Md_readAsked 86 = .ok (.if_icmp .eq 7, 3) := by decide +kernel
theorem d_Md_readAsked_89 : decode bc_Md_readAsked 89 = .ok (.aload_n 0, 1) := by decide +kernel
theorem d_Md_readAsked_90 : decode bc_Md_readAsked 90 = .ok (.invokevirtual 276, 3) := by decide +kernel
theorem d_Md_readAsked_93 : decode bc_Md_readAsked 93 = .ok (.aload_n 0, 1) := by decide +kernel
theorem d_Md_readAsked_94 : decode bc_Md_readAsked 94 = .ok (.getfield 221, 3) := by decide +kernel
theorem d_Md_readAsked_97 : decode bc_Md_readAsked 97 = .ok (.ifCond .ne 8, 3) := by decide +kernel
theorem d_Md_readAsked_100 : decode bc_Md_readAsked 100 = .ok (.aload_n 0, 1) := by decide +kernel
theorem d_Md_readAsked_101 : decode bc_Md_readAsked 101 = .ok (.iconst 0, 1) := by decide +kernel
theorem d_Md_readAsked_102 : decode bc_Md_readAsked 102 = .ok (.invokevirtual 518, 3) := by decide +kernel
theorem d_Md_readAsked_105 : decode bc_Md_readAsked 105 = .ok (.aload_n 0, 1) := by decide +kernel
theorem d_Md_readAsked_106 : decode bc_Md_readAsked 106 = .ok (.getfield 221, 3) := by decide +kernel
theorem d_Md_readAsked_109 : decode bc_Md_readAsked 109 = .ok (.ifCond .ne 7, 3) := by decide +kernel
theorem d_Md_readAsked_112 : decode bc_Md_readAsked 112 = .ok (.aload_n 0, 1) := by decide +kernel
theorem d_Md_readAsked_113 : decode bc_Md_readAsked 113 = .ok (.invokevirtual 524, 3) := by decide +kernel
theorem d_Md_readAsked_116 : decode bc_Md_readAsked 116 = .ok (.aload_n 0, 1) := by decide +kernel
theorem d_Md_readAsked_117 : decode bc_Md_readAsked 117 = .ok (.getfield 530, 3) := by decide +kernel
theorem d_Md_readAsked_120 : decode bc_Md_readAsked 120 = .ok (.istore_n 3, 1) := by decide +kernel
theorem d_Md_readAsked_121 : decode bc_Md_readAsked 121 = .ok (.iload_n 3, 1) := by decide +kernel
theorem d_Md_readAsked_122 : decode bc_Md_readAsked 122 = .ok (.aload_n 0, 1) := by decide +kernel
theorem d_Md_readAsked_123 : decode bc_Md_readAsked 123 = .ok (.getfield 288, 3) := by decide +kernel
theorem d_Md_readAsked_126 : decode bc_Md_readAsked 126 = .ok (.if_icmp .ge 35, 3) := by decide +kernel
theorem d_Md_readAsked_129 : decode bc_Md_readAsked 129 = .ok (.aload_n 0, 1) := by decide +kernel
theorem d_Md_readAsked_130 : decode bc_Md_readAsked 130 = .ok (.getfield 221, 3) := by decide +kernel
theorem d_Md_readAsked_133 : decode bc_Md_readAsked 133 = .ok (.ifCond .ne 28, 3) := by decide +kernel
theorem d_Md_readAsked_136 : decode bc_Md_readAsked 136 = .ok (.aload_n 0, 1) := by decide +kernel
theorem d_Md_readAsked_137 : decode bc_Md_readAsked 137 = .ok (.getfield 17, 3) := by decide +kernel
theorem d_Md_readAsked_140 : decode bc_Md_readAsked 140 = .ok (.iload_n 3, 1) := by decide +kernel
theorem d_Md_readAsked_141 : decode bc_Md_readAsked 141 = .ok (.iaload, 1) := by decide +kernel
theorem d_Md_readAsked_142 : decode bc_Md_readAsked 142 = .ok (.iconst 2, 1) := by decide +kernel
theorem d_Md_readAsked_143 : decode bc_Md_readAsked 143 = .ok (.if_icmp .eq 12, 3) := by decide +kernel
theorem d_Md_readAsked_146 : decode bc_Md_readAsked 146 = .ok (.aload_n 0, 1) := by decide +kernel
theorem d_Md_readAsked_147 : decode bc_Md_readAsked 147 = .ok (.iload_n 3, 1) := by decide +kernel
theorem d_Md_readAsked_148 : decode bc_Md_readAsked 148 = .ok (.aload_n 0, 1) := by decide +kernel
theorem d_Md_readAsked_149 : decode bc_Md_readAsked 149 = .ok (.getfield 530, 3) := by decide +kernel
theorem d_Md_readAsked_152 : decode bc_Md_readAsked 152 = .ok (.invokevirtual 460, 3) := by decide +kernel
theorem d_Md_readAsked_155 : decode bc_Md_readAsked 155 = .ok (.iinc 3 1, 3) := by decide +kernel
theorem d_Md_readAsked_158 : decode bc_Md_readAsked 158 = .ok (.goto (-37), 3) := by decide +kernel
theorem d_Md_readAsked_161 : decode bc_Md_readAsked 161 = .ok (.iconst 0, 1) := by decide +kernel
theorem d_Md_readAsked_162 : decode bc_Md_readAsked 162 = .ok (.istore_n 3, 1) := by decide +kernel
theorem d_Md_readAsked_163 : decode bc_Md_readAsked 163 = .ok (.iload_n 3, 1) := by decide +kernel
theorem d_Md_readAsked_164 : decode bc_Md_readAsked 164 = .ok (.aload_n 0, 1) := by decide +kernel
theorem d_Md_readAsked_165 : decode bc_Md_readAsked 165 = .ok (.getfield 285, 3) := by decide +kernel
theorem d_Md_readAsked_168 : decode bc_Md_readAsked 168 = .ok (.if_icmp .ge 22, 3) := by decide +kernel
theorem d_Md_readAsked_171 : decode bc_Md_readAsked 171 = .ok (.aload_n 0, 1) := by decide +kernel
theorem d_Md_readAsked_172 : decode bc_Md_readAsked 172 = .ok (.getfield 221, 3) := by decide +kernel
theorem d_Md_readAsked_175 : decode bc_Md_readAsked 175 = .ok (.ifCond .ne 15, 3) := by decide +kernel
theorem d_Md_readAsked_178 : decode bc_Md_readAsked 178 = .ok (.aload_n 0, 1) := by decide +kernel
theorem d_Md_readAsked_179 : decode bc_Md_readAsked 179 = .ok (.iload_n 3, 1) := by decide +kernel
theorem d_Md_readAsked_180 : decode bc_Md_readAsked 180 = .ok (.iconst 0, 1) := by decide +kernel
theorem d_Md_readAsked_181 : decode bc_Md_readAsked 181 = .ok (.invokevirtual 454, 3) := by decide +kernel
theorem d_Md_readAsked_184 : decode bc_Md_readAsked 184 = .ok (.iinc 3 1, 3) := by decide +kernel
theorem d_Md_readAsked_187 : decode bc_Md_readAsked 187 = .ok (.goto (-24), 3) := by decide +kernel
theorem d_Md_readAsked_190 : decode bc_Md_readAsked 190 = .ok (.aload_n 0, 1) := by decide +kernel
theorem d_Md_readAsked_191 : decode bc_Md_readAsked 191 = .ok (.iconst 0, 1) := by decide +kernel
theorem d_Md_readAsked_192 : decode bc_Md_readAsked 192 = .ok (.putfield 218, 3) := by decide +kernel
theorem d_Md_readAsked_195 : decode bc_Md_readAsked 195 = .ok (.iload_n 2, 1) := by decide +kernel
theorem d_Md_readAsked_196 : decode bc_Md_readAsked 196 = .ok (.ireturn, 1) := by decide +kernel
abbrev bc_Md_kind : ByteArray := prog_14_method_87_code
abbrev y_Md_kind : MethodName := ⟨"KindRoundsModel", "kind", "()I"⟩
theorem d_Md_kind_0 : decode bc_Md_kind 0 = .ok (.aload_n 0, 1) := by decide +kernel
theorem d_Md_kind_1 : decode bc_Md_kind 1 = .ok (.iconst 0, 1) := by decide +kernel
theorem d_Md_kind_2 : decode bc_Md_kind 2 = .ok (.putfield 215, 3) := by decide +kernel
theorem d_Md_kind_5 : decode bc_Md_kind 5 = .ok (.aload_n 0, 1) := by decide +kernel
theorem d_Md_kind_6 : decode bc_Md_kind 6 = .ok (.iconst 0, 1) := by decide +kernel
theorem d_Md_kind_7 : decode bc_Md_kind 7 = .ok (.invokevirtual 545, 3) := by decide +kernel
theorem d_Md_kind_10 : decode bc_Md_kind 10 = .ok (.istore_n 1, 1) := by decide +kernel
theorem d_Md_kind_11 : decode bc_Md_kind 11 = .ok (.aload_n 0, 1) := by decide +kernel
theorem d_Md_kind_12 : decode bc_Md_kind 12 = .ok (.getfield 221, 3) := by decide +kernel
theorem d_Md_kind_15 : decode bc_Md_kind 15 = .ok (.ifCond .le 13, 3) := by decide +kernel
theorem d_Md_kind_18 : decode bc_Md_kind 18 = .ok (.bipush (-10), 2) := by decide +kernel
theorem d_Md_kind_20 : decode bc_Md_kind 20 = .ok (.aload_n 0, 1) := by decide +kernel
theorem d_Md_kind_21 : decode bc_Md_kind 21 = .ok (.getfield 221, 3) := by decide +kernel
theorem d_Md_kind_24 : decode bc_Md_kind 24 = .ok (.isub, 1) := by decide +kernel
theorem d_Md_kind_25 : decode bc_Md_kind 25 = .ok (.goto 13, 3) := by decide +kernel
theorem d_Md_kind_28 : decode bc_Md_kind 28 = .ok (.aload_n 0, 1) := by decide +kernel
theorem d_Md_kind_29 : decode bc_Md_kind 29 = .ok (.aload_n 0, 1) := by decide +kernel
theorem d_Md_kind_30 : decode bc_Md_kind 30 = .ok (.getfield 30, 3) := by decide +kernel
theorem d_Md_kind_33 : decode bc_Md_kind 33 = .ok (.iload_n 1, 1) := by decide +kernel
theorem d_Md_kind_34 : decode bc_Md_kind 34 = .ok (.iaload, 1) := by decide +kernel
theorem d_Md_kind_35 : decode bc_Md_kind 35 = .ok (.invokevirtual 536, 3) := by decide +kernel
theorem d_Md_kind_38 : decode bc_Md_kind 38 = .ok (.ireturn, 1) := by decide +kernel
abbrev bc_Md_lay : ByteArray := prog_14_method_88_code
abbrev y_Md_lay : MethodName := ⟨"KindRoundsModel", "lay", "(I[I)I"⟩
theorem d_Md_lay_0 : decode bc_Md_lay 0 = .ok (.iconst 1, 1) := by decide +kernel
theorem d_Md_lay_1 : decode bc_Md_lay 1 = .ok (.istore_n 3, 1) := by decide +kernel
theorem d_Md_lay_2 : decode bc_Md_lay 2 = .ok (.iconst 0, 1) := by decide +kernel
theorem d_Md_lay_3 : decode bc_Md_lay 3 = .ok (.istore 4, 2) := by decide +kernel
theorem d_Md_lay_5 : decode bc_Md_lay 5 = .ok (.aload_n 0, 1) := by decide +kernel
theorem d_Md_lay_6 : decode bc_Md_lay 6 = .ok (.getfield 172, 3) := by decide +kernel
theorem d_Md_lay_9 : decode bc_Md_lay 9 = .ok (.iconst 0, 1) := by decide +kernel
theorem d_Md_lay_10 : decode bc_Md_lay 10 = .ok (.iload_n 1, 1) := by decide +kernel
theorem d_Md_lay_11 : decode bc_Md_lay 11 = .ok (.iastore, 1) := by decide +kernel
theorem d_Md_lay_12 : decode bc_Md_lay 12 = .ok (.iload_n 3, 1) := by decide +kernel
theorem d_Md_lay_13 : decode bc_Md_lay 13 = .ok (.ifCond .le 131, 3) := by decide +kernel
theorem d_Md_lay_16 : decode bc_Md_lay 16 = .ok (.iinc 3 (-1), 3) := by decide +kernel
theorem d_Md_lay_19 : decode bc_Md_lay 19 = .ok (.aload_n 0, 1) := by decide +kernel
theorem d_Md_lay_20 : decode bc_Md_lay 20 = .ok (.getfield 172, 3) := by decide +kernel
theorem d_Md_lay_23 : decode bc_Md_lay 23 = .ok (.iload_n 3, 1) := by decide +kernel
theorem d_Md_lay_24 : decode bc_Md_lay 24 = .ok (.iaload, 1) := by decide +kernel
theorem d_Md_lay_25 : decode bc_Md_lay 25 = .ok (.istore 5, 2) := by decide +kernel
theorem d_Md_lay_27 : decode bc_Md_lay 27 = .ok (.aload_n 0, 1) := by decide +kernel
theorem d_Md_lay_28 : decode bc_Md_lay 28 = .ok (.getfield 17, 3) := by decide +kernel
theorem d_Md_lay_31 : decode bc_Md_lay 31 = .ok (.iload 5, 2) := by decide +kernel
theorem d_Md_lay_33 : decode bc_Md_lay 33 = .ok (.iaload, 1) := by decide +kernel
theorem d_Md_lay_34 : decode bc_Md_lay 34 = .ok (.ifCond .eq 14, 3) := by decide +kernel
theorem d_Md_lay_37 : decode bc_Md_lay 37 = .ok (.aload_n 0, 1) := by decide +kernel
theorem d_Md_lay_38 : decode bc_Md_lay 38 = .ok (.getfield 17, 3) := by decide +kernel
theorem d_Md_lay_41 : decode bc_Md_lay 41 = .ok (.iload 5, 2) := by decide +kernel
theorem d_Md_lay_43 : decode bc_Md_lay 43 = .ok (.iaload, 1) := by decide +kernel
theorem d_Md_lay_44 : decode bc_Md_lay 44 = .ok (.iconst 1, 1) := by decide +kernel
theorem d_Md_lay_45 : decode bc_Md_lay 45 = .ok (.if_icmp .ne 15, 3) := by decide +kernel
theorem d_Md_lay_48 : decode bc_Md_lay 48 = .ok (.aload_n 2, 1) := by decide +kernel
theorem d_Md_lay_49 : decode bc_Md_lay 49 = .ok (.iload 4, 2) := by decide +kernel
theorem d_Md_lay_51 : decode bc_Md_lay 51 = .ok (.bipush 10, 2) := by decide +kernel
theorem d_Md_lay_53 : decode bc_Md_lay 53 = .ok (.iload 5, 2) := by decide +kernel
theorem d_Md_lay_55 : decode bc_Md_lay 55 = .ok (.iadd, 1) := by decide +kernel
theorem d_Md_lay_56 : decode bc_Md_lay 56 = .ok (.iastore, 1) := by decide +kernel
theorem d_Md_lay_57 : decode bc_Md_lay 57 = .ok (.goto 81, 3) := by decide +kernel
theorem d_Md_lay_60 : decode bc_Md_lay 60 = .ok (.aload_n 2, 1) := by decide +kernel
theorem d_Md_lay_61 : decode bc_Md_lay 61 = .ok (.iload 4, 2) := by decide +kernel
theorem d_Md_lay_63 : decode bc_Md_lay 63 = .ok (.aload_n 0, 1) := by decide +kernel
theorem d_Md_lay_64 : decode bc_Md_lay 64 = .ok (.getfield 17, 3) := by decide +kernel
theorem d_Md_lay_67 : decode bc_Md_lay 67 = .ok (.iload 5, 2) := by decide +kernel
theorem d_Md_lay_69 : decode bc_Md_lay 69 = .ok (.iaload, 1) := by decide +kernel
theorem d_Md_lay_70 : decode bc_Md_lay 70 = .ok (.iconst 2, 1) := by decide +kernel
theorem d_Md_lay_71 : decode bc_Md_lay 71 = .ok (.if_icmp .ne 7, 3) := by decide +kernel
theorem d_Md_lay_74 : decode bc_Md_lay 74 = .ok (.iconst 0, 1) := by decide +kernel
theorem d_Md_lay_75 : decode bc_Md_lay 75 = .ok (.goto 19, 3) := by decide +kernel
theorem d_Md_lay_78 : decode bc_Md_lay 78 = .ok (.aload_n 0, 1) := by decide +kernel
theorem d_Md_lay_79 : decode bc_Md_lay 79 = .ok (.getfield 17, 3) := by decide +kernel
theorem d_Md_lay_82 : decode bc_Md_lay 82 = .ok (.iload 5, 2) := by decide +kernel
theorem d_Md_lay_84 : decode bc_Md_lay 84 = .ok (.iaload, 1) := by decide +kernel
theorem d_Md_lay_85 : decode bc_Md_lay 85 = .ok (.iconst 3, 1) := by decide +kernel
theorem d_Md_lay_86 : decode bc_Md_lay 86 = .ok (.if_icmp .ne 7, 3) := by decide +kernel
theorem d_Md_lay_89 : decode bc_Md_lay 89 = .ok (.iconst 1, 1) := by decide +kernel
theorem d_Md_lay_90 : decode bc_Md_lay 90 = .ok (.goto 4, 3) := by decide +kernel
theorem d_Md_lay_93 : decode bc_Md_lay 93 = .ok (.iconst 2, 1) := by decide +kernel
theorem d_Md_lay_94 : decode bc_Md_lay 94 = .ok (.iastore, 1) := by decide +kernel
theorem d_Md_lay_95 : decode bc_Md_lay 95 = .ok (.aload_n 0, 1) := by decide +kernel
theorem d_Md_lay_96 : decode bc_Md_lay 96 = .ok (.getfield 17, 3) := by decide +kernel
theorem d_Md_lay_99 : decode bc_Md_lay 99 = .ok (.iload 5, 2) := by decide +kernel
theorem d_Md_lay_101 : decode bc_Md_lay 101 = .ok (.iaload, 1) := by decide +kernel
theorem d_Md_lay_102 : decode bc_Md_lay 102 = .ok (.iconst 3, 1) := by decide +kernel
theorem d_Md_lay_103 : decode bc_Md_lay 103 = .ok (.if_icmp .eq 19, 3) := by decide +kernel
theorem d_Md_lay_106 : decode bc_Md_lay 106 = .ok (.aload_n 0, 1) := by decide +kernel
theorem d_Md_lay_107 : decode bc_Md_lay 107 = .ok (.getfield 172, 3) := by decide +kernel
theorem d_Md_lay_110 : decode bc_Md_lay 110 = .ok (.iload_n 3, 1) := by decide +kernel
theorem d_Md_lay_111 : decode bc_Md_lay 111 = .ok (.aload_n 0, 1) := by decide +kernel
theorem d_Md_lay_112 : decode bc_Md_lay 112 = .ok (.getfield 27, 3) := by decide +kernel
theorem d_Md_lay_115 : decode bc_Md_lay 115 = .ok (.iload 5, 2) := by decide +kernel
theorem d_Md_lay_117 : decode bc_Md_lay 117 = .ok (.iaload, 1) := by decide +kernel
theorem d_Md_lay_118 : decode bc_Md_lay 118 = .ok (.iastore, 1) := by decide +kernel
theorem d_Md_lay_119 : decode bc_Md_lay 119 = .ok (.iinc 3 1, 3) := by decide +kernel
theorem d_Md_lay_122 : decode bc_Md_lay 122 = .ok (.aload_n 0, 1) := by decide +kernel
theorem d_Md_lay_123 : decode bc_Md_lay 123 = .ok (.getfield 172, 3) := by decide +kernel
theorem d_Md_lay_126 : decode bc_Md_lay 126 = .ok (.iload_n 3, 1) := by decide +kernel
theorem d_Md_lay_127 : decode bc_Md_lay 127 = .ok (.aload_n 0, 1) := by decide +kernel
theorem d_Md_lay_128 : decode bc_Md_lay 128 = .ok (.getfield 24, 3) := by decide +kernel
theorem d_Md_lay_131 : decode bc_Md_lay 131 = .ok (.iload 5, 2) := by decide +kernel
theorem d_Md_lay_133 : decode bc_Md_lay 133 = .ok (.iaload, 1) := by decide +kernel
theorem d_Md_lay_134 : decode bc_Md_lay 134 = .ok (.iastore, 1) := by decide +kernel
theorem d_Md_lay_135 : decode bc_Md_lay 135 = .ok (.iinc 3 1, 3) := by decide +kernel
theorem d_Md_lay_138 : decode bc_Md_lay 138 = .ok (.iinc 4 1, 3) := by decide +kernel
theorem d_Md_lay_141 : decode bc_Md_lay 141 = .ok (.goto (-129), 3) := by decide +kernel
theorem d_Md_lay_144 : decode bc_Md_lay 144 = .ok (.iload 4, 2) := by decide +kernel
theorem d_Md_lay_146 : decode bc_Md_lay 146 = .ok (.ireturn, 1) := by decide +kernel
abbrev bc_Md_end : ByteArray := prog_14_method_89_code
abbrev y_Md_end : MethodName := ⟨"KindRoundsModel", "end", "(I)I"⟩
theorem d_Md_end_0 : decode bc_Md_end 0 = .ok (.iconst 1, 1) := by decide +kernel
theorem d_Md_end_1 : decode bc_Md_end 1 = .ok (.istore_n 2, 1) := by decide +kernel
theorem d_Md_end_2 : decode bc_Md_end 2 = .ok (.iload_n 1, 1) := by decide +kernel
theorem d_Md_end_3 : decode bc_Md_end 3 = .ok (.istore_n 3, 1) := by decide +kernel
theorem d_Md_end_4 : decode bc_Md_end 4 = .ok (.iload_n 2, 1) := by decide +kernel
theorem d_Md_end_5 : decode bc_Md_end 5 = .ok (.ifCond .le 42, 3) := by decide +kernel
theorem d_Md_end_8 : decode bc_Md_end 8 = .ok (.iload_n 2, 1) := by decide +kernel
theorem d_Md_end_9 : decode bc_Md_end 9 = .ok (.aload_n 0, 1) := by decide +kernel
theorem d_Md_end_10 : decode bc_Md_end 10 = .ok (.getfield 190, 3) := by decide +kernel
theorem d_Md_end_13 : decode bc_Md_end 13 = .ok (.iload_n 3, 1) := by decide +kernel
theorem d_Md_end_14 : decode bc_Md_end 14 = .ok (.iaload, 1) := by decide +kernel
theorem d_Md_end_15 : decode bc_Md_end 15 = .ok (.bipush 10, 2) := by decide +kernel
theorem d_Md_end_17 : decode bc_Md_end 17 = .ok (.if_icmp .lt 7, 3) := by decide +kernel
theorem d_Md_end_20 : decode bc_Md_end 20 = .ok (.iconst (-1), 1) := by decide +kernel
theorem d_Md_end_21 : decode bc_Md_end 21 = .ok (.goto 18, 3) := by decide +kernel
theorem d_Md_end_24 : decode bc_Md_end 24 = .ok (.aload_n 0, 1) := by decide +kernel
theorem d_Md_end_25 : decode bc_Md_end 25 = .ok (.getfield 190, 3) := by decide +kernel
theorem d_Md_end_28 : decode bc_Md_end 28 = .ok (.iload_n 3, 1) := by decide +kernel
theorem d_Md_end_29 : decode bc_Md_end 29 = .ok (.iaload, 1) := by decide +kernel
theorem d_Md_end_30 : decode bc_Md_end 30 = .ok (.iconst 1, 1) := by decide +kernel
theorem d_Md_end_31 : decode bc_Md_end 31 = .ok (.if_icmp .ne 7, 3) := by decide +kernel
theorem d_Md_end_34 : decode bc_Md_end 34 = .ok (.iconst 0, 1) := by decide +kernel
theorem d_Md_end_35 : decode bc_Md_end 35 = .ok (.goto 4, 3) := by decide +kernel
theorem d_Md_end_38 : decode bc_Md_end 38 = .ok (.iconst 1, 1) := by decide +kernel
theorem d_Md_end_39 : decode bc_Md_end 39 = .ok (.iadd, 1) := by decide +kernel
theorem d_Md_end_40 : decode bc_Md_end 40 = .ok (.istore_n 2, 1) := by decide +kernel
theorem d_Md_end_41 : decode bc_Md_end 41 = .ok (.iinc 3 1, 3) := by decide +kernel
theorem d_Md_end_44 : decode bc_Md_end 44 = .ok (.goto (-40), 3) := by decide +kernel
theorem d_Md_end_47 : decode bc_Md_end 47 = .ok (.iload_n 3, 1) := by decide +kernel
theorem d_Md_end_48 : decode bc_Md_end 48 = .ok (.ireturn, 1) := by decide +kernel
abbrev bc_Md_synonym : ByteArray := prog_14_method_90_code
abbrev y_Md_synonym : MethodName := ⟨"KindRoundsModel", "synonym", "(I)I"⟩
theorem d_Md_synonym_0 : decode bc_Md_synonym 0 = .ok (.iload_n 1, 1) := by decide +kernel
theorem d_Md_synonym_1 : decode bc_Md_synonym 1 = .ok (.bipush 10, 2) := by decide +kernel
theorem d_Md_synonym_3 : decode bc_Md_synonym 3 = .ok (.if_icmp .lt 31, 3) := by decide +kernel
theorem d_Md_synonym_6 : decode bc_Md_synonym 6 = .ok (.aload_n 0, 1) := by decide +kernel
theorem d_Md_synonym_7 : decode bc_Md_synonym 7 = .ok (.getfield 17, 3) := by decide +kernel
theorem d_Md_synonym_10 : decode bc_Md_synonym 10 = .ok (.iload_n 1, 1) := by decide +kernel
theorem d_Md_synonym_11 : decode bc_Md_synonym 11 = .ok (.bipush 10, 2) := by decide +kernel
theorem d_Md_synonym_13 : decode bc_Md_synonym 13 = .ok (.isub, 1) := by decide +kernel
theorem d_Md_synonym_14 : decode bc_Md_synonym 14 = .ok (.iaload, 1) := by decide +kernel
theorem d_Md_synonym_15 : decode bc_Md_synonym 15 = .ok (.ifCond .ne 19, 3) := by decide +kernel
theorem d_Md_synonym_18 : decode bc_Md_synonym 18 = .ok (.aload_n 0, 1) := by decide +kernel
theorem d_Md_synonym_19 : decode bc_Md_synonym 19 = .ok (.aload_n 0, 1) := by decide +kernel
theorem d_Md_synonym_20 : decode bc_Md_synonym 20 = .ok (.getfield 20, 3) := by decide +kernel
theorem d_Md_synonym_23 : decode bc_Md_synonym 23 = .ok (.iload_n 1, 1) := by decide +kernel
theorem d_Md_synonym_24 : decode bc_Md_synonym 24 = .ok (.bipush 10, 2) := by decide +kernel
theorem d_Md_synonym_26 : decode bc_Md_synonym 26 = .ok (.isub, 1) := by decide +kernel
theorem d_Md_synonym_27 : decode bc_Md_synonym 27 = .ok (.laload, 1) := by decide +kernel
theorem d_Md_synonym_28 : decode bc_Md_synonym 28 = .ok (.invokevirtual 403, 3) := by decide +kernel
theorem d_Md_synonym_31 : decode bc_Md_synonym 31 = .ok (.goto 4, 3) := by decide +kernel
theorem d_Md_synonym_34 : decode bc_Md_synonym 34 = .ok (.iconst (-1), 1) := by decide +kernel
theorem d_Md_synonym_35 : decode bc_Md_synonym 35 = .ok (.istore_n 2, 1) := by decide +kernel
theorem d_Md_synonym_36 : decode bc_Md_synonym 36 = .ok (.iload_n 2, 1) := by decide +kernel
theorem d_Md_synonym_37 : decode bc_Md_synonym 37 = .ok (.ifCond .lt 17, 3) := by decide +kernel
theorem d_Md_synonym_40 : decode bc_Md_synonym 40 = .ok (.aload_n 0, 1) := by decide +kernel
theorem d_Md_synonym_41 : decode bc_Md_synonym 41 = .ok (.getfield 112, 3) := by decide +kernel
theorem d_Md_synonym_44 : decode bc_Md_synonym 44 = .ok (.iload_n 2, 1) := by decide +kernel
theorem d_Md_synonym_45 : decode bc_Md_synonym 45 = .ok (.iaload, 1) := by decide +kernel
theorem d_Md_synonym_46 : decode bc_Md_synonym 46 = .ok (.iconst 1, 1) := by decide +kernel
theorem d_Md_synonym_47 : decode bc_Md_synonym 47 = .ok (.if_icmp .ne 7, 3) := by decide +kernel
theorem d_Md_synonym_50 : decode bc_Md_synonym 50 = .ok (.iload_n 2, 1) := by decide +kernel
theorem d_Md_synonym_51 : decode bc_Md_synonym 51 = .ok (.goto 4, 3) := by decide +kernel
theorem d_Md_synonym_54 : decode bc_Md_synonym 54 = .ok (.iconst (-1), 1) := by decide +kernel
theorem d_Md_synonym_55 : decode bc_Md_synonym 55 = .ok (.ireturn, 1) := by decide +kernel
abbrev bc_Md_add : ByteArray := prog_14_method_91_code
abbrev y_Md_add : MethodName := ⟨"KindRoundsModel", "add", "(I)V"⟩
theorem d_Md_add_0 : decode bc_Md_add 0 = .ok (.aload_n 0, 1) := by decide +kernel
theorem d_Md_add_1 : decode bc_Md_add 1 = .ok (.dup, 1) := by decide +kernel
theorem d_Md_add_2 : decode bc_Md_add 2 = .ok (.getfield 549, 3) := by decide +kernel
theorem d_Md_add_5 : decode bc_Md_add 5 = .ok (.iload_n 1, 1) := by decide +kernel
theorem d_Md_add_6 : decode bc_Md_add 6 = .ok (.ifCond .eq 7, 3) := by decide +kernel
theorem d_Md_add_9 : decode bc_Md_add 9 = .ok (.iconst 1, 1) := by decide +kernel
theorem d_Md_add_10 : decode bc_Md_add 10 = .ok (.goto 4, 3) := by decide +kernel
theorem d_Md_add_13 : decode bc_Md_add 13 = .ok (.iconst 0, 1) := by decide +kernel
theorem d_Md_add_14 : decode bc_Md_add 14 = .ok (.iadd, 1) := by decide +kernel
theorem d_Md_add_15 : decode bc_Md_add 15 = .ok (.putfield 549, 3) := by decide +kernel
theorem d_Md_add_18 : decode bc_Md_add 18 = .ok (.aload_n 0, 1) := by decide +kernel
theorem d_Md_add_19 : decode bc_Md_add 19 = .ok (.getfield 552, 3) := by decide +kernel
theorem d_Md_add_22 : decode bc_Md_add 22 = .ok (.sipush 1100, 3) := by decide +kernel
theorem d_Md_add_25 : decode bc_Md_add 25 = .ok (.if_icmp .ge 13, 3) := by decide +kernel
theorem d_Md_add_28 : decode bc_Md_add 28 = .ok (.aload_n 0, 1) := by decide +kernel
theorem d_Md_add_29 : decode bc_Md_add 29 = .ok (.getfield 193, 3) := by decide +kernel
theorem d_Md_add_32 : decode bc_Md_add 32 = .ok (.aload_n 0, 1) := by decide +kernel
theorem d_Md_add_33 : decode bc_Md_add 33 = .ok (.getfield 552, 3) := by decide +kernel
theorem d_Md_add_36 : decode bc_Md_add 36 = .ok (.iload_n 1, 1) := by decide +kernel
theorem d_Md_add_37 : decode bc_Md_add 37 = .ok (.iastore, 1) := by decide +kernel
theorem d_Md_add_38 : decode bc_Md_add 38 = .ok (.aload_n 0, 1) := by decide +kernel
theorem d_Md_add_39 : decode bc_Md_add 39 = .ok (.dup, 1) := by decide +kernel
theorem d_Md_add_40 : decode bc_Md_add 40 = .ok (.getfield 552, 3) := by decide +kernel
theorem d_Md_add_43 : decode bc_Md_add 43 = .ok (.iconst 1, 1) := by decide +kernel
theorem d_Md_add_44 : decode bc_Md_add 44 = .ok (.iadd, 1) := by decide +kernel
theorem d_Md_add_45 : decode bc_Md_add 45 = .ok (.putfield 552, 3) := by decide +kernel
theorem d_Md_add_48 : decode bc_Md_add 48 = .ok (.return_, 1) := by decide +kernel
abbrev bc_Md_addSpan : ByteArray := prog_14_method_92_code
abbrev y_Md_addSpan : MethodName := ⟨"KindRoundsModel", "addSpan", "(II)V"⟩
theorem d_Md_addSpan_0 : decode bc_Md_addSpan 0 = .ok (.iload_n 1, 1) := by decide +kernel
theorem d_Md_addSpan_1 : decode bc_Md_addSpan 1 = .ok (.istore_n 3, 1) := by decide +kernel
theorem d_Md_addSpan_2 : decode bc_Md_addSpan 2 = .ok (.iload_n 3, 1) := by decide +kernel
theorem d_Md_addSpan_3 : decode bc_Md_addSpan 3 = .ok (.iload_n 2, 1) := by decide +kernel
theorem d_Md_addSpan_4 : decode bc_Md_addSpan 4 = .ok (.if_icmp .ge 29, 3) := by decide +kernel
theorem d_Md_addSpan_7 : decode bc_Md_addSpan 7 = .ok (.aload_n 0, 1) := by decide +kernel
theorem d_Md_addSpan_8 : decode bc_Md_addSpan 8 = .ok (.getfield 549, 3) := by decide +kernel
theorem d_Md_addSpan_11 : decode bc_Md_addSpan 11 = .ok (.sipush 200, 3) := by decide +kernel
theorem d_Md_addSpan_14 : decode bc_Md_addSpan 14 = .ok (.if_icmp .gt 19, 3) := by decide +kernel
theorem d_Md_addSpan_17 : decode bc_Md_addSpan 17 = .ok (.aload_n 0, 1) := by decide +kernel
theorem d_Md_addSpan_18 : decode bc_Md_addSpan 18 = .ok (.aload_n 0, 1) := by decide +kernel
theorem d_Md_addSpan_19 : decode bc_Md_addSpan 19 = .ok (.getfield 190, 3) := by decide +kernel
theorem d_Md_addSpan_22 : decode bc_Md_addSpan 22 = .ok (.iload_n 3, 1) := by decide +kernel
theorem d_Md_addSpan_23 : decode bc_Md_addSpan 23 = .ok (.iaload, 1) := by decide +kernel
theorem d_Md_addSpan_24 : decode bc_Md_addSpan 24 = .ok (.invokevirtual 555, 3) := by decide +kernel
theorem d_Md_addSpan_27 : decode bc_Md_addSpan 27 = .ok (.iinc 3 1, 3) := by decide +kernel
theorem d_Md_addSpan_30 : decode bc_Md_addSpan 30 = .ok (.goto (-28), 3) := by decide +kernel
theorem d_Md_addSpan_33 : decode bc_Md_addSpan 33 = .ok (.return_, 1) := by decide +kernel
abbrev bc_Md_behind : ByteArray := prog_14_method_93_code
abbrev y_Md_behind : MethodName := ⟨"KindRoundsModel", "behind", "(II)I"⟩
theorem d_Md_behind_0 : decode bc_Md_behind 0 = .ok (.iload_n 1, 1) := by decide +kernel
theorem d_Md_behind_1 : decode bc_Md_behind 1 = .ok (.iconst 1, 1) := by decide +kernel
theorem d_Md_behind_2 : decode bc_Md_behind 2 = .ok (.iadd, 1) := by decide +kernel
theorem d_Md_behind_3 : decode bc_Md_behind 3 = .ok (.istore_n 3, 1) := by decide +kernel
theorem d_Md_behind_4 : decode bc_Md_behind 4 = .ok (.iconst 0, 1) := by decide +kernel
theorem d_Md_behind_5 : decode bc_Md_behind 5 = .ok (.istore 4, 2) := by decide +kernel
theorem d_Md_behind_7 : decode bc_Md_behind 7 = .ok (.iload 4, 2) := by decide +kernel
theorem d_Md_behind_9 : decode bc_Md_behind 9 = .ok (.iload_n 2, 1) := by decide +kernel
theorem d_Md_behind_10 : decode bc_Md_behind 10 = .ok (.if_icmp .ge 15, 3) := by decide +kernel
theorem d_Md_behind_13 : decode bc_Md_behind 13 = .ok (.aload_n 0, 1) := by decide +kernel
theorem d_Md_behind_14 : decode bc_Md_behind 14 = .ok (.iload_n 3, 1) := by decide +kernel
theorem d_Md_behind_15 : decode bc_Md_behind 15 = .ok (.invokevirtual 558, 3) := by decide +kernel
theorem d_Md_behind_18 : decode bc_Md_behind 18 = .ok (.istore_n 3, 1) := by decide +kernel
theorem d_Md_behind_19 : decode bc_Md_behind 19 = .ok (.iinc 4 1, 3) := by decide +kernel
theorem d_Md_behind_22 : decode bc_Md_behind 22 = .ok (.goto (-15), 3) := by decide +kernel
theorem d_Md_behind_25 : decode bc_Md_behind 25 = .ok (.iload_n 3, 1) := by decide +kernel
theorem d_Md_behind_26 : decode bc_Md_behind 26 = .ok (.ireturn, 1) := by decide +kernel
abbrev bc_Md_replace : ByteArray := prog_14_method_94_code
abbrev y_Md_replace : MethodName := ⟨"KindRoundsModel", "replace", "(II)V"⟩
theorem d_Md_replace_0 : decode bc_Md_replace 0 = .ok (.aload_n 0, 1) := by decide +kernel
theorem d_Md_replace_1 : decode bc_Md_replace 1 = .ok (.iconst 0, 1) := by decide +kernel
theorem d_Md_replace_2 : decode bc_Md_replace 2 = .ok (.putfield 552, 3) := by decide +kernel
theorem d_Md_replace_5 : decode bc_Md_replace 5 = .ok (.aload_n 0, 1) := by decide +kernel
theorem d_Md_replace_6 : decode bc_Md_replace 6 = .ok (.iconst 0, 1) := by decide +kernel
theorem d_Md_replace_7 : decode bc_Md_replace 7 = .ok (.putfield 549, 3) := by decide +kernel
theorem d_Md_replace_10 : decode bc_Md_replace 10 = .ok (.aload_n 0, 1) := by decide +kernel
theorem d_Md_replace_11 : decode bc_Md_replace 11 = .ok (.iconst 0, 1) := by decide +kernel
theorem d_Md_replace_12 : decode bc_Md_replace 12 = .ok (.iload_n 1, 1) := by decide +kernel
theorem d_Md_replace_13 : decode bc_Md_replace 13 = .ok (.aload_n 0, 1) := by decide +kernel
theorem d_Md_replace_14 : decode bc_Md_replace 14 = .ok (.getfield 121, 3) := by decide +kernel
theorem d_Md_replace_17 : decode bc_Md_replace 17 = .ok (.iload_n 2, 1) := by decide +kernel
theorem d_Md_replace_18 : decode bc_Md_replace 18 = .ok (.iaload, 1) := by decide +kernel
theorem d_Md_replace_19 : decode bc_Md_replace 19 = .ok (.isub, 1) := by decide +kernel
theorem d_Md_replace_20 : decode bc_Md_replace 20 = .ok (.invokevirtual 561, 3) := by decide +kernel
theorem d_Md_replace_23 : decode bc_Md_replace 23 = .ok (.aload_n 0, 1) := by decide +kernel
theorem d_Md_replace_24 : decode bc_Md_replace 24 = .ok (.aload_n 0, 1) := by decide +kernel
theorem d_Md_replace_25 : decode bc_Md_replace 25 = .ok (.getfield 136, 3) := by decide +kernel
theorem d_Md_replace_28 : decode bc_Md_replace 28 = .ok (.iload_n 2, 1) := by decide +kernel
theorem d_Md_replace_29 : decode bc_Md_replace 29 = .ok (.iaload, 1) := by decide +kernel
theorem d_Md_replace_30 : decode bc_Md_replace 30 = .ok (.aload_n 0, 1) := by decide +kernel
theorem d_Md_replace_31 : decode bc_Md_replace 31 = .ok (.getfield 196, 3) := by decide +kernel
theorem d_Md_replace_34 : decode bc_Md_replace 34 = .ok (.invokevirtual 564, 3) := by decide +kernel
theorem d_Md_replace_37 : decode bc_Md_replace 37 = .ok (.istore_n 3, 1) := by decide +kernel
theorem d_Md_replace_38 : decode bc_Md_replace 38 = .ok (.iconst 0, 1) := by decide +kernel
theorem d_Md_replace_39 : decode bc_Md_replace 39 = .ok (.istore 4, 2) := by decide +kernel
theorem d_Md_replace_41 : decode bc_Md_replace 41 = .ok (.iload 4, 2) := by decide +kernel
theorem d_Md_replace_43 : decode bc_Md_replace 43 = .ok (.iload_n 3, 1) := by decide +kernel
theorem d_Md_replace_44 : decode bc_Md_replace 44 = .ok (.if_icmp .ge 142, 3) := by decide +kernel
theorem d_Md_replace_47 : decode bc_Md_replace 47 = .ok (.aload_n 0, 1) := by decide +kernel
theorem d_Md_replace_48 : decode bc_Md_replace 48 = .ok (.getfield 549, 3) := by decide +kernel
theorem d_Md_replace_51 : decode bc_Md_replace 51 = .ok (.sipush 200, 3) := by decide +kernel
theorem d_Md_replace_54 : decode bc_Md_replace 54 = .ok (.if_icmp .gt 132, 3) := by decide +kernel
theorem d_Md_replace_57 : decode bc_Md_replace 57 = .ok (.aload_n 0, 1) := by decide +kernel
theorem d_Md_replace_58 : decode bc_Md_replace 58 = .ok (.getfield 196, 3) := by decide +kernel
theorem d_Md_replace_61 : decode bc_Md_replace 61 = .ok (.iload 4, 2) := by decide +kernel
theorem d_Md_replace_63 : decode bc_Md_replace 63 = .ok (.iaload, 1) := by decide +kernel
theorem d_Md_replace_64 : decode bc_Md_replace 64 = .ok (.istore 5, 2) := by decide +kernel
theorem d_Md_replace_66 : decode bc_Md_replace 66 = .ok (.iconst (-1), 1) := by decide +kernel
theorem d_Md_replace_67 : decode bc_Md_replace 67 = .ok (.istore 6, 2) := by decide +kernel
theorem d_Md_replace_69 : decode bc_Md_replace 69 = .ok (.iconst 0, 1) := by decide +kernel
theorem d_Md_replace_70 : decode bc_Md_replace 70 = .ok (.istore 7, 2) := by decide +kernel
theorem d_Md_replace_72 : decode bc_Md_replace 72 = .ok (.iload 7, 2) := by decide +kernel
theorem d_Md_replace_74 : decode bc_Md_replace 74 = .ok (.aload_n 0, 1) := by decide +kernel
theorem d_Md_replace_75 : decode bc_Md_replace 75 = .ok (.getfield 121, 3) := by decide +kernel
theorem d_Md_replace_78 : decode bc_Md_replace 78 = .ok (.iload_n 2, 1) := by decide +kernel
theorem d_Md_replace_79 : decode bc_Md_replace 79 = .ok (.iaload, 1) := by decide +kernel
theorem d_Md_replace_80 : decode bc_Md_replace 80 = .ok (.if_icmp .ge 64, 3) := by decide +kernel
theorem d_Md_replace_83 : decode bc_Md_replace 83 = .ok (.iload 5, 2) := by decide +kernel
theorem d_Md_replace_85 : decode bc_Md_replace 85 = .ok (.bipush 10, 2) := by decide +kernel
theorem d_Md_replace_87 : decode bc_Md_replace 87 = .ok (.if_icmp .lt 57, 3) := by decide +kernel
theorem d_Md_replace_90 : decode bc_Md_replace 90 = .ok (.aload_n 0, 1) := by decide +kernel
theorem d_Md_replace_91 : decode bc_Md_replace 91 = .ok (.getfield 17, 3) := by decide +kernel
theorem d_Md_replace_94 : decode bc_Md_replace 94 = .ok (.iload 5, 2) := by decide +kernel
theorem d_Md_replace_96 : decode bc_Md_replace 96 = .ok (.bipush 10, 2) := by decide +kernel
theorem d_Md_replace_98 : decode bc_Md_replace 98 = .ok (.isub, 1) := by decide +kernel
theorem d_Md_replace_99 : decode bc_Md_replace 99 = .ok (.iaload, 1) := by decide +kernel
theorem d_Md_replace_100 : decode bc_Md_replace 100 = .ok (.iconst 1, 1) := by decide +kernel
theorem d_Md_replace_101 : decode bc_Md_replace 101 = .ok (.if_icmp .ne 43, 3) := by decide +kernel
theorem d_Md_replace_104 : decode bc_Md_replace 104 = .ok (.aload_n 0, 1) := by decide +kernel
theorem d_Md_replace_105 : decode bc_Md_replace 105 = .ok (.getfield 124, 3) := by decide +kernel
theorem d_Md_replace_108 : decode bc_Md_replace 108 = .ok (.iconst 3, 1) := by decide +kernel
theorem d_Md_replace_109 : decode bc_Md_replace 109 = .ok (.iload_n 2, 1) := by decide +kernel
theorem d_Md_replace_110 : decode bc_Md_replace 110 = .ok (.imul, 1) := by decide +kernel
theorem d_Md_replace_111 : decode bc_Md_replace 111 = .ok (.iload 7, 2) := by decide +kernel
theorem d_Md_replace_113 : decode bc_Md_replace 113 = .ok (.iadd, 1) := by decide +kernel
theorem d_Md_replace_114 : decode bc_Md_replace 114 = .ok (.laload, 1) := by decide +kernel
theorem d_Md_replace_115 : decode bc_Md_replace 115 = .ok (.aload_n 0, 1) := by decide +kernel
theorem d_Md_replace_116 : decode bc_Md_replace 116 = .ok (.getfield 20, 3) := by decide +kernel
theorem d_Md_replace_119 : decode bc_Md_replace 119 = .ok (.iload 5, 2) := by decide +kernel
theorem d_Md_replace_121 : decode bc_Md_replace 121 = .ok (.bipush 10, 2) := by decide +kernel
theorem d_Md_replace_123 : decode bc_Md_replace 123 = .ok (.isub, 1) := by decide +kernel
theorem d_Md_replace_124 : decode bc_Md_replace 124 = .ok (.laload, 1) := by decide +kernel
theorem d_Md_replace_125 : decode bc_Md_replace 125 = .ok (.lcmp, 1) := by decide +kernel
theorem d_Md_replace_126 : decode bc_Md_replace 126 = .ok (.ifCond .ne 8, 3) := by decide +kernel
theorem d_Md_replace_129 : decode bc_Md_replace 129 = .ok (.iload 7, 2) := by decide +kernel
theorem d_Md_replace_131 : decode bc_Md_replace 131 = .ok (.goto 5, 3) := by decide +kernel
theorem d_Md_replace_134 : decode bc_Md_replace 134 = .ok (.iload 6, 2) := by decide +kernel
theorem d_Md_replace_136 : decode bc_Md_replace 136 = .ok (.istore 6, 2) := by decide +kernel
theorem d_Md_replace_138 : decode bc_Md_replace 138 = .ok (.iinc 7 1, 3) := by decide +kernel
theorem d_Md_replace_141 : decode bc_Md_replace 141 = .ok (.goto (-69), 3) := by decide +kernel
theorem d_Md_replace_144 : decode bc_Md_replace 144 = .ok (.iload 6, 2) := by decide +kernel
theorem d_Md_replace_146 : decode bc_Md_replace 146 = .ok (.ifCond .ge 12, 3) := by decide +kernel
theorem d_Md_replace_149 : decode bc_Md_replace 149 = .ok (.aload_n 0, 1) := by decide +kernel
theorem d_Md_replace_150 : decode bc_Md_replace 150 = .ok (.iload 5, 2) := by decide +kernel
theorem d_Md_replace_152 : decode bc_Md_replace 152 = .ok (.invokevirtual 555, 3) := by decide +kernel
theorem d_Md_replace_155 : decode bc_Md_replace 155 = .ok (.goto 25, 3) := by decide +kernel
theorem d_Md_replace_158 : decode bc_Md_replace 158 = .ok (.aload_n 0, 1) := by decide +kernel
theorem d_Md_replace_159 : decode bc_Md_replace 159 = .ok (.aload_n 0, 1) := by decide +kernel
theorem d_Md_replace_160 : decode bc_Md_replace 160 = .ok (.iload_n 1, 1) := by decide +kernel
theorem d_Md_replace_161 : decode bc_Md_replace 161 = .ok (.iload 6, 2) := by decide +kernel
theorem d_Md_replace_163 : decode bc_Md_replace 163 = .ok (.invokevirtual 568, 3) := by decide +kernel
theorem d_Md_replace_166 : decode bc_Md_replace 166 = .ok (.aload_n 0, 1) := by decide +kernel
theorem d_Md_replace_167 : decode bc_Md_replace 167 = .ok (.aload_n 0, 1) := by decide +kernel
theorem d_Md_replace_168 : decode bc_Md_replace 168 = .ok (.iload_n 1, 1) := by decide +kernel
theorem d_Md_replace_169 : decode bc_Md_replace 169 = .ok (.iload 6, 2) := by decide +kernel
theorem d_Md_replace_171 : decode bc_Md_replace 171 = .ok (.invokevirtual 568, 3) := by decide +kernel
theorem d_Md_replace_174 : decode bc_Md_replace 174 = .ok (.invokevirtual 558, 3) := by decide +kernel
theorem d_Md_replace_177 : decode bc_Md_replace 177 = .ok (.invokevirtual 561, 3) := by decide +kernel
theorem d_Md_replace_180 : decode bc_Md_replace 180 = .ok (.iinc 4 1, 3) := by decide +kernel
theorem d_Md_replace_183 : decode bc_Md_replace 183 = .ok (.goto (-142), 3) := by decide +kernel
theorem d_Md_replace_186 : decode bc_Md_replace 186 = .ok (.aload_n 0, 1) := by decide +kernel
theorem d_Md_replace_187 : decode bc_Md_replace 187 = .ok (.aload_n 0, 1) := by decide +kernel
theorem d_Md_replace_188 : decode bc_Md_replace 188 = .ok (.iload_n 1, 1) := by decide +kernel
theorem d_Md_replace_189 : decode bc_Md_replace 189 = .ok (.aload_n 0, 1) := by decide +kernel
theorem d_Md_replace_190 : decode bc_Md_replace 190 = .ok (.getfield 121, 3) := by decide +kernel
theorem d_Md_replace_193 : decode bc_Md_replace 193 = .ok (.iload_n 2, 1) := by decide +kernel
theorem d_Md_replace_194 : decode bc_Md_replace 194 = .ok (.iaload, 1) := by decide +kernel
theorem d_Md_replace_195 : decode bc_Md_replace 195 = .ok (.invokevirtual 568, 3) := by decide +kernel
theorem d_Md_replace_198 : decode bc_Md_replace 198 = .ok (.aload_n 0, 1) := by decide +kernel
theorem d_Md_replace_199 : decode bc_Md_replace 199 = .ok (.getfield 571, 3) := by decide +kernel
theorem d_Md_replace_202 : decode bc_Md_replace 202 = .ok (.invokevirtual 561, 3) := by decide +kernel
theorem d_Md_replace_205 : decode bc_Md_replace 205 = .ok (.iconst 0, 1) := by decide +kernel
theorem d_Md_replace_206 : decode bc_Md_replace 206 = .ok (.istore 4, 2) := by decide +kernel
theorem d_Md_replace_208 : decode bc_Md_replace 208 = .ok (.iload 4, 2) := by decide +kernel
theorem d_Md_replace_210 : decode bc_Md_replace 210 = .ok (.aload_n 0, 1) := by decide +kernel
theorem d_Md_replace_211 : decode bc_Md_replace 211 = .ok (.getfield 552, 3) := by decide +kernel
theorem d_Md_replace_214 : decode bc_Md_replace 214 = .ok (.if_icmp .ge 33, 3) := by decide +kernel
theorem d_Md_replace_217 : decode bc_Md_replace 217 = .ok (.aload_n 0, 1) := by decide +kernel
theorem d_Md_replace_218 : decode bc_Md_replace 218 = .ok (.getfield 549, 3) := by decide +kernel
theorem d_Md_replace_221 : decode bc_Md_replace 221 = .ok (.sipush 200, 3) := by decide +kernel
theorem d_Md_replace_224 : decode bc_Md_replace 224 = .ok (.if_icmp .gt 23, 3) := by decide +kernel
theorem d_Md_replace_227 : decode bc_Md_replace 227 = .ok (.aload_n 0, 1) := by decide +kernel
theorem d_Md_replace_228 : decode bc_Md_replace 228 = .ok (.getfield 190, 3) := by decide +kernel
theorem d_Md_replace_231 : decode bc_Md_replace 231 = .ok (.iload 4, 2) := by decide +kernel
theorem d_Md_replace_233 : decode bc_Md_replace 233 = .ok (.aload_n 0, 1) := by decide +kernel
theorem d_Md_replace_234 : decode bc_Md_replace 234 = .ok (.getfield 193, 3) := by decide +kernel
theorem d_Md_replace_237 : decode bc_Md_replace 237 = .ok (.iload 4, 2) := by decide +kernel
theorem d_Md_replace_239 : decode bc_Md_replace 239 = .ok (.iaload, 1) := by decide +kernel
theorem d_Md_replace_240 : decode bc_Md_replace 240 = .ok (.iastore, 1) := by decide +kernel
theorem d_Md_replace_241 : decode bc_Md_replace 241 = .ok (.iinc 4 1, 3) := by decide +kernel
theorem d_Md_replace_244 : decode bc_Md_replace 244 = .ok (.goto (-36), 3) := by decide +kernel
theorem d_Md_replace_247 : decode bc_Md_replace 247 = .ok (.aload_n 0, 1) := by decide +kernel
theorem d_Md_replace_248 : decode bc_Md_replace 248 = .ok (.aload_n 0, 1) := by decide +kernel
theorem d_Md_replace_249 : decode bc_Md_replace 249 = .ok (.getfield 552, 3) := by decide +kernel
theorem d_Md_replace_252 : decode bc_Md_replace 252 = .ok (.putfield 571, 3) := by decide +kernel
theorem d_Md_replace_255 : decode bc_Md_replace 255 = .ok (.return_, 1) := by decide +kernel
abbrev bc_Md_isPlain : ByteArray := prog_14_method_95_code
abbrev y_Md_isPlain : MethodName := ⟨"KindRoundsModel", "isPlain", "(I)Z"⟩
theorem d_Md_isPlain_0 : decode bc_Md_isPlain 0 = .ok (.aload_n 0, 1) := by decide +kernel
theorem d_Md_isPlain_1 : decode bc_Md_isPlain 1 = .ok (.aload_n 0, 1) := by decide +kernel
theorem d_Md_isPlain_2 : decode bc_Md_isPlain 2 = .ok (.iload_n 1, 1) := by decide +kernel
theorem d_Md_isPlain_3 : decode bc_Md_isPlain 3 = .ok (.aload_n 0, 1) := by decide +kernel
theorem d_Md_isPlain_4 : decode bc_Md_isPlain 4 = .ok (.getfield 190, 3) := by decide +kernel
theorem d_Md_isPlain_7 : decode bc_Md_isPlain 7 = .ok (.invokevirtual 564, 3) := by decide +kernel
theorem d_Md_isPlain_10 : decode bc_Md_isPlain 10 = .ok (.putfield 571, 3) := by decide +kernel
theorem d_Md_isPlain_13 : decode bc_Md_isPlain 13 = .ok (.iconst 0, 1) := by decide +kernel
theorem d_Md_isPlain_14 : decode bc_Md_isPlain 14 = .ok (.istore_n 2, 1) := by decide +kernel
theorem d_Md_isPlain_15 : decode bc_Md_isPlain 15 = .ok (.iconst 0, 1) := by decide +kernel
theorem d_Md_isPlain_16 : decode bc_Md_isPlain 16 = .ok (.istore_n 3, 1) := by decide +kernel
theorem d_Md_isPlain_17 : decode bc_Md_isPlain 17 = .ok (.iload_n 3, 1) := by decide +kernel
theorem d_Md_isPlain_18 : decode bc_Md_isPlain 18 = .ok (.aload_n 0, 1) := by decide +kernel
theorem d_Md_isPlain_19 : decode bc_Md_isPlain 19 = .ok (.getfield 571, 3) := by decide +kernel
theorem d_Md_isPlain_22 : decode bc_Md_isPlain 22 = .ok (.if_icmp .ge 62, 3) := by decide +kernel
theorem d_Md_isPlain_25 : decode bc_Md_isPlain 25 = .ok (.aload_n 0, 1) := by decide +kernel
theorem d_Md_isPlain_26 : decode bc_Md_isPlain 26 = .ok (.aload_n 0, 1) := by decide +kernel
theorem d_Md_isPlain_27 : decode bc_Md_isPlain 27 = .ok (.getfield 190, 3) := by decide +kernel
theorem d_Md_isPlain_30 : decode bc_Md_isPlain 30 = .ok (.iload_n 3, 1) := by decide +kernel
theorem d_Md_isPlain_31 : decode bc_Md_isPlain 31 = .ok (.iaload, 1) := by decide +kernel
theorem d_Md_isPlain_32 : decode bc_Md_isPlain 32 = .ok (.invokevirtual 574, 3) := by decide +kernel
theorem d_Md_isPlain_35 : decode bc_Md_isPlain 35 = .ok (.istore 4, 2) := by decide +kernel
theorem d_Md_isPlain_37 : decode bc_Md_isPlain 37 = .ok (.iload 4, 2) := by decide +kernel
theorem d_Md_isPlain_39 : decode bc_Md_isPlain 39 = .ok (.ifCond .ge 9, 3) := by decide +kernel
theorem d_Md_isPlain_42 : decode bc_Md_isPlain 42 = .ok (.iinc 3 1, 3) := by decide +kernel
theorem d_Md_isPlain_45 : decode bc_Md_isPlain 45 = .ok (.goto (-28), 3) := by decide +kernel
theorem d_Md_isPlain_48 : decode bc_Md_isPlain 48 = .ok (.iinc 2 1, 3) := by decide +kernel
theorem d_Md_isPlain_51 : decode bc_Md_isPlain 51 = .ok (.iload_n 2, 1) := by decide +kernel
theorem d_Md_isPlain_52 : decode bc_Md_isPlain 52 = .ok (.sipush 300, 3) := by decide +kernel
theorem d_Md_isPlain_55 : decode bc_Md_isPlain 55 = .ok (.if_icmp .le 5, 3) := by decide +kernel
theorem d_Md_isPlain_58 : decode bc_Md_isPlain 58 = .ok (.iconst 0, 1) := by decide +kernel
theorem d_Md_isPlain_59 : decode bc_Md_isPlain 59 = .ok (.ireturn, 1) := by decide +kernel
theorem d_Md_isPlain_60 : decode bc_Md_isPlain 60 = .ok (.aload_n 0, 1) := by decide +kernel
theorem d_Md_isPlain_61 : decode bc_Md_isPlain 61 = .ok (.iload_n 3, 1) := by decide +kernel
theorem d_Md_isPlain_62 : decode bc_Md_isPlain 62 = .ok (.iload 4, 2) := by decide +kernel
theorem d_Md_isPlain_64 : decode bc_Md_isPlain 64 = .ok (.invokevirtual 577, 3) := by decide +kernel
theorem d_Md_isPlain_67 : decode bc_Md_isPlain 67 = .ok (.aload_n 0, 1) := by decide +kernel
theorem d_Md_isPlain_68 : decode bc_Md_isPlain 68 = .ok (.getfield 549, 3) := by decide +kernel
theorem d_Md_isPlain_71 : decode bc_Md_isPlain 71 = .ok (.sipush 200, 3) := by decide +kernel
theorem d_Md_isPlain_74 : decode bc_Md_isPlain 74 = .ok (.if_icmp .le 5, 3) := by decide +kernel
theorem d_Md_isPlain_77 : decode bc_Md_isPlain 77 = .ok (.iconst 0, 1) := by decide +kernel
theorem d_Md_isPlain_78 : decode bc_Md_isPlain 78 = .ok (.ireturn, 1) := by decide +kernel
theorem d_Md_isPlain_79 : decode bc_Md_isPlain 79 = .ok (.iconst 0, 1) := by decide +kernel
theorem d_Md_isPlain_80 : decode bc_Md_isPlain 80 = .ok (.istore_n 3, 1) := by decide +kernel
theorem d_Md_isPlain_81 : decode bc_Md_isPlain 81 = .ok (.goto (-64), 3) := by decide +kernel
theorem d_Md_isPlain_84 : decode bc_Md_isPlain 84 = .ok (.iconst 1, 1) := by decide +kernel
theorem d_Md_isPlain_85 : decode bc_Md_isPlain 85 = .ok (.ireturn, 1) := by decide +kernel
abbrev bc_Md_putName : ByteArray := prog_14_method_96_code
abbrev y_Md_putName : MethodName := ⟨"KindRoundsModel", "putName", "(I)V"⟩
theorem d_Md_putName_0 : decode bc_Md_putName 0 = .ok (.bipush 56, 2) := by decide +kernel
theorem d_Md_putName_2 : decode bc_Md_putName 2 = .ok (.istore_n 2, 1) := by decide +kernel
theorem d_Md_putName_3 : decode bc_Md_putName 3 = .ok (.iload_n 2, 1) := by decide +kernel
theorem d_Md_putName_4 : decode bc_Md_putName 4 = .ok (.ifCond .lt 32, 3) := by decide +kernel
theorem d_Md_putName_7 : decode bc_Md_putName 7 = .ok (.aload_n 0, 1) := by decide +kernel
theorem d_Md_putName_8 : decode bc_Md_putName 8 = .ok (.getfield 20, 3) := by decide +kernel
theorem d_Md_putName_11 : decode bc_Md_putName 11 = .ok (.iload_n 1, 1) := by decide +kernel
theorem d_Md_putName_12 : decode bc_Md_putName 12 = .ok (.laload, 1) := by decide +kernel
theorem d_Md_putName_13 : decode bc_Md_putName 13 = .ok (.iload_n 2, 1) := by decide +kernel
theorem d_Md_putName_14 : decode bc_Md_putName 14 = .ok (.lushr, 1) := by decide +kernel
theorem d_Md_putName_15 : decode bc_Md_putName 15 = .ok (.ldc2_w 580, 3) := by decide +kernel
theorem d_Md_putName_18 : decode bc_Md_putName 18 = .ok (.land, 1) := by decide +kernel
theorem d_Md_putName_19 : decode bc_Md_putName 19 = .ok (.l2i, 1) := by decide +kernel
theorem d_Md_putName_20 : decode bc_Md_putName 20 = .ok (.istore_n 3, 1) := by decide +kernel
theorem d_Md_putName_21 : decode bc_Md_putName 21 = .ok (.iload_n 3, 1) := by decide +kernel
theorem d_Md_putName_22 : decode bc_Md_putName 22 = .ok (.ifCond .le 8, 3) := by decide +kernel
theorem d_Md_putName_25 : decode bc_Md_putName 25 = .ok (.aload_n 0, 1) := by decide +kernel
theorem d_Md_putName_26 : decode bc_Md_putName 26 = .ok (.iload_n 3, 1) := by decide +kernel
theorem d_Md_putName_27 : decode bc_Md_putName 27 = .ok (.invokevirtual 500, 3) := by decide +kernel
theorem d_Md_putName_30 : decode bc_Md_putName 30 = .ok (.iinc 2 (-8), 3) := by decide +kernel
theorem d_Md_putName_33 : decode bc_Md_putName 33 = .ok (.goto (-30), 3) := by decide +kernel
theorem d_Md_putName_36 : decode bc_Md_putName 36 = .ok (.return_, 1) := by decide +kernel
abbrev bc_Md_layRowOut : ByteArray := prog_14_method_97_code
abbrev y_Md_layRowOut : MethodName := ⟨"KindRoundsModel", "layRowOut", "()V"⟩
theorem d_Md_layRowOut_0 : decode bc_Md_layRowOut 0 = .ok (.aload_n 0, 1) := by decide +kernel
theorem d_Md_layRowOut_1 : decode bc_Md_layRowOut 1 = .ok (.iconst 0, 1) := by decide +kernel
theorem d_Md_layRowOut_2 : decode bc_Md_layRowOut 2 = .ok (.putfield 491, 3) := by decide +kernel
theorem d_Md_layRowOut_5 : decode bc_Md_layRowOut 5 = .ok (.iconst 1, 1) := by decide +kernel
theorem d_Md_layRowOut_6 : decode bc_Md_layRowOut 6 = .ok (.istore_n 1, 1) := by decide +kernel
theorem d_Md_layRowOut_7 : decode bc_Md_layRowOut 7 = .ok (.aload_n 0, 1) := by decide +kernel
theorem d_Md_layRowOut_8 : decode bc_Md_layRowOut 8 = .ok (.getfield 172, 3) := by decide +kernel
theorem d_Md_layRowOut_11 : decode bc_Md_layRowOut 11 = .ok (.iconst 0, 1) := by decide +kernel
theorem d_Md_layRowOut_12 : decode bc_Md_layRowOut 12 = .ok (.iconst 0, 1) := by decide +kernel
theorem d_Md_layRowOut_13 : decode bc_Md_layRowOut 13 = .ok (.iastore, 1) := by decide +kernel
theorem d_Md_layRowOut_14 : decode bc_Md_layRowOut 14 = .ok (.iload_n 1, 1) := by decide +kernel
theorem d_Md_layRowOut_15 : decode bc_Md_layRowOut 15 = .ok (.ifCond .le 53, 3) := by decide +kernel
theorem d_Md_layRowOut_18 : decode bc_Md_layRowOut 18 = .ok (.iinc 1 (-1), 3) := by decide +kernel
theorem d_Md_layRowOut_21 : decode bc_Md_layRowOut 21 = .ok (.aload_n 0, 1) := by decide +kernel
theorem d_Md_layRowOut_22 : decode bc_Md_layRowOut 22 = .ok (.getfield 172, 3) := by decide +kernel
theorem d_Md_layRowOut_25 : decode bc_Md_layRowOut 25 = .ok (.iload_n 1, 1) := by decide +kernel
theorem d_Md_layRowOut_26 : decode bc_Md_layRowOut 26 = .ok (.iaload, 1) := by decide +kernel
theorem d_Md_layRowOut_27 : decode bc_Md_layRowOut 27 = .ok (.istore_n 2, 1) := by decide +kernel
theorem d_Md_layRowOut_28 : decode bc_Md_layRowOut 28 = .ok (.iload_n 2, 1) := by decide +kernel
theorem d_Md_layRowOut_29 : decode bc_Md_layRowOut 29 = .ok (.ifCond .ge 24, 3) := by decide +kernel
theorem d_Md_layRowOut_32 : decode bc_Md_layRowOut 32 = .ok (.aload_n 0, 1) := by decide +kernel
theorem d_Md_layRowOut_33 : decode bc_Md_layRowOut 33 = .ok (.iload_n 2, 1) := by decide +kernel
theorem d_Md_layRowOut_34 : decode bc_Md_layRowOut 34 = .ok (.ineg, 1) := by decide +kernel
theorem d_Md_layRowOut_35 : decode bc_Md_layRowOut 35 = .ok (.invokevirtual 500, 3) := by decide +kernel
theorem d_Md_layRowOut_38 : decode bc_Md_layRowOut 38 = .ok (.iload_n 2, 1) := by decide +kernel
theorem d_Md_layRowOut_39 : decode bc_Md_layRowOut 39 = .ok (.bipush (-45), 2) := by decide +kernel
theorem d_Md_layRowOut_41 : decode bc_Md_layRowOut 41 = .ok (.if_icmp .ne 24, 3) := by decide +kernel
theorem d_Md_layRowOut_44 : decode bc_Md_layRowOut 44 = .ok (.aload_n 0, 1) := by decide +kernel
theorem d_Md_layRowOut_45 : decode bc_Md_layRowOut 45 = .ok (.bipush 62, 2) := by decide +kernel
theorem d_Md_layRowOut_47 : decode bc_Md_layRowOut 47 = .ok (.invokevirtual 500, 3) := by decide +kernel
theorem d_Md_layRowOut_50 : decode bc_Md_layRowOut 50 = .ok (.goto 15, 3) := by decide +kernel
theorem d_Md_layRowOut_53 : decode bc_Md_layRowOut 53 = .ok (.aload_n 0, 1) := by decide +kernel
theorem d_Md_layRowOut_54 : decode bc_Md_layRowOut 54 = .ok (.iload_n 2, 1) := by decide +kernel
theorem d_Md_layRowOut_55 : decode bc_Md_layRowOut 55 = .ok (.iconst 4, 1) := by decide +kernel
theorem d_Md_layRowOut_56 : decode bc_Md_layRowOut 56 = .ok (.idiv, 1) := by decide +kernel
theorem d_Md_layRowOut_57 : decode bc_Md_layRowOut 57 = .ok (.iload_n 2, 1) := by decide +kernel
theorem d_Md_layRowOut_58 : decode bc_Md_layRowOut 58 = .ok (.iconst 4, 1) := by decide +kernel
theorem d_Md_layRowOut_59 : decode bc_Md_layRowOut 59 = .ok (.irem, 1) := by decide +kernel
theorem d_Md_layRowOut_60 : decode bc_Md_layRowOut 60 = .ok (.iload_n 1, 1) := by decide +kernel
theorem d_Md_layRowOut_61 : decode bc_Md_layRowOut 61 = .ok (.invokevirtual 582, 3) := by decide +kernel
theorem d_Md_layRowOut_64 : decode bc_Md_layRowOut 64 = .ok (.istore_n 1, 1) := by decide +kernel
theorem d_Md_layRowOut_65 : decode bc_Md_layRowOut 65 = .ok (.goto (-51), 3) := by decide +kernel
theorem d_Md_layRowOut_68 : decode bc_Md_layRowOut 68 = .ok (.return_, 1) := by decide +kernel
abbrev bc_Md_layItem : ByteArray := prog_14_method_98_code
abbrev y_Md_layItem : MethodName := ⟨"KindRoundsModel", "layItem", "(III)I"⟩
theorem d_Md_layItem_0 : decode bc_Md_layItem 0 = .ok (.aload_n 0, 1) := by decide +kernel
theorem d_Md_layItem_1 : decode bc_Md_layItem 1 = .ok (.getfield 190, 3) := by decide +kernel
theorem d_Md_layItem_4 : decode bc_Md_layItem 4 = .ok (.iload_n 1, 1) := by decide +kernel
theorem d_Md_layItem_5 : decode bc_Md_layItem 5 = .ok (.iaload, 1) := by decide +kernel
theorem d_Md_layItem_6 : decode bc_Md_layItem 6 = .ok (.bipush 10, 2) := by decide +kernel
theorem d_Md_layItem_8 : decode bc_Md_layItem 8 = .ok (.if_icmp .lt 18, 3) := by decide +kernel
theorem d_Md_layItem_11 : decode bc_Md_layItem 11 = .ok (.aload_n 0, 1) := by decide +kernel
theorem d_Md_layItem_12 : decode bc_Md_layItem 12 = .ok (.aload_n 0, 1) := by decide +kernel
theorem d_Md_layItem_13 : decode bc_Md_layItem 13 = .ok (.getfield 190, 3) := by decide +kernel
theorem d_Md_layItem_16 : decode bc_Md_layItem 16 = .ok (.iload_n 1, 1) := by decide +kernel
theorem d_Md_layItem_17 : decode bc_Md_layItem 17 = .ok (.iaload, 1) := by decide +kernel
theorem d_Md_layItem_18 : decode bc_Md_layItem 18 = .ok (.bipush 10, 2) := by decide +kernel
theorem d_Md_layItem_20 : decode bc_Md_layItem 20 = .ok (.isub, 1) := by decide +kernel
theorem d_Md_layItem_21 : decode bc_Md_layItem 21 = .ok (.invokevirtual 585, 3) := by decide +kernel
theorem d_Md_layItem_24 : decode bc_Md_layItem 24 = .ok (.iload_n 3, 1) := by decide +kernel
theorem d_Md_layItem_25 : decode bc_Md_layItem 25 = .ok (.ireturn, 1) := by decide +kernel
theorem d_Md_layItem_26 : decode bc_Md_layItem 26 = .ok (.iload_n 3, 1) := by decide +kernel
theorem d_Md_layItem_27 : decode bc_Md_layItem 27 = .ok (.istore 4, 2) := by decide +kernel
theorem d_Md_layItem_29 : decode bc_Md_layItem 29 = .ok (.aload_n 0, 1) := by decide +kernel
theorem d_Md_layItem_30 : decode bc_Md_layItem 30 = .ok (.getfield 190, 3) := by decide +kernel
theorem d_Md_layItem_33 : decode bc_Md_layItem 33 = .ok (.iload_n 1, 1) := by decide +kernel
theorem d_Md_layItem_34 : decode bc_Md_layItem 34 = .ok (.iaload, 1) := by decide +kernel
theorem d_Md_layItem_35 : decode bc_Md_layItem 35 = .ok (.ifCond .ne 16, 3) := by decide +kernel
theorem d_Md_layItem_38 : decode bc_Md_layItem 38 = .ok (.iload_n 2, 1) := by decide +kernel
theorem d_Md_layItem_39 : decode bc_Md_layItem 39 = .ok (.iconst 2, 1) := by decide +kernel
theorem d_Md_layItem_40 : decode bc_Md_layItem 40 = .ok (.if_icmp .ne 7, 3) := by decide +kernel
theorem d_Md_layItem_43 : decode bc_Md_layItem 43 = .ok (.iconst 1, 1) := by decide +kernel
theorem d_Md_layItem_44 : decode bc_Md_layItem 44 = .ok (.goto 26, 3) := by decide +kernel
theorem d_Md_layItem_47 : decode bc_Md_layItem 47 = .ok (.iconst 0, 1) := by decide +kernel
theorem d_Md_layItem_48 : decode bc_Md_layItem 48 = .ok (.goto 22, 3) := by decide +kernel
theorem d_Md_layItem_51 : decode bc_Md_layItem 51 = .ok (.aload_n 0, 1) := by decide +kernel
theorem d_Md_layItem_52 : decode bc_Md_layItem 52 = .ok (.getfield 190, 3) := by decide +kernel
theorem d_Md_layItem_55 : decode bc_Md_layItem 55 = .ok (.iload_n 1, 1) := by decide +kernel
theorem d_Md_layItem_56 : decode bc_Md_layItem 56 = .ok (.iaload, 1) := by decide +kernel
theorem d_Md_layItem_57 : decode bc_Md_layItem 57 = .ok (.iconst 2, 1) := by decide +kernel
theorem d_Md_layItem_58 : decode bc_Md_layItem 58 = .ok (.if_icmp .ne 11, 3) := by decide +kernel
theorem d_Md_layItem_61 : decode bc_Md_layItem 61 = .ok (.iload_n 2, 1) := by decide +kernel
theorem d_Md_layItem_62 : decode bc_Md_layItem 62 = .ok (.ifCond .le 7, 3) := by decide +kernel
theorem d_Md_layItem_65 : decode bc_Md_layItem 65 = .ok (.iconst 1, 1) := by decide +kernel
theorem d_Md_layItem_66 : decode bc_Md_layItem 66 = .ok (.goto 4, 3) := by decide +kernel
theorem d_Md_layItem_69 : decode bc_Md_layItem 69 = .ok (.iconst 0, 1) := by decide +kernel
theorem d_Md_layItem_70 : decode bc_Md_layItem 70 = .ok (.istore 5, 2) := by decide +kernel
theorem d_Md_layItem_72 : decode bc_Md_layItem 72 = .ok (.iload 5, 2) := by decide +kernel
theorem d_Md_layItem_74 : decode bc_Md_layItem 74 = .ok (.ifCond .ne 13, 3) := by decide +kernel
theorem d_Md_layItem_77 : decode bc_Md_layItem 77 = .ok (.aload_n 0, 1) := by decide +kernel
theorem d_Md_layItem_78 : decode bc_Md_layItem 78 = .ok (.getfield 190, 3) := by decide +kernel
theorem d_Md_layItem_81 : decode bc_Md_layItem 81 = .ok (.iload_n 1, 1) := by decide +kernel
theorem d_Md_layItem_82 : decode bc_Md_layItem 82 = .ok (.iaload, 1) := by decide +kernel
theorem d_Md_layItem_83 : decode bc_Md_layItem 83 = .ok (.iconst 1, 1) := by decide +kernel
theorem d_Md_layItem_84 : decode bc_Md_layItem 84 = .ok (.if_icmp .ne 41, 3) := by decide +kernel
theorem d_Md_layItem_87 : decode bc_Md_layItem 87 = .ok (.aload_n 0, 1) := by decide +kernel
theorem d_Md_layItem_88 : decode bc_Md_layItem 88 = .ok (.iload 5, 2) := by decide +kernel
theorem d_Md_layItem_90 : decode bc_Md_layItem 90 = .ok (.ifCond .eq 8, 3) := by decide +kernel
theorem d_Md_layItem_93 : decode bc_Md_layItem 93 = .ok (.bipush 40, 2) := by decide +kernel
theorem d_Md_layItem_95 : decode bc_Md_layItem 95 = .ok (.goto 5, 3) := by decide +kernel
theorem d_Md_layItem_98 : decode bc_Md_layItem 98 = .ok (.bipush 91, 2) := by decide +kernel
theorem d_Md_layItem_100 : decode bc_Md_layItem 100 = .ok (.invokevirtual 500, 3) := by decide +kernel
theorem d_Md_layItem_103 : decode bc_Md_layItem 103 = .ok (.aload_n 0, 1) := by decide +kernel
theorem d_Md_layItem_104 : decode bc_Md_layItem 104 = .ok (.getfield 172, 3) := by decide +kernel
theorem d_Md_layItem_107 : decode bc_Md_layItem 107 = .ok (.iload 4, 2) := by decide +kernel
theorem d_Md_layItem_109 : decode bc_Md_layItem 109 = .ok (.iload 5, 2) := by decide +kernel
theorem d_Md_layItem_111 : decode bc_Md_layItem 111 = .ok (.ifCond .eq 8, 3) := by decide +kernel
theorem d_Md_layItem_114 : decode bc_Md_layItem 114 = .ok (.bipush (-41), 2) := by decide +kernel
theorem d_Md_layItem_116 : decode bc_Md_layItem 116 = .ok (.goto 5, 3) := by decide +kernel
theorem d_Md_layItem_119 : decode bc_Md_layItem 119 = .ok (.bipush (-93), 2) := by decide +kernel
theorem d_Md_layItem_121 : decode bc_Md_layItem 121 = .ok (.iastore, 1) := by decide +kernel
theorem d_Md_layItem_122 : decode bc_Md_layItem 122 = .ok (.iinc 4 1, 3) := by decide +kernel
theorem d_Md_layItem_125 : decode bc_Md_layItem 125 = .ok (.aload_n 0, 1) := by decide +kernel
theorem d_Md_layItem_126 : decode bc_Md_layItem 126 = .ok (.getfield 190, 3) := by decide +kernel
theorem d_Md_layItem_129 : decode bc_Md_layItem 129 = .ok (.iload_n 1, 1) := by decide +kernel
theorem d_Md_layItem_130 : decode bc_Md_layItem 130 = .ok (.iaload, 1) := by decide +kernel
theorem d_Md_layItem_131 : decode bc_Md_layItem 131 = .ok (.iconst 1, 1) := by decide +kernel
theorem d_Md_layItem_132 : decode bc_Md_layItem 132 = .ok (.if_icmp .ne 20, 3) := by decide +kernel
theorem d_Md_layItem_135 : decode bc_Md_layItem 135 = .ok (.aload_n 0, 1) := by decide +kernel
theorem d_Md_layItem_136 : decode bc_Md_layItem 136 = .ok (.getfield 172, 3) := by decide +kernel
theorem d_Md_layItem_139 : decode bc_Md_layItem 139 = .ok (.iload 4, 2) := by decide +kernel
theorem d_Md_layItem_141 : decode bc_Md_layItem 141 = .ok (.iconst 4, 1) := by decide +kernel
theorem d_Md_layItem_142 : decode bc_Md_layItem 142 = .ok (.iload_n 1, 1) := by decide +kernel
theorem d_Md_layItem_143 : decode bc_Md_layItem 143 = .ok (.iconst 1, 1) := by decide +kernel
theorem d_Md_layItem_144 : decode bc_Md_layItem 144 = .ok (.iadd, 1) := by decide +kernel
theorem d_Md_layItem_145 : decode bc_Md_layItem 145 = .ok (.imul, 1) := by decide +kernel
theorem d_Md_layItem_146 : decode bc_Md_layItem 146 = .ok (.iastore, 1) := by decide +kernel
theorem d_Md_layItem_147 : decode bc_Md_layItem 147 = .ok (.iload 4, 2) := by decide +kernel
theorem d_Md_layItem_149 : decode bc_Md_layItem 149 = .ok (.iconst 1, 1) := by decide +kernel
theorem d_Md_layItem_150 : decode bc_Md_layItem 150 = .ok (.iadd, 1) := by decide +kernel
theorem d_Md_layItem_151 : decode bc_Md_layItem 151 = .ok (.ireturn, 1) := by decide +kernel
theorem d_Md_layItem_152 : decode bc_Md_layItem 152 = .ok (.aload_n 0, 1) := by decide +kernel
theorem d_Md_layItem_153 : decode bc_Md_layItem 153 = .ok (.getfield 172, 3) := by decide +kernel
theorem d_Md_layItem_156 : decode bc_Md_layItem 156 = .ok (.iload 4, 2) := by decide +kernel
theorem d_Md_layItem_158 : decode bc_Md_layItem 158 = .ok (.iconst 4, 1) := by decide +kernel
theorem d_Md_layItem_159 : decode bc_Md_layItem 159 = .ok (.aload_n 0, 1) := by decide +kernel
theorem d_Md_layItem_160 : decode bc_Md_layItem 160 = .ok (.iload_n 1, 1) := by decide +kernel
theorem d_Md_layItem_161 : decode bc_Md_layItem 161 = .ok (.iconst 1, 1) := by decide +kernel
theorem d_Md_layItem_162 : decode bc_Md_layItem 162 = .ok (.iadd, 1) := by decide +kernel
theorem d_Md_layItem_163 : decode bc_Md_layItem 163 = .ok (.invokevirtual 558, 3) := by decide +kernel
theorem d_Md_layItem_166 : decode bc_Md_layItem 166 = .ok (.imul, 1) := by decide +kernel
theorem d_Md_layItem_167 : decode bc_Md_layItem 167 = .ok (.aload_n 0, 1) := by decide +kernel
theorem d_Md_layItem_168 : decode bc_Md_layItem 168 = .ok (.getfield 190, 3) := by decide +kernel
theorem d_Md_layItem_171 : decode bc_Md_layItem 171 = .ok (.iload_n 1, 1) := by decide +kernel
theorem d_Md_layItem_172 : decode bc_Md_layItem 172 = .ok (.iaload, 1) := by decide +kernel
theorem d_Md_layItem_173 : decode bc_Md_layItem 173 = .ok (.ifCond .ne 7, 3) := by decide +kernel
theorem d_Md_layItem_176 : decode bc_Md_layItem 176 = .ok (.iconst 2, 1) := by decide +kernel
theorem d_Md_layItem_177 : decode bc_Md_layItem 177 = .ok (.goto 4, 3) := by decide +kernel
theorem d_Md_layItem_180 : decode bc_Md_layItem 180 = .ok (.iconst 0, 1) := by decide +kernel
theorem d_Md_layItem_181 : decode bc_Md_layItem 181 = .ok (.iadd, 1) := by decide +kernel
theorem d_Md_layItem_182 : decode bc_Md_layItem 182 = .ok (.iastore, 1) := by decide +kernel
theorem d_Md_layItem_183 : decode bc_Md_layItem 183 = .ok (.aload_n 0, 1) := by decide +kernel
theorem d_Md_layItem_184 : decode bc_Md_layItem 184 = .ok (.getfield 172, 3) := by decide +kernel
theorem d_Md_layItem_187 : decode bc_Md_layItem 187 = .ok (.iload 4, 2) := by decide +kernel
theorem d_Md_layItem_189 : decode bc_Md_layItem 189 = .ok (.iconst 1, 1) := by decide +kernel
theorem d_Md_layItem_190 : decode bc_Md_layItem 190 = .ok (.iadd, 1) := by decide +kernel
theorem d_Md_layItem_191 : decode bc_Md_layItem 191 = .ok (.aload_n 0, 1) := by decide +kernel
theorem d_Md_layItem_192 : decode bc_Md_layItem 192 = .ok (.getfield 190, 3) := by decide +kernel
theorem d_Md_layItem_195 : decode bc_Md_layItem 195 = .ok (.iload_n 1, 1) := by decide +kernel
theorem d_Md_layItem_196 : decode bc_Md_layItem 196 = .ok (.iaload, 1) := by decide +kernel
theorem d_Md_layItem_197 : decode bc_Md_layItem 197 = .ok (.ifCond .ne 8, 3) := by decide +kernel
theorem d_Md_layItem_200 : decode bc_Md_layItem 200 = .ok (.bipush (-32), 2) := by decide +kernel
theorem d_Md_layItem_202 : decode bc_Md_layItem 202 = .ok (.goto 5, 3) := by decide +kernel
theorem d_Md_layItem_205 : decode bc_Md_layItem 205 = .ok (.bipush (-45), 2) := by decide +kernel
theorem d_Md_layItem_207 : decode bc_Md_layItem 207 = .ok (.iastore, 1) := by decide +kernel
theorem d_Md_layItem_208 : decode bc_Md_layItem 208 = .ok (.aload_n 0, 1) := by decide +kernel
theorem d_Md_layItem_209 : decode bc_Md_layItem 209 = .ok (.getfield 172, 3) := by decide +kernel
theorem d_Md_layItem_212 : decode bc_Md_layItem 212 = .ok (.iload 4, 2) := by decide +kernel
theorem d_Md_layItem_214 : decode bc_Md_layItem 214 = .ok (.iconst 2, 1) := by decide +kernel
theorem d_Md_layItem_215 : decode bc_Md_layItem 215 = .ok (.iadd, 1) := by decide +kernel
theorem d_Md_layItem_216 : decode bc_Md_layItem 216 = .ok (.iconst 4, 1) := by decide +kernel
theorem d_Md_layItem_217 : decode bc_Md_layItem 217 = .ok (.iload_n 1, 1) := by decide +kernel
theorem d_Md_layItem_218 : decode bc_Md_layItem 218 = .ok (.iconst 1, 1) := by decide +kernel
theorem d_Md_layItem_219 : decode bc_Md_layItem 219 = .ok (.iadd, 1) := by decide +kernel
theorem d_Md_layItem_220 : decode bc_Md_layItem 220 = .ok (.imul, 1) := by decide +kernel
theorem d_Md_layItem_221 : decode bc_Md_layItem 221 = .ok (.aload_n 0, 1) := by decide +kernel
theorem d_Md_layItem_222 : decode bc_Md_layItem 222 = .ok (.getfield 190, 3) := by decide +kernel
theorem d_Md_layItem_225 : decode bc_Md_layItem 225 = .ok (.iload_n 1, 1) := by decide +kernel
theorem d_Md_layItem_226 : decode bc_Md_layItem 226 = .ok (.iaload, 1) := by decide +kernel
theorem d_Md_layItem_227 : decode bc_Md_layItem 227 = .ok (.ifCond .ne 7, 3) := by decide +kernel
theorem d_Md_layItem_230 : decode bc_Md_layItem 230 = .ok (.iconst 3, 1) := by decide +kernel
theorem d_Md_layItem_231 : decode bc_Md_layItem 231 = .ok (.goto 4, 3) := by decide +kernel
theorem d_Md_layItem_234 : decode bc_Md_layItem 234 = .ok (.iconst 1, 1) := by decide +kernel
theorem d_Md_layItem_235 : decode bc_Md_layItem 235 = .ok (.iadd, 1) := by decide +kernel
theorem d_Md_layItem_236 : decode bc_Md_layItem 236 = .ok (.iastore, 1) := by decide +kernel
theorem d_Md_layItem_237 : decode bc_Md_layItem 237 = .ok (.iload 4, 2) := by decide +kernel
theorem d_Md_layItem_239 : decode bc_Md_layItem 239 = .ok (.iconst 3, 1) := by decide +kernel
theorem d_Md_layItem_240 : decode bc_Md_layItem 240 = .ok (.iadd, 1) := by decide +kernel
theorem d_Md_layItem_241 : decode bc_Md_layItem 241 = .ok (.ireturn, 1) := by decide +kernel
abbrev bc_Md_plain : ByteArray := prog_14_method_99_code
abbrev y_Md_plain : MethodName := ⟨"KindRoundsModel", "plain", "()I"⟩
theorem d_Md_plain_0 : decode bc_Md_plain 0 = .ok (.aload_n 0, 1) := by decide +kernel
theorem d_Md_plain_1 : decode bc_Md_plain 1 = .ok (.iconst 0, 1) := by decide +kernel
theorem d_Md_plain_2 : decode bc_Md_plain 2 = .ok (.putfield 215, 3) := by decide +kernel
theorem d_Md_plain_5 : decode bc_Md_plain 5 = .ok (.aload_n 0, 1) := by decide +kernel
theorem d_Md_plain_6 : decode bc_Md_plain 6 = .ok (.iconst 0, 1) := by decide +kernel
theorem d_Md_plain_7 : decode bc_Md_plain 7 = .ok (.invokevirtual 545, 3) := by decide +kernel
theorem d_Md_plain_10 : decode bc_Md_plain 10 = .ok (.istore_n 1, 1) := by decide +kernel
theorem d_Md_plain_11 : decode bc_Md_plain 11 = .ok (.aload_n 0, 1) := by decide +kernel
theorem d_Md_plain_12 : decode bc_Md_plain 12 = .ok (.getfield 221, 3) := by decide +kernel
theorem d_Md_plain_15 : decode bc_Md_plain 15 = .ok (.ifCond .le 11, 3) := by decide +kernel
theorem d_Md_plain_18 : decode bc_Md_plain 18 = .ok (.bipush (-10), 2) := by decide +kernel
theorem d_Md_plain_20 : decode bc_Md_plain 20 = .ok (.aload_n 0, 1) := by decide +kernel
theorem d_Md_plain_21 : decode bc_Md_plain 21 = .ok (.getfield 221, 3) := by decide +kernel
theorem d_Md_plain_24 : decode bc_Md_plain 24 = .ok (.isub, 1) := by decide +kernel
theorem d_Md_plain_25 : decode bc_Md_plain 25 = .ok (.ireturn, 1) := by decide +kernel
theorem d_Md_plain_26 : decode bc_Md_plain 26 = .ok (.aload_n 0, 1) := by decide +kernel
theorem d_Md_plain_27 : decode bc_Md_plain 27 = .ok (.iload_n 1, 1) := by decide +kernel
theorem d_Md_plain_28 : decode bc_Md_plain 28 = .ok (.invokevirtual 588, 3) := by decide +kernel
theorem d_Md_plain_31 : decode bc_Md_plain 31 = .ok (.ifCond .ne 6, 3) := by decide +kernel
theorem d_Md_plain_34 : decode bc_Md_plain 34 = .ok (.bipush (-4), 2) := by decide +kernel
theorem d_Md_plain_36 : decode bc_Md_plain 36 = .ok (.ireturn, 1) := by decide +kernel
theorem d_Md_plain_37 : decode bc_Md_plain 37 = .ok (.aload_n 0, 1) := by decide +kernel
theorem d_Md_plain_38 : decode bc_Md_plain 38 = .ok (.invokevirtual 591, 3) := by decide +kernel
theorem d_Md_plain_41 : decode bc_Md_plain 41 = .ok (.aload_n 0, 1) := by decide +kernel
theorem d_Md_plain_42 : decode bc_Md_plain 42 = .ok (.invokevirtual 512, 3) := by decide +kernel
theorem d_Md_plain_45 : decode bc_Md_plain 45 = .ok (.ireturn, 1) := by decide +kernel
abbrev bc_Md_same : ByteArray := prog_14_method_100_code
abbrev y_Md_same : MethodName := ⟨"KindRoundsModel", "same", "()I"⟩
theorem d_Md_same_0 : decode bc_Md_same 0 = .ok (.aload_n 0, 1) := by decide +kernel
theorem d_Md_same_1 : decode bc_Md_same 1 = .ok (.iconst 0, 1) := by decide +kernel
theorem d_Md_same_2 : decode bc_Md_same 2 = .ok (.putfield 215, 3) := by decide +kernel
theorem d_Md_same_5 : decode bc_Md_same 5 = .ok (.aload_n 0, 1) := by decide +kernel
theorem d_Md_same_6 : decode bc_Md_same 6 = .ok (.iconst 1, 1) := by decide +kernel
theorem d_Md_same_7 : decode bc_Md_same 7 = .ok (.invokevirtual 545, 3) := by decide +kernel
theorem d_Md_same_10 : decode bc_Md_same 10 = .ok (.istore_n 1, 1) := by decide +kernel
theorem d_Md_same_11 : decode bc_Md_same 11 = .ok (.aload_n 0, 1) := by decide +kernel
theorem d_Md_same_12 : decode bc_Md_same 12 = .ok (.getfield 221, 3) := by decide +kernel
theorem d_Md_same_15 : decode bc_Md_same 15 = .ok (.ifCond .le 11, 3) := by decide +kernel
theorem d_Md_same_18 : decode bc_Md_same 18 = .ok (.bipush (-10), 2) := by decide +kernel
theorem d_Md_same_20 : decode bc_Md_same 20 = .ok (.aload_n 0, 1) := by decide +kernel
theorem d_Md_same_21 : decode bc_Md_same 21 = .ok (.getfield 221, 3) := by decide +kernel
theorem d_Md_same_24 : decode bc_Md_same 24 = .ok (.isub, 1) := by decide +kernel
theorem d_Md_same_25 : decode bc_Md_same 25 = .ok (.ireturn, 1) := by decide +kernel
theorem d_Md_same_26 : decode bc_Md_same 26 = .ok (.aload_n 0, 1) := by decide +kernel
theorem d_Md_same_27 : decode bc_Md_same 27 = .ok (.iload_n 1, 1) := by decide +kernel
theorem d_Md_same_28 : decode bc_Md_same 28 = .ok (.invokevirtual 588, 3) := by decide +kernel
theorem d_Md_same_31 : decode bc_Md_same 31 = .ok (.ifCond .ne 6, 3) := by decide +kernel
theorem d_Md_same_34 : decode bc_Md_same 34 = .ok (.bipush (-4), 2) := by decide +kernel
theorem d_Md_same_36 : decode bc_Md_same 36 = .ok (.ireturn, 1) := by decide +kernel
theorem d_Md_same_37 : decode bc_Md_same 37 = .ok (.aload_n 0, 1) := by decide +kernel
theorem d_Md_same_38 : decode bc_Md_same 38 = .ok (.invokevirtual 591, 3) := by decide +kernel
theorem d_Md_same_41 : decode bc_Md_same 41 = .ok (.aload_n 0, 1) := by decide +kernel
theorem d_Md_same_42 : decode bc_Md_same 42 = .ok (.getfield 491, 3) := by decide +kernel
theorem d_Md_same_45 : decode bc_Md_same 45 = .ok (.istore_n 2, 1) := by decide +kernel
theorem d_Md_same_46 : decode bc_Md_same 46 = .ok (.iconst 0, 1) := by decide +kernel
theorem d_Md_same_47 : decode bc_Md_same 47 = .ok (.istore_n 3, 1) := by decide +kernel
theorem d_Md_same_48 : decode bc_Md_same 48 = .ok (.iload_n 3, 1) := by decide +kernel
theorem d_Md_same_49 : decode bc_Md_same 49 = .ok (.iload_n 2, 1) := by decide +kernel
theorem d_Md_same_50 : decode bc_Md_same 50 = .ok (.if_icmp .ge 21, 3) := by decide +kernel
theorem d_Md_same_53 : decode bc_Md_same 53 = .ok (.aload_n 0, 1) := by decide +kernel
theorem d_Md_same_54 : decode bc_Md_same 54 = .ok (.getfield 199, 3) := by decide +kernel
theorem d_Md_same_57 : decode bc_Md_same 57 = .ok (.iload_n 3, 1) := by decide +kernel
theorem d_Md_same_58 : decode bc_Md_same 58 = .ok (.aload_n 0, 1) := by decide +kernel
theorem d_Md_same_59 : decode bc_Md_same 59 = .ok (.getfield 178, 3) := by decide +kernel
theorem d_Md_same_62 : decode bc_Md_same 62 = .ok (.iload_n 3, 1) := by decide +kernel
theorem d_Md_same_63 : decode bc_Md_same 63 = .ok (.iaload, 1) := by decide +kernel
theorem d_Md_same_64 : decode bc_Md_same 64 = .ok (.iastore, 1) := by decide +kernel
theorem d_Md_same_65 : decode bc_Md_same 65 = .ok (.iinc 3 1, 3) := by decide +kernel
theorem d_Md_same_68 : decode bc_Md_same 68 = .ok (.goto (-20), 3) := by decide +kernel
theorem d_Md_same_71 : decode bc_Md_same 71 = .ok (.aload_n 0, 1) := by decide +kernel
theorem d_Md_same_72 : decode bc_Md_same 72 = .ok (.aload_n 0, 1) := by decide +kernel
theorem d_Md_same_73 : decode bc_Md_same 73 = .ok (.getfield 542, 3) := by decide +kernel
theorem d_Md_same_76 : decode bc_Md_same 76 = .ok (.invokevirtual 588, 3) := by decide +kernel
theorem d_Md_same_79 : decode bc_Md_same 79 = .ok (.ifCond .ne 6, 3) := by decide +kernel
theorem d_Md_same_82 : decode bc_Md_same 82 = .ok (.bipush (-4), 2) := by decide +kernel
theorem d_Md_same_84 : decode bc_Md_same 84 = .ok (.ireturn, 1) := by decide +kernel
theorem d_Md_same_85 : decode bc_Md_same 85 = .ok (.aload_n 0, 1) := by decide +kernel
theorem d_Md_same_86 : decode bc_Md_same 86 = .ok (.invokevirtual 591, 3) := by decide +kernel
theorem d_Md_same_89 : decode bc_Md_same 89 = .ok (.iload_n 2, 1) := by decide +kernel
theorem d_Md_same_90 : decode bc_Md_same 90 = .ok (.aload_n 0, 1) := by decide +kernel
theorem d_Md_same_91 : decode bc_Md_same 91 = .ok (.getfield 491, 3) := by decide +kernel
theorem d_Md_same_94 : decode bc_Md_same 94 = .ok (.if_icmp .ne 7, 3) := by decide +kernel
theorem d_Md_same_97 : decode bc_Md_same 97 = .ok (.iconst 1, 1) := by decide +kernel
theorem d_Md_same_98 : decode bc_Md_same 98 = .ok (.goto 4, 3) := by decide +kernel
theorem d_Md_same_101 : decode bc_Md_same 101 = .ok (.iconst 0, 1) := by decide +kernel
theorem d_Md_same_102 : decode bc_Md_same 102 = .ok (.istore_n 3, 1) := by decide +kernel
theorem d_Md_same_103 : decode bc_Md_same 103 = .ok (.iconst 0, 1) := by decide +kernel
theorem d_Md_same_104 : decode bc_Md_same 104 = .ok (.istore 4, 2) := by decide +kernel
theorem d_Md_same_106 : decode bc_Md_same 106 = .ok (.iload 4, 2) := by decide +kernel
theorem d_Md_same_108 : decode bc_Md_same 108 = .ok (.iload_n 2, 1) := by decide +kernel
theorem d_Md_same_109 : decode bc_Md_same 109 = .ok (.if_icmp .ge 36, 3) := by decide +kernel
theorem d_Md_same_112 : decode bc_Md_same 112 = .ok (.iload_n 3, 1) := by decide +kernel
theorem d_Md_same_113 : decode bc_Md_same 113 = .ok (.ifCond .eq 32, 3) := by decide +kernel
theorem d_Md_same_116 : decode bc_Md_same 116 = .ok (.aload_n 0, 1) := by decide +kernel
theorem d_Md_same_117 : decode bc_Md_same 117 = .ok (.getfield 199, 3) := by decide +kernel
theorem d_Md_same_120 : decode bc_Md_same 120 = .ok (.iload 4, 2) := by decide +kernel
theorem d_Md_same_122 : decode bc_Md_same 122 = .ok (.iaload, 1) := by decide +kernel
theorem d_Md_same_123 : decode bc_Md_same 123 = .ok (.aload_n 0, 1) := by decide +kernel
theorem d_Md_same_124 : decode bc_Md_same 124 = .ok (.getfield 178, 3) := by decide +kernel
theorem d_Md_same_127 : decode bc_Md_same 127 = .ok (.iload 4, 2) := by decide +kernel
theorem d_Md_same_129 : decode bc_Md_same 129 = .ok (.iaload, 1) := by decide +kernel
theorem d_Md_same_130 : decode bc_Md_same 130 = .ok (.if_icmp .ne 7, 3) := by decide +kernel
theorem d_Md_same_133 : decode bc_Md_same 133 = .ok (.iconst 1, 1) := by decide +kernel
theorem d_Md_same_134 : decode bc_Md_same 134 = .ok (.goto 4, 3) := by decide +kernel
theorem d_Md_same_137 : decode bc_Md_same 137 = .ok (.iconst 0, 1) := by decide +kernel
theorem d_Md_same_138 : decode bc_Md_same 138 = .ok (.istore_n 3, 1) := by decide +kernel
theorem d_Md_same_139 : decode bc_Md_same 139 = .ok (.iinc 4 1, 3) := by decide +kernel
theorem d_Md_same_142 : decode bc_Md_same 142 = .ok (.goto (-36), 3) := by decide +kernel
theorem d_Md_same_145 : decode bc_Md_same 145 = .ok (.iload_n 3, 1) := by decide +kernel
theorem d_Md_same_146 : decode bc_Md_same 146 = .ok (.ifCond .eq 7, 3) := by decide +kernel
theorem d_Md_same_149 : decode bc_Md_same 149 = .ok (.iconst 1, 1) := by decide +kernel
theorem d_Md_same_150 : decode bc_Md_same 150 = .ok (.goto 4, 3) := by decide +kernel
theorem d_Md_same_153 : decode bc_Md_same 153 = .ok (.iconst 0, 1) := by decide +kernel
theorem d_Md_same_154 : decode bc_Md_same 154 = .ok (.ireturn, 1) := by decide +kernel
