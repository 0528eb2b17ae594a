/-! Words of the tables that KindRoundsModel needs. Written by program (wip/gen). -/
set_option maxHeartbeats 4000000 in
set_option maxRecDepth 100000 in
theorem mM_0 : (Cond.fieldLink "KindRoundsModel" (7 : Nat) "KindRoundsModel" "tape" "[I") ∈ lw_good := good_in (List.mem_append_right _ (List.mem_append_right _ (List.mem_append_right _ (List.mem_append_right _ (List.mem_append_right _ (List.mem_append_left _ (List.mem_of_getElem? (i := 214) (l := tables_1_5) rfl))))))) rfl
set_option maxHeartbeats 4000000 in
set_option maxRecDepth 100000 in
theorem mM_1 : (Cond.fieldLink "KindRoundsModel" (218 : Nat) "KindRoundsModel" "size" "I") ∈ lw_good := good_in (List.mem_append_right _ (List.mem_append_right _ (List.mem_append_right _ (List.mem_append_right _ (List.mem_append_right _ (List.mem_append_left _ (List.mem_of_getElem? (i := 215) (l := tables_1_5) rfl))))))) rfl
set_option maxHeartbeats 4000000 in
set_option maxRecDepth 100000 in
theorem mM_2 : (Cond.fieldLink "KindRoundsModel" (221 : Nat) "KindRoundsModel" "fault" "I") ∈ lw_good := good_in (List.mem_append_right _ (List.mem_append_right _ (List.mem_append_right _ (List.mem_append_right _ (List.mem_append_right _ (List.mem_append_left _ (List.mem_of_getElem? (i := 221) (l := tables_1_5) rfl))))))) rfl
set_option maxHeartbeats 4000000 in
set_option maxRecDepth 100000 in
theorem mM_3 : (Cond.fieldLink "KindRoundsModel" (13 : Nat) "KindRoundsModel" "faultPlace" "I") ∈ lw_good := good_in (List.mem_append_right _ (List.mem_append_right _ (List.mem_append_right _ (List.mem_append_right _ (List.mem_append_right _ (List.mem_append_left _ (List.mem_of_getElem? (i := 222) (l := tables_1_5) rfl))))))) rfl
set_option maxHeartbeats 4000000 in
set_option maxRecDepth 100000 in
theorem mM_4 : (Cond.methodLink "KindRoundsModel" (224 : Nat) ({ cls := "KindRoundsModel", name := "isUpper", desc := "(I)Z" } : Jvm.MethodName)) ∈ lw_good := good_in (List.mem_append_right _ (List.mem_append_right _ (List.mem_append_right _ (List.mem_append_right _ (List.mem_append_right _ (List.mem_append_right _ (List.mem_append_right _ (List.mem_append_left _ (List.mem_of_getElem? (i := 60) (l := tables_1_7) rfl))))))))) rfl
set_option maxHeartbeats 4000000 in
set_option maxRecDepth 100000 in
theorem mM_5 : (Cond.methodLink "KindRoundsModel" (228 : Nat) ({ cls := "KindRoundsModel", name := "isLower", desc := "(I)Z" } : Jvm.MethodName)) ∈ lw_good := good_in (List.mem_append_right _ (List.mem_append_right _ (List.mem_append_right _ (List.mem_append_right _ (List.mem_append_right _ (List.mem_append_right _ (List.mem_append_right _ (List.mem_append_left _ (List.mem_of_getElem? (i := 63) (l := tables_1_7) rfl))))))))) rfl
set_option maxHeartbeats 4000000 in
set_option maxRecDepth 100000 in
theorem mM_6 : (Cond.fieldLink "KindRoundsModel" (231 : Nat) "KindRoundsModel" "at" "I") ∈ lw_good := good_in (List.mem_append_right _ (List.mem_append_right _ (List.mem_append_right _ (List.mem_append_right _ (List.mem_append_right _ (List.mem_append_left _ (List.mem_of_getElem? (i := 216) (l := tables_1_5) rfl))))))) rfl
set_option maxHeartbeats 4000000 in
set_option maxRecDepth 100000 in
theorem mM_7 : (Cond.fieldLink "KindRoundsModel" (241 : Nat) "KindRoundsModel" "token" "I") ∈ lw_good := good_in (List.mem_append_right _ (List.mem_append_right _ (List.mem_append_right _ (List.mem_append_right _ (List.mem_append_right _ (List.mem_append_left _ (List.mem_of_getElem? (i := 217) (l := tables_1_5) rfl))))))) rfl
set_option maxHeartbeats 4000000 in
set_option maxRecDepth 100000 in
theorem mM_8 : (Cond.methodLink "KindRoundsModel" (244 : Nat) ({ cls := "KindRoundsModel", name := "name", desc := "(Z)V" } : Jvm.MethodName)) ∈ lw_good := good_in (List.mem_append_right _ (List.mem_append_right _ (List.mem_append_right _ (List.mem_append_right _ (List.mem_append_right _ (List.mem_append_right _ (List.mem_append_right _ (List.mem_append_left _ (List.mem_of_getElem? (i := 66) (l := tables_1_7) rfl))))))))) rfl
set_option maxHeartbeats 4000000 in
set_option maxRecDepth 100000 in
theorem mM_9 : (Cond.fieldLink "KindRoundsModel" (248 : Nat) "KindRoundsModel" "sign" "I") ∈ lw_good := good_in (List.mem_append_right _ (List.mem_append_right _ (List.mem_append_right _ (List.mem_append_right _ (List.mem_append_right _ (List.mem_append_left _ (List.mem_of_getElem? (i := 220) (l := tables_1_5) rfl))))))) rfl
set_option maxHeartbeats 4000000 in
set_option maxRecDepth 100000 in
theorem mM_10 : (Cond.fieldLink "KindRoundsModel" (238 : Nat) "KindRoundsModel" "place" "I") ∈ lw_good := good_in (List.mem_append_right _ (List.mem_append_right _ (List.mem_append_right _ (List.mem_append_right _ (List.mem_append_right _ (List.mem_append_left _ (List.mem_of_getElem? (i := 218) (l := tables_1_5) rfl))))))) rfl
set_option maxHeartbeats 4000000 in
set_option maxRecDepth 100000 in
theorem mM_11 : (Cond.methodLink "KindRoundsModel" (251 : Nat) ({ cls := "KindRoundsModel", name := "wrong", desc := "(II)V" } : Jvm.MethodName)) ∈ lw_good := good_in (List.mem_append_right _ (List.mem_append_right _ (List.mem_append_right _ (List.mem_append_right _ (List.mem_append_right _ (List.mem_append_right _ (List.mem_append_right _ (List.mem_append_left _ (List.mem_of_getElem? (i := 77) (l := tables_1_7) rfl))))))))) rfl
set_option maxHeartbeats 4000000 in
set_option maxRecDepth 100000 in
theorem mM_12 : (Cond.methodLink "KindRoundsModel" (234 : Nat) ({ cls := "KindRoundsModel", name := "byteAt", desc := "(I)I" } : Jvm.MethodName)) ∈ lw_good := good_in (List.mem_append_right _ (List.mem_append_right _ (List.mem_append_right _ (List.mem_append_right _ (List.mem_append_right _ (List.mem_append_right _ (List.mem_append_right _ (List.mem_append_left _ (List.mem_of_getElem? (i := 56) (l := tables_1_7) rfl))))))))) rfl
set_option maxHeartbeats 4000000 in
set_option maxRecDepth 100000 in
theorem mM_13 : (Cond.fieldLink "KindRoundsModel" (255 : Nat) "KindRoundsModel" "word" "J") ∈ lw_good := good_in (List.mem_append_right _ (List.mem_append_right _ (List.mem_append_right _ (List.mem_append_right _ (List.mem_append_right _ (List.mem_append_left _ (List.mem_of_getElem? (i := 219) (l := tables_1_5) rfl))))))) rfl
set_option maxHeartbeats 4000000 in
set_option maxRecDepth 100000 in
theorem mM_14 : (Cond.constantLong "KindRoundsModel" (268 : Nat) (1802071652 : Int64)) ∈ lw_good := good_in (List.mem_append_right _ (List.mem_append_right _ (List.mem_append_right _ (List.mem_append_right _ (List.mem_append_right _ (List.mem_append_right _ (List.mem_append_right _ (List.mem_append_left _ (List.mem_of_getElem? (i := 76) (l := tables_1_7) rfl))))))))) rfl
set_option maxHeartbeats 4000000 in
set_option maxRecDepth 100000 in
theorem mM_15 : (Cond.constantLong "KindRoundsModel" (266 : Nat) (427020088179 : Int64)) ∈ lw_good := good_in (List.mem_append_right _ (List.mem_append_right _ (List.mem_append_right _ (List.mem_append_right _ (List.mem_append_right _ (List.mem_append_right _ (List.mem_append_right _ (List.mem_append_left _ (List.mem_of_getElem? (i := 75) (l := tables_1_7) rfl))))))))) rfl
set_option maxHeartbeats 4000000 in
set_option maxRecDepth 100000 in
theorem mM_16 : (Cond.constantLong "KindRoundsModel" (264 : Nat) (1954115685 : Int64)) ∈ lw_good := good_in (List.mem_append_right _ (List.mem_append_right _ (List.mem_append_right _ (List.mem_append_right _ (List.mem_append_right _ (List.mem_append_right _ (List.mem_append_right _ (List.mem_append_left _ (List.mem_of_getElem? (i := 74) (l := tables_1_7) rfl))))))))) rfl
set_option maxHeartbeats 4000000 in
set_option maxRecDepth 100000 in
theorem mM_17 : (Cond.methodLink "KindRoundsModel" (259 : Nat) ({ cls := "KindRoundsModel", name := "isOf", desc := "(I)Z" } : Jvm.MethodName)) ∈ lw_good := good_in (List.mem_append_right _ (List.mem_append_right _ (List.mem_append_right _ (List.mem_append_right _ (List.mem_append_right _ (List.mem_append_right _ (List.mem_append_right _ (List.mem_append_left _ (List.mem_of_getElem? (i := 70) (l := tables_1_7) rfl))))))))) rfl
set_option maxHeartbeats 4000000 in
set_option maxRecDepth 100000 in
theorem mM_18 : (Cond.constantLong "KindRoundsModel" (262 : Nat) (1684108385 : Int64)) ∈ lw_good := good_in (List.mem_append_right _ (List.mem_append_right _ (List.mem_append_right _ (List.mem_append_right _ (List.mem_append_right _ (List.mem_append_right _ (List.mem_append_right _ (List.mem_append_left _ (List.mem_of_getElem? (i := 73) (l := tables_1_7) rfl))))))))) rfl
set_option maxHeartbeats 4000000 in
set_option maxRecDepth 100000 in
theorem mM_19 : (Cond.methodLink "KindRoundsModel" (270 : Nat) ({ cls := "KindRoundsModel", name := "isSign", desc := "(I)Z" } : Jvm.MethodName)) ∈ lw_good := good_in (List.mem_append_right _ (List.mem_append_right _ (List.mem_append_right _ (List.mem_append_right _ (List.mem_append_right _ (List.mem_append_right _ (List.mem_append_right _ (List.mem_append_left _ (List.mem_of_getElem? (i := 105) (l := tables_1_7) rfl))))))))) rfl
set_option maxHeartbeats 4000000 in
set_option maxRecDepth 100000 in
theorem mM_20 : (Cond.methodLink "KindRoundsModel" (276 : Nat) ({ cls := "KindRoundsModel", name := "cannot", desc := "()V" } : Jvm.MethodName)) ∈ lw_good := good_in (List.mem_append_right _ (List.mem_append_right _ (List.mem_append_right _ (List.mem_append_right _ (List.mem_append_right _ (List.mem_append_right _ (List.mem_append_right _ (List.mem_append_left _ (List.mem_of_getElem? (i := 85) (l := tables_1_7) rfl))))))))) rfl
set_option maxHeartbeats 4000000 in
set_option maxRecDepth 100000 in
theorem mM_21 : (Cond.methodLink "KindRoundsModel" (273 : Nat) ({ cls := "KindRoundsModel", name := "next", desc := "()V" } : Jvm.MethodName)) ∈ lw_good := good_in (List.mem_append_right _ (List.mem_append_right _ (List.mem_append_right _ (List.mem_append_right _ (List.mem_append_right _ (List.mem_append_right _ (List.mem_append_right _ (List.mem_append_left _ (List.mem_of_getElem? (i := 52) (l := tables_1_7) rfl))))))))) rfl
set_option maxHeartbeats 4000000 in
set_option maxRecDepth 100000 in
theorem mM_22 : (Cond.fieldLink "KindRoundsModel" (42 : Nat) "KindRoundsModel" "tellSort" "[I") ∈ lw_good := good_in (List.mem_append_right _ (List.mem_append_right _ (List.mem_append_right _ (List.mem_append_right _ (List.mem_append_right _ (List.mem_append_left _ (List.mem_of_getElem? (i := 237) (l := tables_1_5) rfl))))))) rfl
set_option maxHeartbeats 4000000 in
set_option maxRecDepth 100000 in
theorem mM_23 : (Cond.fieldLink "KindRoundsModel" (279 : Nat) "KindRoundsModel" "tells" "I") ∈ lw_good := good_in (List.mem_append_right _ (List.mem_append_right _ (List.mem_append_right _ (List.mem_append_right _ (List.mem_append_right _ (List.mem_append_right _ (List.mem_append_left _ (List.mem_of_getElem? (i := 4) (l := tables_1_6) rfl)))))))) rfl
set_option maxHeartbeats 4000000 in
set_option maxRecDepth 100000 in
theorem mM_24 : (Cond.fieldLink "KindRoundsModel" (45 : Nat) "KindRoundsModel" "tellName" "[J") ∈ lw_good := good_in (List.mem_append_right _ (List.mem_append_right _ (List.mem_append_right _ (List.mem_append_right _ (List.mem_append_right _ (List.mem_append_left _ (List.mem_of_getElem? (i := 238) (l := tables_1_5) rfl))))))) rfl
set_option maxHeartbeats 4000000 in
set_option maxRecDepth 100000 in
theorem mM_25 : (Cond.fieldLink "KindRoundsModel" (48 : Nat) "KindRoundsModel" "tellPlace" "[I") ∈ lw_good := good_in (List.mem_append_right _ (List.mem_append_right _ (List.mem_append_right _ (List.mem_append_right _ (List.mem_append_right _ (List.mem_append_left _ (List.mem_of_getElem? (i := 239) (l := tables_1_5) rfl))))))) rfl
set_option maxHeartbeats 4000000 in
set_option maxRecDepth 100000 in
theorem mM_26 : (Cond.fieldLink "KindRoundsModel" (51 : Nat) "KindRoundsModel" "tellOf" "[I") ∈ lw_good := good_in (List.mem_append_right _ (List.mem_append_right _ (List.mem_append_right _ (List.mem_append_right _ (List.mem_append_right _ (List.mem_append_right _ (List.mem_append_left _ (List.mem_of_getElem? (i := 0) (l := tables_1_6) rfl)))))))) rfl
set_option maxHeartbeats 4000000 in
set_option maxRecDepth 100000 in
theorem mM_27 : (Cond.fieldLink "KindRoundsModel" (282 : Nat) "KindRoundsModel" "present" "I") ∈ lw_good := good_in (List.mem_append_right _ (List.mem_append_right _ (List.mem_append_right _ (List.mem_append_right _ (List.mem_append_right _ (List.mem_append_right _ (List.mem_append_left _ (List.mem_of_getElem? (i := 5) (l := tables_1_6) rfl)))))))) rfl
set_option maxHeartbeats 4000000 in
set_option maxRecDepth 100000 in
theorem mM_28 : (Cond.fieldLink "KindRoundsModel" (54 : Nat) "KindRoundsModel" "tellNode" "[I") ∈ lw_good := good_in (List.mem_append_right _ (List.mem_append_right _ (List.mem_append_right _ (List.mem_append_right _ (List.mem_append_right _ (List.mem_append_right _ (List.mem_append_left _ (List.mem_of_getElem? (i := 1) (l := tables_1_6) rfl)))))))) rfl
set_option maxHeartbeats 4000000 in
set_option maxRecDepth 100000 in
theorem mM_29 : (Cond.fieldLink "KindRoundsModel" (57 : Nat) "KindRoundsModel" "tellFirst" "[Z") ∈ lw_good := good_in (List.mem_append_right _ (List.mem_append_right _ (List.mem_append_right _ (List.mem_append_right _ (List.mem_append_right _ (List.mem_append_right _ (List.mem_append_left _ (List.mem_of_getElem? (i := 2) (l := tables_1_6) rfl)))))))) rfl
set_option maxHeartbeats 4000000 in
set_option maxRecDepth 100000 in
theorem mM_30 : (Cond.fieldLink "KindRoundsModel" (61 : Nat) "KindRoundsModel" "tellBehind" "[I") ∈ lw_good := good_in (List.mem_append_right _ (List.mem_append_right _ (List.mem_append_right _ (List.mem_append_right _ (List.mem_append_right _ (List.mem_append_right _ (List.mem_append_left _ (List.mem_of_getElem? (i := 3) (l := tables_1_6) rfl)))))))) rfl
set_option maxHeartbeats 4000000 in
set_option maxRecDepth 100000 in
theorem mM_31 : (Cond.fieldLink "KindRoundsModel" (33 : Nat) "KindRoundsModel" "actSort" "[I") ∈ lw_good := good_in (List.mem_append_right _ (List.mem_append_right _ (List.mem_append_right _ (List.mem_append_right _ (List.mem_append_right _ (List.mem_append_left _ (List.mem_of_getElem? (i := 233) (l := tables_1_5) rfl))))))) rfl
set_option maxHeartbeats 4000000 in
set_option maxRecDepth 100000 in
theorem mM_32 : (Cond.fieldLink "KindRoundsModel" (285 : Nat) "KindRoundsModel" "acts" "I") ∈ lw_good := good_in (List.mem_append_right _ (List.mem_append_right _ (List.mem_append_right _ (List.mem_append_right _ (List.mem_append_right _ (List.mem_append_left _ (List.mem_of_getElem? (i := 236) (l := tables_1_5) rfl))))))) rfl
set_option maxHeartbeats 4000000 in
set_option maxRecDepth 100000 in
theorem mM_33 : (Cond.fieldLink "KindRoundsModel" (36 : Nat) "KindRoundsModel" "actNode" "[I") ∈ lw_good := good_in (List.mem_append_right _ (List.mem_append_right _ (List.mem_append_right _ (List.mem_append_right _ (List.mem_append_right _ (List.mem_append_left _ (List.mem_of_getElem? (i := 234) (l := tables_1_5) rfl))))))) rfl
set_option maxHeartbeats 4000000 in
set_option maxRecDepth 100000 in
theorem mM_34 : (Cond.fieldLink "KindRoundsModel" (39 : Nat) "KindRoundsModel" "actPlace" "[I") ∈ lw_good := good_in (List.mem_append_right _ (List.mem_append_right _ (List.mem_append_right _ (List.mem_append_right _ (List.mem_append_right _ (List.mem_append_left _ (List.mem_of_getElem? (i := 235) (l := tables_1_5) rfl))))))) rfl
set_option maxHeartbeats 4000000 in
set_option maxRecDepth 100000 in
theorem mM_35 : (Cond.fieldLink "KindRoundsModel" (17 : Nat) "KindRoundsModel" "sort" "[I") ∈ lw_good := good_in (List.mem_append_right _ (List.mem_append_right _ (List.mem_append_right _ (List.mem_append_right _ (List.mem_append_right _ (List.mem_append_left _ (List.mem_of_getElem? (i := 224) (l := tables_1_5) rfl))))))) rfl
set_option maxHeartbeats 4000000 in
set_option maxRecDepth 100000 in
theorem mM_36 : (Cond.fieldLink "KindRoundsModel" (288 : Nat) "KindRoundsModel" "nodes" "I") ∈ lw_good := good_in (List.mem_append_right _ (List.mem_append_right _ (List.mem_append_right _ (List.mem_append_right _ (List.mem_append_right _ (List.mem_append_left _ (List.mem_of_getElem? (i := 229) (l := tables_1_5) rfl))))))) rfl
set_option maxHeartbeats 4000000 in
set_option maxRecDepth 100000 in
theorem mM_37 : (Cond.fieldLink "KindRoundsModel" (24 : Nat) "KindRoundsModel" "left" "[I") ∈ lw_good := good_in (List.mem_append_right _ (List.mem_append_right _ (List.mem_append_right _ (List.mem_append_right _ (List.mem_append_right _ (List.mem_append_left _ (List.mem_of_getElem? (i := 226) (l := tables_1_5) rfl))))))) rfl
set_option maxHeartbeats 4000000 in
set_option maxRecDepth 100000 in
theorem mM_38 : (Cond.fieldLink "KindRoundsModel" (27 : Nat) "KindRoundsModel" "right" "[I") ∈ lw_good := good_in (List.mem_append_right _ (List.mem_append_right _ (List.mem_append_right _ (List.mem_append_right _ (List.mem_append_right _ (List.mem_append_left _ (List.mem_of_getElem? (i := 227) (l := tables_1_5) rfl))))))) rfl
set_option maxHeartbeats 4000000 in
set_option maxRecDepth 100000 in
theorem mM_39 : (Cond.fieldLink "KindRoundsModel" (291 : Nat) "KindRoundsModel" "counted" "I") ∈ lw_good := good_in (List.mem_append_right _ (List.mem_append_right _ (List.mem_append_right _ (List.mem_append_right _ (List.mem_append_right _ (List.mem_append_left _ (List.mem_of_getElem? (i := 230) (l := tables_1_5) rfl))))))) rfl
set_option maxHeartbeats 4000000 in
set_option maxRecDepth 100000 in
theorem mM_40 : (Cond.fieldLink "KindRoundsModel" (294 : Nat) "KindRoundsModel" "depth" "I") ∈ lw_good := good_in (List.mem_append_right _ (List.mem_append_right _ (List.mem_append_right _ (List.mem_append_right _ (List.mem_append_right _ (List.mem_append_left _ (List.mem_of_getElem? (i := 231) (l := tables_1_5) rfl))))))) rfl
set_option maxHeartbeats 4000000 in
set_option maxRecDepth 100000 in
theorem mM_41 : (Cond.fieldLink "KindRoundsModel" (297 : Nat) "KindRoundsModel" "level" "I") ∈ lw_good := good_in (List.mem_append_right _ (List.mem_append_right _ (List.mem_append_right _ (List.mem_append_right _ (List.mem_append_right _ (List.mem_append_right _ (List.mem_append_left _ (List.mem_of_getElem? (i := 15) (l := tables_1_6) rfl)))))))) rfl
set_option maxHeartbeats 4000000 in
set_option maxRecDepth 100000 in
theorem mM_42 : (Cond.fieldLink "KindRoundsModel" (64 : Nat) "KindRoundsModel" "how" "[I") ∈ lw_good := good_in (List.mem_append_right _ (List.mem_append_right _ (List.mem_append_right _ (List.mem_append_right _ (List.mem_append_right _ (List.mem_append_right _ (List.mem_append_left _ (List.mem_of_getElem? (i := 6) (l := tables_1_6) rfl)))))))) rfl
set_option maxHeartbeats 4000000 in
set_option maxRecDepth 100000 in
theorem mM_43 : (Cond.fieldLink "KindRoundsModel" (67 : Nat) "KindRoundsModel" "opened" "[I") ∈ lw_good := good_in (List.mem_append_right _ (List.mem_append_right _ (List.mem_append_right _ (List.mem_append_right _ (List.mem_append_right _ (List.mem_append_right _ (List.mem_append_left _ (List.mem_of_getElem? (i := 7) (l := tables_1_6) rfl)))))))) rfl
set_option maxHeartbeats 4000000 in
set_option maxRecDepth 100000 in
theorem mM_44 : (Cond.fieldLink "KindRoundsModel" (70 : Nat) "KindRoundsModel" "some" "[I") ∈ lw_good := good_in (List.mem_append_right _ (List.mem_append_right _ (List.mem_append_right _ (List.mem_append_right _ (List.mem_append_right _ (List.mem_append_right _ (List.mem_append_left _ (List.mem_of_getElem? (i := 8) (l := tables_1_6) rfl)))))))) rfl
set_option maxHeartbeats 4000000 in
set_option maxRecDepth 100000 in
theorem mM_45 : (Cond.fieldLink "KindRoundsModel" (82 : Nat) "KindRoundsModel" "whole" "[I") ∈ lw_good := good_in (List.mem_append_right _ (List.mem_append_right _ (List.mem_append_right _ (List.mem_append_right _ (List.mem_append_right _ (List.mem_append_right _ (List.mem_append_left _ (List.mem_of_getElem? (i := 12) (l := tables_1_6) rfl)))))))) rfl
set_option maxHeartbeats 4000000 in
set_option maxRecDepth 100000 in
theorem mM_46 : (Cond.fieldLink "KindRoundsModel" (85 : Nat) "KindRoundsModel" "lastArrow" "[I") ∈ lw_good := good_in (List.mem_append_right _ (List.mem_append_right _ (List.mem_append_right _ (List.mem_append_right _ (List.mem_append_right _ (List.mem_append_right _ (List.mem_append_left _ (List.mem_of_getElem? (i := 13) (l := tables_1_6) rfl)))))))) rfl
set_option maxHeartbeats 4000000 in
set_option maxRecDepth 100000 in
theorem mM_47 : (Cond.fieldLink "KindRoundsModel" (88 : Nat) "KindRoundsModel" "wholePlace" "[I") ∈ lw_good := good_in (List.mem_append_right _ (List.mem_append_right _ (List.mem_append_right _ (List.mem_append_right _ (List.mem_append_right _ (List.mem_append_right _ (List.mem_append_left _ (List.mem_of_getElem? (i := 14) (l := tables_1_6) rfl)))))))) rfl
set_option maxHeartbeats 4000000 in
set_option maxRecDepth 100000 in
theorem mM_48 : (Cond.methodLink "KindRoundsModel" (300 : Nat) ({ cls := "KindRoundsModel", name := "node", desc := "(III)I" } : Jvm.MethodName)) ∈ lw_good := good_in (List.mem_append_right _ (List.mem_append_right _ (List.mem_append_right _ (List.mem_append_right _ (List.mem_append_right _ (List.mem_append_right _ (List.mem_append_right _ (List.mem_append_left _ (List.mem_of_getElem? (i := 157) (l := tables_1_7) rfl))))))))) rfl
set_option maxHeartbeats 4000000 in
set_option maxRecDepth 100000 in
theorem mM_49 : (Cond.methodLink "KindRoundsModel" (303 : Nat) ({ cls := "KindRoundsModel", name := "act", desc := "(III)V" } : Jvm.MethodName)) ∈ lw_good := good_in (List.mem_append_right _ (List.mem_append_right _ (List.mem_append_right _ (List.mem_append_right _ (List.mem_append_right _ (List.mem_append_right _ (List.mem_append_right _ (List.mem_append_left _ (List.mem_of_getElem? (i := 165) (l := tables_1_7) rfl))))))))) rfl
set_option maxHeartbeats 4000000 in
set_option maxRecDepth 100000 in
theorem mM_50 : (Cond.fieldLink "KindRoundsModel" (76 : Nat) "KindRoundsModel" "behindHead" "[I") ∈ lw_good := good_in (List.mem_append_right _ (List.mem_append_right _ (List.mem_append_right _ (List.mem_append_right _ (List.mem_append_right _ (List.mem_append_right _ (List.mem_append_left _ (List.mem_of_getElem? (i := 10) (l := tables_1_6) rfl)))))))) rfl
set_option maxHeartbeats 4000000 in
set_option maxRecDepth 100000 in
theorem mM_51 : (Cond.fieldLink "KindRoundsModel" (73 : Nat) "KindRoundsModel" "head" "[I") ∈ lw_good := good_in (List.mem_append_right _ (List.mem_append_right _ (List.mem_append_right _ (List.mem_append_right _ (List.mem_append_right _ (List.mem_append_right _ (List.mem_append_left _ (List.mem_of_getElem? (i := 9) (l := tables_1_6) rfl)))))))) rfl
set_option maxHeartbeats 4000000 in
set_option maxRecDepth 100000 in
theorem mM_52 : (Cond.fieldLink "KindRoundsModel" (79 : Nat) "KindRoundsModel" "somePlace" "[I") ∈ lw_good := good_in (List.mem_append_right _ (List.mem_append_right _ (List.mem_append_right _ (List.mem_append_right _ (List.mem_append_right _ (List.mem_append_right _ (List.mem_append_left _ (List.mem_of_getElem? (i := 11) (l := tables_1_6) rfl)))))))) rfl
set_option maxHeartbeats 4000000 in
set_option maxRecDepth 100000 in
theorem mM_53 : (Cond.methodLink "KindRoundsModel" (313 : Nat) ({ cls := "KindRoundsModel", name := "tell", desc := "(II)V" } : Jvm.MethodName)) ∈ lw_good := good_in (List.mem_append_right _ (List.mem_append_right _ (List.mem_append_right _ (List.mem_append_right _ (List.mem_append_right _ (List.mem_append_right _ (List.mem_append_right _ (List.mem_append_left _ (List.mem_of_getElem? (i := 97) (l := tables_1_7) rfl))))))))) rfl
set_option maxHeartbeats 4000000 in
set_option maxRecDepth 100000 in
theorem mM_54 : (Cond.methodLink "KindRoundsModel" (316 : Nat) ({ cls := "KindRoundsModel", name := "addOne", desc := "(III)V" } : Jvm.MethodName)) ∈ lw_good := good_in (List.mem_append_right _ (List.mem_append_right _ (List.mem_append_right _ (List.mem_append_right _ (List.mem_append_right _ (List.mem_append_right _ (List.mem_append_right _ (List.mem_append_left _ (List.mem_of_getElem? (i := 161) (l := tables_1_7) rfl))))))))) rfl
set_option maxHeartbeats 4000000 in
set_option maxRecDepth 100000 in
theorem mM_55 : (Cond.fieldLink "KindRoundsModel" (310 : Nat) "KindRoundsModel" "method" "I") ∈ lw_good := good_in (List.mem_append_right _ (List.mem_append_right _ (List.mem_append_right _ (List.mem_append_right _ (List.mem_append_right _ (List.mem_append_right _ (List.mem_append_left _ (List.mem_of_getElem? (i := 40) (l := tables_1_6) rfl)))))))) rfl
set_option maxHeartbeats 4000000 in
set_option maxRecDepth 100000 in
theorem mM_56 : (Cond.fieldLink "KindRoundsModel" (20 : Nat) "KindRoundsModel" "called" "[J") ∈ lw_good := good_in (List.mem_append_right _ (List.mem_append_right _ (List.mem_append_right _ (List.mem_append_right _ (List.mem_append_right _ (List.mem_append_left _ (List.mem_of_getElem? (i := 225) (l := tables_1_5) rfl))))))) rfl
set_option maxHeartbeats 4000000 in
set_option maxRecDepth 100000 in
theorem mM_57 : (Cond.methodLink "KindRoundsModel" (307 : Nat) ({ cls := "KindRoundsModel", name := "count", desc := "()V" } : Jvm.MethodName)) ∈ lw_good := good_in (List.mem_append_right _ (List.mem_append_right _ (List.mem_append_right _ (List.mem_append_right _ (List.mem_append_right _ (List.mem_append_right _ (List.mem_append_right _ (List.mem_append_left _ (List.mem_of_getElem? (i := 153) (l := tables_1_7) rfl))))))))) rfl
set_option maxHeartbeats 4000000 in
set_option maxRecDepth 100000 in
theorem mM_58 : (Cond.methodLink "KindRoundsModel" (322 : Nat) ({ cls := "KindRoundsModel", name := "open", desc := "(I)V" } : Jvm.MethodName)) ∈ lw_good := good_in (List.mem_append_right _ (List.mem_append_right _ (List.mem_append_right _ (List.mem_append_right _ (List.mem_append_right _ (List.mem_append_right _ (List.mem_append_right _ (List.mem_append_left _ (List.mem_of_getElem? (i := 141) (l := tables_1_7) rfl))))))))) rfl
set_option maxHeartbeats 4000000 in
set_option maxRecDepth 100000 in
theorem mM_59 : (Cond.methodLink "KindRoundsModel" (319 : Nat) ({ cls := "KindRoundsModel", name := "deeper", desc := "()V" } : Jvm.MethodName)) ∈ lw_good := good_in (List.mem_append_right _ (List.mem_append_right _ (List.mem_append_right _ (List.mem_append_right _ (List.mem_append_right _ (List.mem_append_right _ (List.mem_append_right _ (List.mem_append_left _ (List.mem_of_getElem? (i := 121) (l := tables_1_7) rfl))))))))) rfl
set_option maxHeartbeats 4000000 in
set_option maxRecDepth 100000 in
theorem mM_60 : (Cond.methodLink "KindRoundsModel" (326 : Nat) ({ cls := "KindRoundsModel", name := "want", desc := "(I)V" } : Jvm.MethodName)) ∈ lw_good := good_in (List.mem_append_right _ (List.mem_append_right _ (List.mem_append_right _ (List.mem_append_right _ (List.mem_append_right _ (List.mem_append_right _ (List.mem_append_right _ (List.mem_append_left _ (List.mem_of_getElem? (i := 101) (l := tables_1_7) rfl))))))))) rfl
set_option maxHeartbeats 4000000 in
set_option maxRecDepth 100000 in
theorem mM_61 : (Cond.methodLink "KindRoundsModel" (329 : Nat) ({ cls := "KindRoundsModel", name := "readOpen", desc := "(I)I" } : Jvm.MethodName)) ∈ lw_good := good_in (List.mem_append_right _ (List.mem_append_right _ (List.mem_append_right _ (List.mem_append_right _ (List.mem_append_right _ (List.mem_append_right _ (List.mem_append_right _ (List.mem_append_left _ (List.mem_of_getElem? (i := 137) (l := tables_1_7) rfl))))))))) rfl
set_option maxHeartbeats 4000000 in
set_option maxRecDepth 100000 in
theorem mM_62 : (Cond.methodLink "KindRoundsModel" (345 : Nat) ({ cls := "KindRoundsModel", name := "closeOne", desc := "()V" } : Jvm.MethodName)) ∈ lw_good := good_in (List.mem_append_right _ (List.mem_append_right _ (List.mem_append_right _ (List.mem_append_right _ (List.mem_append_right _ (List.mem_append_right _ (List.mem_append_right _ (List.mem_append_left _ (List.mem_of_getElem? (i := 173) (l := tables_1_7) rfl))))))))) rfl
set_option maxHeartbeats 4000000 in
set_option maxRecDepth 100000 in
theorem mM_63 : (Cond.fieldLink "KindRoundsModel" (332 : Nat) "KindRoundsModel" "firstPlace" "I") ∈ lw_good := good_in (List.mem_append_right _ (List.mem_append_right _ (List.mem_append_right _ (List.mem_append_right _ (List.mem_append_right _ (List.mem_append_left _ (List.mem_of_getElem? (i := 232) (l := tables_1_5) rfl))))))) rfl
set_option maxHeartbeats 4000000 in
set_option maxRecDepth 100000 in
theorem mM_64 : (Cond.methodLink "KindRoundsModel" (335 : Nat) ({ cls := "KindRoundsModel", name := "canBegin", desc := "()Z" } : Jvm.MethodName)) ∈ lw_good := good_in (List.mem_append_right _ (List.mem_append_right _ (List.mem_append_right _ (List.mem_append_right _ (List.mem_append_right _ (List.mem_append_right _ (List.mem_append_right _ (List.mem_append_left _ (List.mem_of_getElem? (i := 145) (l := tables_1_7) rfl))))))))) rfl
set_option maxHeartbeats 4000000 in
set_option maxRecDepth 100000 in
theorem mM_65 : (Cond.methodLink "KindRoundsModel" (342 : Nat) ({ cls := "KindRoundsModel", name := "endSome", desc := "()V" } : Jvm.MethodName)) ∈ lw_good := good_in (List.mem_append_right _ (List.mem_append_right _ (List.mem_append_right _ (List.mem_append_right _ (List.mem_append_right _ (List.mem_append_right _ (List.mem_append_right _ (List.mem_append_left _ (List.mem_of_getElem? (i := 169) (l := tables_1_7) rfl))))))))) rfl
set_option maxHeartbeats 4000000 in
set_option maxRecDepth 100000 in
theorem mM_66 : (Cond.methodLink "KindRoundsModel" (339 : Nat) ({ cls := "KindRoundsModel", name := "beginOne", desc := "()V" } : Jvm.MethodName)) ∈ lw_good := good_in (List.mem_append_right _ (List.mem_append_right _ (List.mem_append_right _ (List.mem_append_right _ (List.mem_append_right _ (List.mem_append_right _ (List.mem_append_right _ (List.mem_append_left _ (List.mem_of_getElem? (i := 149) (l := tables_1_7) rfl))))))))) rfl
set_option maxHeartbeats 4000000 in
set_option maxRecDepth 100000 in
theorem mM_67 : (Cond.fieldLink "KindRoundsModel" (91 : Nat) "KindRoundsModel" "kSort" "[I") ∈ lw_good := good_in (List.mem_append_right _ (List.mem_append_right _ (List.mem_append_right _ (List.mem_append_right _ (List.mem_append_right _ (List.mem_append_right _ (List.mem_append_left _ (List.mem_of_getElem? (i := 16) (l := tables_1_6) rfl)))))))) rfl
set_option maxHeartbeats 4000000 in
set_option maxRecDepth 100000 in
theorem mM_68 : (Cond.fieldLink "KindRoundsModel" (209 : Nat) "KindRoundsModel" "kinds" "I") ∈ lw_good := good_in (List.mem_append_right _ (List.mem_append_right _ (List.mem_append_right _ (List.mem_append_right _ (List.mem_append_right _ (List.mem_append_right _ (List.mem_append_left _ (List.mem_of_getElem? (i := 21) (l := tables_1_6) rfl)))))))) rfl
set_option maxHeartbeats 4000000 in
set_option maxRecDepth 100000 in
theorem mM_69 : (Cond.fieldLink "KindRoundsModel" (94 : Nat) "KindRoundsModel" "kLeft" "[I") ∈ lw_good := good_in (List.mem_append_right _ (List.mem_append_right _ (List.mem_append_right _ (List.mem_append_right _ (List.mem_append_right _ (List.mem_append_right _ (List.mem_append_left _ (List.mem_of_getElem? (i := 17) (l := tables_1_6) rfl)))))))) rfl
set_option maxHeartbeats 4000000 in
set_option maxRecDepth 100000 in
theorem mM_70 : (Cond.fieldLink "KindRoundsModel" (97 : Nat) "KindRoundsModel" "kRight" "[I") ∈ lw_good := good_in (List.mem_append_right _ (List.mem_append_right _ (List.mem_append_right _ (List.mem_append_right _ (List.mem_append_right _ (List.mem_append_right _ (List.mem_append_left _ (List.mem_of_getElem? (i := 18) (l := tables_1_6) rfl)))))))) rfl
set_option maxHeartbeats 4000000 in
set_option maxRecDepth 100000 in
theorem mM_71 : (Cond.fieldLink "KindRoundsModel" (100 : Nat) "KindRoundsModel" "up" "[I") ∈ lw_good := good_in (List.mem_append_right _ (List.mem_append_right _ (List.mem_append_right _ (List.mem_append_right _ (List.mem_append_right _ (List.mem_append_right _ (List.mem_append_left _ (List.mem_of_getElem? (i := 19) (l := tables_1_6) rfl)))))))) rfl
set_option maxHeartbeats 4000000 in
set_option maxRecDepth 100000 in
theorem mM_72 : (Cond.fieldLink "KindRoundsModel" (109 : Nat) "KindRoundsModel" "lastTo" "[I") ∈ lw_good := good_in (List.mem_append_right _ (List.mem_append_right _ (List.mem_append_right _ (List.mem_append_right _ (List.mem_append_right _ (List.mem_append_right _ (List.mem_append_left _ (List.mem_of_getElem? (i := 24) (l := tables_1_6) rfl)))))))) rfl
set_option maxHeartbeats 4000000 in
set_option maxRecDepth 100000 in
theorem mM_73 : (Cond.methodLink "KindRoundsModel" (202 : Nat) ({ cls := "KindRoundsModel", name := "newKind", desc := "(III)I" } : Jvm.MethodName)) ∈ lw_good := good_in (List.mem_append_right _ (List.mem_append_right _ (List.mem_append_right _ (List.mem_append_right _ (List.mem_append_right _ (List.mem_append_left _ (List.mem_of_getElem? (i := 209) (l := tables_1_5) rfl))))))) rfl
set_option maxHeartbeats 4000000 in
set_option maxRecDepth 100000 in
theorem mM_74 : (Cond.fieldLink "KindRoundsModel" (106 : Nat) "KindRoundsModel" "wholeKind" "[I") ∈ lw_good := good_in (List.mem_append_right _ (List.mem_append_right _ (List.mem_append_right _ (List.mem_append_right _ (List.mem_append_right _ (List.mem_append_right _ (List.mem_append_left _ (List.mem_of_getElem? (i := 23) (l := tables_1_6) rfl)))))))) rfl
set_option maxHeartbeats 4000000 in
set_option maxRecDepth 100000 in
theorem mM_75 : (Cond.methodLink "KindRoundsModel" (351 : Nat) ({ cls := "KindRoundsModel", name := "addPart", desc := "(I)V" } : Jvm.MethodName)) ∈ lw_good := good_in (List.mem_append_right _ (List.mem_append_right _ (List.mem_append_right _ (List.mem_append_right _ (List.mem_append_right _ (List.mem_append_right _ (List.mem_append_right _ (List.mem_append_left _ (List.mem_of_getElem? (i := 117) (l := tables_1_7) rfl))))))))) rfl
set_option maxHeartbeats 4000000 in
set_option maxRecDepth 100000 in
theorem mM_76 : (Cond.methodLink "KindRoundsModel" (348 : Nat) ({ cls := "KindRoundsModel", name := "openKind", desc := "()V" } : Jvm.MethodName)) ∈ lw_good := good_in (List.mem_append_right _ (List.mem_append_right _ (List.mem_append_right _ (List.mem_append_right _ (List.mem_append_right _ (List.mem_append_right _ (List.mem_append_right _ (List.mem_append_left _ (List.mem_of_getElem? (i := 113) (l := tables_1_7) rfl))))))))) rfl
set_option maxHeartbeats 4000000 in
set_option maxRecDepth 100000 in
theorem mM_77 : (Cond.fieldLink "KindRoundsModel" (206 : Nat) "KindRoundsModel" "star" "I") ∈ lw_good := good_in (List.mem_append_right _ (List.mem_append_right _ (List.mem_append_right _ (List.mem_append_right _ (List.mem_append_right _ (List.mem_append_right _ (List.mem_append_left _ (List.mem_of_getElem? (i := 22) (l := tables_1_6) rfl)))))))) rfl
set_option maxHeartbeats 4000000 in
set_option maxRecDepth 100000 in
theorem mM_78 : (Cond.fieldLink "KindRoundsModel" (354 : Nat) "KindRoundsModel" "wasSix" "Z") ∈ lw_good := good_in (List.mem_append_right _ (List.mem_append_right _ (List.mem_append_right _ (List.mem_append_right _ (List.mem_append_right _ (List.mem_append_left _ (List.mem_of_getElem? (i := 223) (l := tables_1_5) rfl))))))) rfl
set_option maxHeartbeats 4000000 in
set_option maxRecDepth 100000 in
theorem mM_79 : (Cond.fieldLink "KindRoundsModel" (133 : Nat) "KindRoundsModel" "actTo" "[I") ∈ lw_good := good_in (List.mem_append_right _ (List.mem_append_right _ (List.mem_append_right _ (List.mem_append_right _ (List.mem_append_right _ (List.mem_append_right _ (List.mem_append_left _ (List.mem_of_getElem? (i := 33) (l := tables_1_6) rfl)))))))) rfl
set_option maxHeartbeats 4000000 in
set_option maxRecDepth 100000 in
theorem mM_80 : (Cond.methodLink "KindRoundsModel" (358 : Nat) ({ cls := "KindRoundsModel", name := "wantName", desc := "(I)Z" } : Jvm.MethodName)) ∈ lw_good := good_in (List.mem_append_right _ (List.mem_append_right _ (List.mem_append_right _ (List.mem_append_right _ (List.mem_append_right _ (List.mem_append_right _ (List.mem_append_right _ (List.mem_append_left _ (List.mem_of_getElem? (i := 89) (l := tables_1_7) rfl))))))))) rfl
set_option maxHeartbeats 4000000 in
set_option maxRecDepth 100000 in
theorem mM_81 : (Cond.fieldLink "KindRoundsModel" (364 : Nat) "KindRoundsModel" "decls" "I") ∈ lw_good := good_in (List.mem_append_right _ (List.mem_append_right _ (List.mem_append_right _ (List.mem_append_right _ (List.mem_append_right _ (List.mem_append_right _ (List.mem_append_left _ (List.mem_of_getElem? (i := 25) (l := tables_1_6) rfl)))))))) rfl
set_option maxHeartbeats 4000000 in
set_option maxRecDepth 100000 in
theorem mM_82 : (Cond.fieldLink "KindRoundsModel" (112 : Nat) "KindRoundsModel" "declSort" "[I") ∈ lw_good := good_in (List.mem_append_right _ (List.mem_append_right _ (List.mem_append_right _ (List.mem_append_right _ (List.mem_append_right _ (List.mem_append_right _ (List.mem_append_left _ (List.mem_of_getElem? (i := 26) (l := tables_1_6) rfl)))))))) rfl
set_option maxHeartbeats 4000000 in
set_option maxRecDepth 100000 in
theorem mM_83 : (Cond.fieldLink "KindRoundsModel" (115 : Nat) "KindRoundsModel" "declName" "[J") ∈ lw_good := good_in (List.mem_append_right _ (List.mem_append_right _ (List.mem_append_right _ (List.mem_append_right _ (List.mem_append_right _ (List.mem_append_right _ (List.mem_append_left _ (List.mem_of_getElem? (i := 27) (l := tables_1_6) rfl)))))))) rfl
set_option maxHeartbeats 4000000 in
set_option maxRecDepth 100000 in
theorem mM_84 : (Cond.fieldLink "KindRoundsModel" (118 : Nat) "KindRoundsModel" "declPlace" "[I") ∈ lw_good := good_in (List.mem_append_right _ (List.mem_append_right _ (List.mem_append_right _ (List.mem_append_right _ (List.mem_append_right _ (List.mem_append_right _ (List.mem_append_left _ (List.mem_of_getElem? (i := 28) (l := tables_1_6) rfl)))))))) rfl
set_option maxHeartbeats 4000000 in
set_option maxRecDepth 100000 in
theorem mM_85 : (Cond.fieldLink "KindRoundsModel" (121 : Nat) "KindRoundsModel" "params" "[I") ∈ lw_good := good_in (List.mem_append_right _ (List.mem_append_right _ (List.mem_append_right _ (List.mem_append_right _ (List.mem_append_right _ (List.mem_append_right _ (List.mem_append_left _ (List.mem_of_getElem? (i := 29) (l := tables_1_6) rfl)))))))) rfl
set_option maxHeartbeats 4000000 in
set_option maxRecDepth 100000 in
theorem mM_86 : (Cond.fieldLink "KindRoundsModel" (127 : Nat) "KindRoundsModel" "parts" "[I") ∈ lw_good := good_in (List.mem_append_right _ (List.mem_append_right _ (List.mem_append_right _ (List.mem_append_right _ (List.mem_append_right _ (List.mem_append_right _ (List.mem_append_left _ (List.mem_of_getElem? (i := 31) (l := tables_1_6) rfl)))))))) rfl
set_option maxHeartbeats 4000000 in
set_option maxRecDepth 100000 in
theorem mM_87 : (Cond.fieldLink "KindRoundsModel" (130 : Nat) "KindRoundsModel" "actFrom" "[I") ∈ lw_good := good_in (List.mem_append_right _ (List.mem_append_right _ (List.mem_append_right _ (List.mem_append_right _ (List.mem_append_right _ (List.mem_append_right _ (List.mem_append_left _ (List.mem_of_getElem? (i := 32) (l := tables_1_6) rfl)))))))) rfl
set_option maxHeartbeats 4000000 in
set_option maxRecDepth 100000 in
theorem mM_88 : (Cond.methodLink "KindRoundsModel" (370 : Nat) ({ cls := "KindRoundsModel", name := "readSides", desc := "(I)V" } : Jvm.MethodName)) ∈ lw_good := good_in (List.mem_append_right _ (List.mem_append_right _ (List.mem_append_right _ (List.mem_append_right _ (List.mem_append_right _ (List.mem_append_right _ (List.mem_append_right _ (List.mem_append_left _ (List.mem_of_getElem? (i := 177) (l := tables_1_7) rfl))))))))) rfl
set_option maxHeartbeats 4000000 in
set_option maxRecDepth 100000 in
theorem mM_89 : (Cond.methodLink "KindRoundsModel" (367 : Nat) ({ cls := "KindRoundsModel", name := "readClass", desc := "()V" } : Jvm.MethodName)) ∈ lw_good := good_in (List.mem_append_right _ (List.mem_append_right _ (List.mem_append_right _ (List.mem_append_right _ (List.mem_append_right _ (List.mem_append_right _ (List.mem_append_right _ (List.mem_append_left _ (List.mem_of_getElem? (i := 125) (l := tables_1_7) rfl))))))))) rfl
set_option maxHeartbeats 4000000 in
set_option maxRecDepth 100000 in
theorem mM_90 : (Cond.methodLink "KindRoundsModel" (361 : Nat) ({ cls := "KindRoundsModel", name := "readWish", desc := "()V" } : Jvm.MethodName)) ∈ lw_good := good_in (List.mem_append_right _ (List.mem_append_right _ (List.mem_append_right _ (List.mem_append_right _ (List.mem_append_right _ (List.mem_append_right _ (List.mem_append_right _ (List.mem_append_left _ (List.mem_of_getElem? (i := 93) (l := tables_1_7) rfl))))))))) rfl
set_option maxHeartbeats 4000000 in
set_option maxRecDepth 100000 in
theorem mM_91 : (Cond.fieldLink "KindRoundsModel" (373 : Nat) "KindRoundsModel" "wishes" "I") ∈ lw_good := good_in (List.mem_append_right _ (List.mem_append_right _ (List.mem_append_right _ (List.mem_append_right _ (List.mem_append_right _ (List.mem_append_right _ (List.mem_append_left _ (List.mem_of_getElem? (i := 35) (l := tables_1_6) rfl)))))))) rfl
set_option maxHeartbeats 4000000 in
set_option maxRecDepth 100000 in
theorem mM_92 : (Cond.fieldLink "KindRoundsModel" (139 : Nat) "KindRoundsModel" "wishName" "[J") ∈ lw_good := good_in (List.mem_append_right _ (List.mem_append_right _ (List.mem_append_right _ (List.mem_append_right _ (List.mem_append_right _ (List.mem_append_right _ (List.mem_append_left _ (List.mem_of_getElem? (i := 36) (l := tables_1_6) rfl)))))))) rfl
set_option maxHeartbeats 4000000 in
set_option maxRecDepth 100000 in
theorem mM_93 : (Cond.fieldLink "KindRoundsModel" (142 : Nat) "KindRoundsModel" "wishPlace" "[I") ∈ lw_good := good_in (List.mem_append_right _ (List.mem_append_right _ (List.mem_append_right _ (List.mem_append_right _ (List.mem_append_right _ (List.mem_append_right _ (List.mem_append_left _ (List.mem_of_getElem? (i := 37) (l := tables_1_6) rfl)))))))) rfl
set_option maxHeartbeats 4000000 in
set_option maxRecDepth 100000 in
theorem mM_94 : (Cond.fieldLink "KindRoundsModel" (145 : Nat) "KindRoundsModel" "wishKind" "[I") ∈ lw_good := good_in (List.mem_append_right _ (List.mem_append_right _ (List.mem_append_right _ (List.mem_append_right _ (List.mem_append_right _ (List.mem_append_right _ (List.mem_append_left _ (List.mem_of_getElem? (i := 38) (l := tables_1_6) rfl)))))))) rfl
set_option maxHeartbeats 4000000 in
set_option maxRecDepth 100000 in
theorem mM_95 : (Cond.methodLink "KindRoundsModel" (376 : Nat) ({ cls := "KindRoundsModel", name := "readKind", desc := "()I" } : Jvm.MethodName)) ∈ lw_good := good_in (List.mem_append_right _ (List.mem_append_right _ (List.mem_append_right _ (List.mem_append_right _ (List.mem_append_right _ (List.mem_append_right _ (List.mem_append_right _ (List.mem_append_left _ (List.mem_of_getElem? (i := 109) (l := tables_1_7) rfl))))))))) rfl
set_option maxHeartbeats 4000000 in
set_option maxRecDepth 100000 in
theorem mM_96 : (Cond.fieldLink "KindRoundsModel" (124 : Nat) "KindRoundsModel" "paramName" "[J") ∈ lw_good := good_in (List.mem_append_right _ (List.mem_append_right _ (List.mem_append_right _ (List.mem_append_right _ (List.mem_append_right _ (List.mem_append_right _ (List.mem_append_left _ (List.mem_of_getElem? (i := 30) (l := tables_1_6) rfl)))))))) rfl
set_option maxHeartbeats 4000000 in
set_option maxRecDepth 100000 in
theorem mM_97 : (Cond.methodLink "KindRoundsModel" (386 : Nat) ({ cls := "KindRoundsModel", name := "readCon", desc := "()V" } : Jvm.MethodName)) ∈ lw_good := good_in (List.mem_append_right _ (List.mem_append_right _ (List.mem_append_right _ (List.mem_append_right _ (List.mem_append_right _ (List.mem_append_right _ (List.mem_append_right _ (List.mem_append_left _ (List.mem_of_getElem? (i := 181) (l := tables_1_7) rfl))))))))) rfl
set_option maxHeartbeats 4000000 in
set_option maxRecDepth 100000 in
theorem mM_98 : (Cond.methodLink "KindRoundsModel" (383 : Nat) ({ cls := "KindRoundsModel", name := "readType", desc := "()I" } : Jvm.MethodName)) ∈ lw_good := good_in (List.mem_append_right _ (List.mem_append_right _ (List.mem_append_right _ (List.mem_append_right _ (List.mem_append_right _ (List.mem_append_right _ (List.mem_append_right _ (List.mem_append_left _ (List.mem_of_getElem? (i := 133) (l := tables_1_7) rfl))))))))) rfl
set_option maxHeartbeats 4000000 in
set_option maxRecDepth 100000 in
theorem mM_99 : (Cond.fieldLink "KindRoundsModel" (136 : Nat) "KindRoundsModel" "rightSide" "[I") ∈ lw_good := good_in (List.mem_append_right _ (List.mem_append_right _ (List.mem_append_right _ (List.mem_append_right _ (List.mem_append_right _ (List.mem_append_right _ (List.mem_append_left _ (List.mem_of_getElem? (i := 34) (l := tables_1_6) rfl)))))))) rfl
set_option maxHeartbeats 4000000 in
set_option maxRecDepth 100000 in
theorem mM_100 : (Cond.methodLink "KindRoundsModel" (380 : Nat) ({ cls := "KindRoundsModel", name := "readParam", desc := "()V" } : Jvm.MethodName)) ∈ lw_good := good_in (List.mem_append_right _ (List.mem_append_right _ (List.mem_append_right _ (List.mem_append_right _ (List.mem_append_right _ (List.mem_append_right _ (List.mem_append_right _ (List.mem_append_left _ (List.mem_of_getElem? (i := 129) (l := tables_1_7) rfl))))))))) rfl
set_option maxHeartbeats 4000000 in
set_option maxRecDepth 100000 in
theorem mM_101 : (Cond.methodLink "KindRoundsModel" (389 : Nat) ({ cls := "KindRoundsModel", name := "readOne", desc := "()I" } : Jvm.MethodName)) ∈ lw_good := good_in (List.mem_append_right _ (List.mem_append_right _ (List.mem_append_right _ (List.mem_append_right _ (List.mem_append_right _ (List.mem_append_right _ (List.mem_append_right _ (List.mem_append_left _ (List.mem_of_getElem? (i := 185) (l := tables_1_7) rfl))))))))) rfl
set_option maxHeartbeats 4000000 in
set_option maxRecDepth 100000 in
theorem mM_102 : (Cond.fieldLink "KindRoundsModel" (392 : Nat) "KindRoundsModel" "methods" "I") ∈ lw_good := good_in (List.mem_append_right _ (List.mem_append_right _ (List.mem_append_right _ (List.mem_append_right _ (List.mem_append_right _ (List.mem_append_right _ (List.mem_append_left _ (List.mem_of_getElem? (i := 39) (l := tables_1_6) rfl)))))))) rfl
set_option maxHeartbeats 4000000 in
set_option maxRecDepth 100000 in
theorem mM_103 : (Cond.methodLink "KindRoundsModel" (398 : Nat) ({ cls := "KindRoundsModel", name := "readDecl", desc := "()V" } : Jvm.MethodName)) ∈ lw_good := good_in (List.mem_append_right _ (List.mem_append_right _ (List.mem_append_right _ (List.mem_append_right _ (List.mem_append_right _ (List.mem_append_right _ (List.mem_append_right _ (List.mem_append_left _ (List.mem_of_getElem? (i := 81) (l := tables_1_7) rfl))))))))) rfl
set_option maxHeartbeats 4000000 in
set_option maxRecDepth 100000 in
theorem mM_104 : (Cond.methodLink "KindRoundsModel" (395 : Nat) ({ cls := "KindRoundsModel", name := "begin", desc := "()V" } : Jvm.MethodName)) ∈ lw_good := good_in (List.mem_append_right _ (List.mem_append_right _ (List.mem_append_right _ (List.mem_append_right _ (List.mem_append_right _ (List.mem_append_right _ (List.mem_append_right _ (List.mem_append_left _ (List.mem_of_getElem? (i := 48) (l := tables_1_7) rfl))))))))) rfl
set_option maxHeartbeats 4000000 in
set_option maxRecDepth 100000 in
theorem mM_105 : (Cond.methodLink "KindRoundsModel" (414 : Nat) ({ cls := "KindRoundsModel", name := "declOf", desc := "(J)I" } : Jvm.MethodName)) ∈ lw_good := good_in (List.mem_append_right _ (List.mem_append_right _ (List.mem_append_right _ (List.mem_append_right _ (List.mem_append_right _ (List.mem_append_right _ (List.mem_append_right _ (List.mem_append_left _ (List.mem_of_getElem? (i := 210) (l := tables_1_7) rfl))))))))) rfl
set_option maxHeartbeats 4000000 in
set_option maxRecDepth 100000 in
theorem mM_106 : (Cond.methodLink "KindRoundsModel" (411 : Nat) ({ cls := "KindRoundsModel", name := "wasTold", desc := "(I)Z" } : Jvm.MethodName)) ∈ lw_good := good_in (List.mem_append_right _ (List.mem_append_right _ (List.mem_append_right _ (List.mem_append_right _ (List.mem_append_right _ (List.mem_append_right _ (List.mem_append_right _ (List.mem_append_left _ (List.mem_of_getElem? (i := 206) (l := tables_1_7) rfl))))))))) rfl
set_option maxHeartbeats 4000000 in
set_option maxRecDepth 100000 in
theorem mM_107 : (Cond.constantLong "KindRoundsModel" (401 : Nat) (4812404 : Int64)) ∈ lw_good := good_in (List.mem_append_right _ (List.mem_append_right _ (List.mem_append_right _ (List.mem_append_right _ (List.mem_append_right _ (List.mem_append_right _ (List.mem_append_right _ (List.mem_append_left _ (List.mem_of_getElem? (i := 197) (l := tables_1_7) rfl))))))))) rfl
set_option maxHeartbeats 4000000 in
set_option maxRecDepth 100000 in
theorem mM_108 : (Cond.methodLink "KindRoundsModel" (407 : Nat) ({ cls := "KindRoundsModel", name := "isParam", desc := "(IJ)Z" } : Jvm.MethodName)) ∈ lw_good := good_in (List.mem_append_right _ (List.mem_append_right _ (List.mem_append_right _ (List.mem_append_right _ (List.mem_append_right _ (List.mem_append_right _ (List.mem_append_right _ (List.mem_append_left _ (List.mem_of_getElem? (i := 202) (l := tables_1_7) rfl))))))))) rfl
set_option maxHeartbeats 4000000 in
set_option maxRecDepth 100000 in
theorem mM_109 : (Cond.methodLink "KindRoundsModel" (403 : Nat) ({ cls := "KindRoundsModel", name := "typeOf", desc := "(J)I" } : Jvm.MethodName)) ∈ lw_good := good_in (List.mem_append_right _ (List.mem_append_right _ (List.mem_append_right _ (List.mem_append_right _ (List.mem_append_right _ (List.mem_append_right _ (List.mem_append_right _ (List.mem_append_left _ (List.mem_of_getElem? (i := 198) (l := tables_1_7) rfl))))))))) rfl
set_option maxHeartbeats 4000000 in
set_option maxRecDepth 100000 in
theorem mM_110 : (Cond.methodLink "KindRoundsModel" (417 : Nat) ({ cls := "KindRoundsModel", name := "isWrongName", desc := "(IZ)Z" } : Jvm.MethodName)) ∈ lw_good := good_in (List.mem_append_right _ (List.mem_append_right _ (List.mem_append_right _ (List.mem_append_right _ (List.mem_append_right _ (List.mem_append_right _ (List.mem_append_right _ (List.mem_append_left _ (List.mem_of_getElem? (i := 193) (l := tables_1_7) rfl))))))))) rfl
set_option maxHeartbeats 4000000 in
set_option maxRecDepth 100000 in
theorem mM_111 : (Cond.fieldLink "KindRoundsModel" (151 : Nat) "KindRoundsModel" "needsIt" "[Z") ∈ lw_good := good_in (List.mem_append_right _ (List.mem_append_right _ (List.mem_append_right _ (List.mem_append_right _ (List.mem_append_right _ (List.mem_append_right _ (List.mem_append_left _ (List.mem_of_getElem? (i := 42) (l := tables_1_6) rfl)))))))) rfl
set_option maxHeartbeats 4000000 in
set_option maxRecDepth 100000 in
theorem mM_112 : (Cond.fieldLink "KindRoundsModel" (154 : Nat) "KindRoundsModel" "ringOf" "[Z") ∈ lw_good := good_in (List.mem_append_right _ (List.mem_append_right _ (List.mem_append_right _ (List.mem_append_right _ (List.mem_append_right _ (List.mem_append_right _ (List.mem_append_left _ (List.mem_of_getElem? (i := 43) (l := tables_1_6) rfl)))))))) rfl
set_option maxHeartbeats 4000000 in
set_option maxRecDepth 100000 in
theorem mM_113 : (Cond.methodLink "KindRoundsModel" (421 : Nat) ({ cls := "KindRoundsModel", name := "close", desc := "([Z)V" } : Jvm.MethodName)) ∈ lw_good := good_in (List.mem_append_right _ (List.mem_append_right _ (List.mem_append_right _ (List.mem_append_right _ (List.mem_append_right _ (List.mem_append_right _ (List.mem_append_right _ (List.mem_append_left _ (List.mem_of_getElem? (i := 222) (l := tables_1_7) rfl))))))))) rfl
set_option maxHeartbeats 4000000 in
set_option maxRecDepth 100000 in
theorem mM_114 : (Cond.methodLink "KindRoundsModel" (425 : Nat) ({ cls := "KindRoundsModel", name := "findNeeds", desc := "()V" } : Jvm.MethodName)) ∈ lw_good := good_in (List.mem_append_right _ (List.mem_append_right _ (List.mem_append_right _ (List.mem_append_right _ (List.mem_append_right _ (List.mem_append_right _ (List.mem_append_right _ (List.mem_append_left _ (List.mem_of_getElem? (i := 218) (l := tables_1_7) rfl))))))))) rfl
set_option maxHeartbeats 4000000 in
set_option maxRecDepth 100000 in
theorem mM_115 : (Cond.methodLink "KindRoundsModel" (428 : Nat) ({ cls := "KindRoundsModel", name := "isTogether", desc := "(II)Z" } : Jvm.MethodName)) ∈ lw_good := good_in (List.mem_append_right _ (List.mem_append_right _ (List.mem_append_right _ (List.mem_append_right _ (List.mem_append_right _ (List.mem_append_right _ (List.mem_append_right _ (List.mem_append_left _ (List.mem_of_getElem? (i := 237) (l := tables_1_7) rfl))))))))) rfl
set_option maxHeartbeats 4000000 in
set_option maxRecDepth 100000 in
theorem mM_116 : (Cond.fieldLink "KindRoundsModel" (157 : Nat) "KindRoundsModel" "groupOf" "[I") ∈ lw_good := good_in (List.mem_append_right _ (List.mem_append_right _ (List.mem_append_right _ (List.mem_append_right _ (List.mem_append_right _ (List.mem_append_right _ (List.mem_append_left _ (List.mem_of_getElem? (i := 45) (l := tables_1_6) rfl)))))))) rfl
set_option maxHeartbeats 4000000 in
set_option maxRecDepth 100000 in
theorem mM_117 : (Cond.fieldLink "KindRoundsModel" (432 : Nat) "KindRoundsModel" "groupMany" "I") ∈ lw_good := good_in (List.mem_append_right _ (List.mem_append_right _ (List.mem_append_right _ (List.mem_append_right _ (List.mem_append_right _ (List.mem_append_right _ (List.mem_append_left _ (List.mem_of_getElem? (i := 44) (l := tables_1_6) rfl)))))))) rfl
set_option maxHeartbeats 4000000 in
set_option maxRecDepth 100000 in
theorem mM_118 : (Cond.methodLink "KindRoundsModel" (438 : Nat) ({ cls := "KindRoundsModel", name := "solve", desc := "(I)V" } : Jvm.MethodName)) ∈ lw_good := good_in (List.mem_append_right _ (List.mem_append_right _ (List.mem_append_right _ (List.mem_append_right _ (List.mem_append_right _ (List.mem_append_right _ (List.mem_append_right _ (List.mem_append_right _ (List.mem_of_getElem? (i := 1) (l := tables_1_8) rfl))))))))) rfl
set_option maxHeartbeats 4000000 in
set_option maxRecDepth 100000 in
theorem mM_119 : (Cond.methodLink "KindRoundsModel" (435 : Nat) ({ cls := "KindRoundsModel", name := "canCome", desc := "(I)Z" } : Jvm.MethodName)) ∈ lw_good := good_in (List.mem_append_right _ (List.mem_append_right _ (List.mem_append_right _ (List.mem_append_right _ (List.mem_append_right _ (List.mem_append_right _ (List.mem_append_right _ (List.mem_append_left _ (List.mem_of_getElem? (i := 233) (l := tables_1_7) rfl))))))))) rfl
set_option maxHeartbeats 4000000 in
set_option maxRecDepth 100000 in
theorem mM_120 : (Cond.fieldLink "KindRoundsModel" (160 : Nat) "KindRoundsModel" "declKind" "[I") ∈ lw_good := good_in (List.mem_append_right _ (List.mem_append_right _ (List.mem_append_right _ (List.mem_append_right _ (List.mem_append_right _ (List.mem_append_right _ (List.mem_append_left _ (List.mem_of_getElem? (i := 46) (l := tables_1_6) rfl)))))))) rfl
set_option maxHeartbeats 4000000 in
set_option maxRecDepth 100000 in
theorem mM_121 : (Cond.fieldLink "KindRoundsModel" (163 : Nat) "KindRoundsModel" "paramKind" "[I") ∈ lw_good := good_in (List.mem_append_right _ (List.mem_append_right _ (List.mem_append_right _ (List.mem_append_right _ (List.mem_append_right _ (List.mem_append_right _ (List.mem_append_left _ (List.mem_of_getElem? (i := 47) (l := tables_1_6) rfl)))))))) rfl
set_option maxHeartbeats 4000000 in
set_option maxRecDepth 100000 in
theorem mM_122 : (Cond.fieldLink "KindRoundsModel" (166 : Nat) "KindRoundsModel" "synKind" "[I") ∈ lw_good := good_in (List.mem_append_right _ (List.mem_append_right _ (List.mem_append_right _ (List.mem_append_right _ (List.mem_append_right _ (List.mem_append_right _ (List.mem_append_left _ (List.mem_of_getElem? (i := 48) (l := tables_1_6) rfl)))))))) rfl
set_option maxHeartbeats 4000000 in
set_option maxRecDepth 100000 in
theorem mM_123 : (Cond.fieldLink "KindRoundsModel" (30 : Nat) "KindRoundsModel" "kindAt" "[I") ∈ lw_good := good_in (List.mem_append_right _ (List.mem_append_right _ (List.mem_append_right _ (List.mem_append_right _ (List.mem_append_right _ (List.mem_append_left _ (List.mem_of_getElem? (i := 228) (l := tables_1_5) rfl))))))) rfl
set_option maxHeartbeats 4000000 in
set_option maxRecDepth 100000 in
theorem mM_124 : (Cond.methodLink "KindRoundsModel" (441 : Nat) ({ cls := "KindRoundsModel", name := "kindOfSmall", desc := "(II)I" } : Jvm.MethodName)) ∈ lw_good := good_in (List.mem_append_right _ (List.mem_append_right _ (List.mem_append_right _ (List.mem_append_right _ (List.mem_append_right _ (List.mem_append_right _ (List.mem_append_right _ (List.mem_append_right _ (List.mem_of_getElem? (i := 17) (l := tables_1_8) rfl))))))))) rfl
set_option maxHeartbeats 4000000 in
set_option maxRecDepth 100000 in
theorem mM_125 : (Cond.methodLink "KindRoundsModel" (454 : Nat) ({ cls := "KindRoundsModel", name := "doAct", desc := "(II)V" } : Jvm.MethodName)) ∈ lw_good := good_in (List.mem_append_right _ (List.mem_append_right _ (List.mem_append_right _ (List.mem_append_right _ (List.mem_append_right _ (List.mem_append_right _ (List.mem_append_right _ (List.mem_append_right _ (List.mem_of_getElem? (i := 48) (l := tables_1_8) rfl))))))))) rfl
set_option maxHeartbeats 4000000 in
set_option maxRecDepth 100000 in
theorem mM_126 : (Cond.methodLink "KindRoundsModel" (457 : Nat) ({ cls := "KindRoundsModel", name := "closeGroup", desc := "(I)V" } : Jvm.MethodName)) ∈ lw_good := good_in (List.mem_append_right _ (List.mem_append_right _ (List.mem_append_right _ (List.mem_append_right _ (List.mem_append_right _ (List.mem_append_right _ (List.mem_append_right _ (List.mem_append_right _ (List.mem_of_getElem? (i := 52) (l := tables_1_8) rfl))))))))) rfl
set_option maxHeartbeats 4000000 in
set_option maxRecDepth 100000 in
theorem mM_127 : (Cond.methodLink "KindRoundsModel" (451 : Nat) ({ cls := "KindRoundsModel", name := "equate", desc := "(III)V" } : Jvm.MethodName)) ∈ lw_good := good_in (List.mem_append_right _ (List.mem_append_right _ (List.mem_append_right _ (List.mem_append_right _ (List.mem_append_right _ (List.mem_append_right _ (List.mem_append_right _ (List.mem_append_right _ (List.mem_of_getElem? (i := 21) (l := tables_1_8) rfl))))))))) rfl
set_option maxHeartbeats 4000000 in
set_option maxRecDepth 100000 in
theorem mM_128 : (Cond.methodLink "KindRoundsModel" (448 : Nat) ({ cls := "KindRoundsModel", name := "layKindOnce", desc := "(I)V" } : Jvm.MethodName)) ∈ lw_good := good_in (List.mem_append_right _ (List.mem_append_right _ (List.mem_append_right _ (List.mem_append_right _ (List.mem_append_right _ (List.mem_append_right _ (List.mem_append_right _ (List.mem_append_right _ (List.mem_of_getElem? (i := 9) (l := tables_1_8) rfl))))))))) rfl
set_option maxHeartbeats 4000000 in
set_option maxRecDepth 100000 in
theorem mM_129 : (Cond.methodLink "KindRoundsModel" (445 : Nat) ({ cls := "KindRoundsModel", name := "prepare", desc := "(I)V" } : Jvm.MethodName)) ∈ lw_good := good_in (List.mem_append_right _ (List.mem_append_right _ (List.mem_append_right _ (List.mem_append_right _ (List.mem_append_right _ (List.mem_append_right _ (List.mem_append_right _ (List.mem_append_right _ (List.mem_of_getElem? (i := 5) (l := tables_1_8) rfl))))))))) rfl
set_option maxHeartbeats 4000000 in
set_option maxRecDepth 100000 in
theorem mM_130 : (Cond.methodLink "KindRoundsModel" (460 : Nat) ({ cls := "KindRoundsModel", name := "layKind", desc := "(II)V" } : Jvm.MethodName)) ∈ lw_good := good_in (List.mem_append_right _ (List.mem_append_right _ (List.mem_append_right _ (List.mem_append_right _ (List.mem_append_right _ (List.mem_append_right _ (List.mem_append_right _ (List.mem_append_right _ (List.mem_of_getElem? (i := 13) (l := tables_1_8) rfl))))))))) rfl
set_option maxHeartbeats 4000000 in
set_option maxRecDepth 100000 in
theorem mM_131 : (Cond.fieldLink "KindRoundsModel" (169 : Nat) "KindRoundsModel" "openParams" "[I") ∈ lw_good := good_in (List.mem_append_right _ (List.mem_append_right _ (List.mem_append_right _ (List.mem_append_right _ (List.mem_append_right _ (List.mem_append_right _ (List.mem_append_left _ (List.mem_of_getElem? (i := 49) (l := tables_1_6) rfl)))))))) rfl
set_option maxHeartbeats 4000000 in
set_option maxRecDepth 100000 in
theorem mM_132 : (Cond.methodLink "KindRoundsModel" (463 : Nat) ({ cls := "KindRoundsModel", name := "hasOpen", desc := "(I)Z" } : Jvm.MethodName)) ∈ lw_good := good_in (List.mem_append_right _ (List.mem_append_right _ (List.mem_append_right _ (List.mem_append_right _ (List.mem_append_right _ (List.mem_append_right _ (List.mem_append_right _ (List.mem_append_right _ (List.mem_of_getElem? (i := 56) (l := tables_1_8) rfl))))))))) rfl
set_option maxHeartbeats 4000000 in
set_option maxRecDepth 100000 in
theorem mM_133 : (Cond.fieldLink "KindRoundsModel" (103 : Nat) "KindRoundsModel" "kept" "[I") ∈ lw_good := good_in (List.mem_append_right _ (List.mem_append_right _ (List.mem_append_right _ (List.mem_append_right _ (List.mem_append_right _ (List.mem_append_right _ (List.mem_append_left _ (List.mem_of_getElem? (i := 20) (l := tables_1_6) rfl)))))))) rfl
set_option maxHeartbeats 4000000 in
set_option maxRecDepth 100000 in
theorem mM_134 : (Cond.methodLink "KindRoundsModel" (466 : Nat) ({ cls := "KindRoundsModel", name := "copy", desc := "([I[II)V" } : Jvm.MethodName)) ∈ lw_good := good_in (List.mem_append_right _ (List.mem_append_right _ (List.mem_append_right _ (List.mem_append_right _ (List.mem_append_right _ (List.mem_append_right _ (List.mem_append_right _ (List.mem_append_right _ (List.mem_of_getElem? (i := 25) (l := tables_1_8) rfl))))))))) rfl
set_option maxHeartbeats 4000000 in
set_option maxRecDepth 100000 in
theorem mM_135 : (Cond.fieldLink "KindRoundsModel" (476 : Nat) "KindRoundsModel" "leftSide" "I") ∈ lw_good := good_in (List.mem_append_right _ (List.mem_append_right _ (List.mem_append_right _ (List.mem_append_right _ (List.mem_append_right _ (List.mem_append_right _ (List.mem_append_left _ (List.mem_of_getElem? (i := 52) (l := tables_1_6) rfl)))))))) rfl
set_option maxHeartbeats 4000000 in
set_option maxRecDepth 100000 in
theorem mM_136 : (Cond.fieldLink "KindRoundsModel" (479 : Nat) "KindRoundsModel" "rightSideOfFault" "I") ∈ lw_good := good_in (List.mem_append_right _ (List.mem_append_right _ (List.mem_append_right _ (List.mem_append_right _ (List.mem_append_right _ (List.mem_append_right _ (List.mem_append_left _ (List.mem_of_getElem? (i := 53) (l := tables_1_6) rfl)))))))) rfl
set_option maxHeartbeats 4000000 in
set_option maxRecDepth 100000 in
theorem mM_137 : (Cond.methodLink "KindRoundsModel" (470 : Nat) ({ cls := "KindRoundsModel", name := "join", desc := "(II)Z" } : Jvm.MethodName)) ∈ lw_good := good_in (List.mem_append_right _ (List.mem_append_right _ (List.mem_append_right _ (List.mem_append_right _ (List.mem_append_right _ (List.mem_append_right _ (List.mem_append_right _ (List.mem_append_right _ (List.mem_of_getElem? (i := 28) (l := tables_1_8) rfl))))))))) rfl
set_option maxHeartbeats 4000000 in
set_option maxRecDepth 100000 in
theorem mM_138 : (Cond.methodLink "KindRoundsModel" (473 : Nat) ({ cls := "KindRoundsModel", name := "goesRound", desc := "(I)Z" } : Jvm.MethodName)) ∈ lw_good := good_in (List.mem_append_right _ (List.mem_append_right _ (List.mem_append_right _ (List.mem_append_right _ (List.mem_append_right _ (List.mem_append_right _ (List.mem_append_right _ (List.mem_append_right _ (List.mem_of_getElem? (i := 36) (l := tables_1_8) rfl))))))))) rfl
set_option maxHeartbeats 4000000 in
set_option maxRecDepth 100000 in
theorem mM_139 : (Cond.fieldLink "KindRoundsModel" (172 : Nat) "KindRoundsModel" "work" "[I") ∈ lw_good := good_in (List.mem_append_right _ (List.mem_append_right _ (List.mem_append_right _ (List.mem_append_right _ (List.mem_append_right _ (List.mem_append_right _ (List.mem_append_left _ (List.mem_of_getElem? (i := 50) (l := tables_1_6) rfl)))))))) rfl
set_option maxHeartbeats 4000000 in
set_option maxRecDepth 100000 in
theorem mM_140 : (Cond.methodLink "KindRoundsModel" (482 : Nat) ({ cls := "KindRoundsModel", name := "top", desc := "(I)I" } : Jvm.MethodName)) ∈ lw_good := good_in (List.mem_append_right _ (List.mem_append_right _ (List.mem_append_right _ (List.mem_append_right _ (List.mem_append_right _ (List.mem_append_right _ (List.mem_append_right _ (List.mem_append_right _ (List.mem_of_getElem? (i := 32) (l := tables_1_8) rfl))))))))) rfl
set_option maxHeartbeats 4000000 in
set_option maxRecDepth 100000 in
theorem mM_141 : (Cond.fieldLink "KindRoundsModel" (175 : Nat) "KindRoundsModel" "met" "[I") ∈ lw_good := good_in (List.mem_append_right _ (List.mem_append_right _ (List.mem_append_right _ (List.mem_append_right _ (List.mem_append_right _ (List.mem_append_right _ (List.mem_append_left _ (List.mem_of_getElem? (i := 51) (l := tables_1_6) rfl)))))))) rfl
set_option maxHeartbeats 4000000 in
set_option maxRecDepth 100000 in
theorem mM_142 : (Cond.methodLink "KindRoundsModel" (488 : Nat) ({ cls := "KindRoundsModel", name := "isOnWay", desc := "(I)Z" } : Jvm.MethodName)) ∈ lw_good := good_in (List.mem_append_right _ (List.mem_append_right _ (List.mem_append_right _ (List.mem_append_right _ (List.mem_append_right _ (List.mem_append_right _ (List.mem_append_right _ (List.mem_append_right _ (List.mem_of_getElem? (i := 44) (l := tables_1_8) rfl))))))))) rfl
set_option maxHeartbeats 4000000 in
set_option maxRecDepth 100000 in
theorem mM_143 : (Cond.methodLink "KindRoundsModel" (485 : Nat) ({ cls := "KindRoundsModel", name := "unmark", desc := "()V" } : Jvm.MethodName)) ∈ lw_good := good_in (List.mem_append_right _ (List.mem_append_right _ (List.mem_append_right _ (List.mem_append_right _ (List.mem_append_right _ (List.mem_append_right _ (List.mem_append_right _ (List.mem_append_right _ (List.mem_of_getElem? (i := 40) (l := tables_1_8) rfl))))))))) rfl
set_option maxHeartbeats 4000000 in
set_option maxRecDepth 100000 in
theorem mM_144 : (Cond.fieldLink "KindRoundsModel" (491 : Nat) "KindRoundsModel" "drafted" "I") ∈ lw_good := good_in (List.mem_append_right _ (List.mem_append_right _ (List.mem_append_right _ (List.mem_append_right _ (List.mem_append_right _ (List.mem_append_right _ (List.mem_append_left _ (List.mem_of_getElem? (i := 55) (l := tables_1_6) rfl)))))))) rfl
set_option maxHeartbeats 4000000 in
set_option maxRecDepth 100000 in
theorem mM_145 : (Cond.fieldLink "KindRoundsModel" (178 : Nat) "KindRoundsModel" "draft" "[I") ∈ lw_good := good_in (List.mem_append_right _ (List.mem_append_right _ (List.mem_append_right _ (List.mem_append_right _ (List.mem_append_right _ (List.mem_append_right _ (List.mem_append_left _ (List.mem_of_getElem? (i := 54) (l := tables_1_6) rfl)))))))) rfl
set_option maxHeartbeats 4000000 in
set_option maxRecDepth 100000 in
theorem mM_146 : (Cond.fieldLink "KindRoundsModel" (494 : Nat) "KindRoundsModel" "outSize" "I") ∈ lw_good := good_in (List.mem_append_right _ (List.mem_append_right _ (List.mem_append_right _ (List.mem_append_right _ (List.mem_append_right _ (List.mem_append_right _ (List.mem_append_left _ (List.mem_of_getElem? (i := 57) (l := tables_1_6) rfl)))))))) rfl
set_option maxHeartbeats 4000000 in
set_option maxRecDepth 100000 in
theorem mM_147 : (Cond.fieldLink "KindRoundsModel" (181 : Nat) "KindRoundsModel" "out" "[I") ∈ lw_good := good_in (List.mem_append_right _ (List.mem_append_right _ (List.mem_append_right _ (List.mem_append_right _ (List.mem_append_right _ (List.mem_append_right _ (List.mem_append_left _ (List.mem_of_getElem? (i := 56) (l := tables_1_6) rfl)))))))) rfl
set_option maxHeartbeats 4000000 in
set_option maxRecDepth 100000 in
theorem mM_148 : (Cond.fieldLink "KindRoundsModel" (497 : Nat) "KindRoundsModel" "letters" "I") ∈ lw_good := good_in (List.mem_append_right _ (List.mem_append_right _ (List.mem_append_right _ (List.mem_append_right _ (List.mem_append_right _ (List.mem_append_right _ (List.mem_append_left _ (List.mem_of_getElem? (i := 60) (l := tables_1_6) rfl)))))))) rfl
set_option maxHeartbeats 4000000 in
set_option maxRecDepth 100000 in
theorem mM_149 : (Cond.fieldLink "KindRoundsModel" (184 : Nat) "KindRoundsModel" "letter" "[I") ∈ lw_good := good_in (List.mem_append_right _ (List.mem_append_right _ (List.mem_append_right _ (List.mem_append_right _ (List.mem_append_right _ (List.mem_append_right _ (List.mem_append_left _ (List.mem_of_getElem? (i := 59) (l := tables_1_6) rfl)))))))) rfl
set_option maxHeartbeats 4000000 in
set_option maxRecDepth 100000 in
theorem mM_150 : (Cond.methodLink "KindRoundsModel" (503 : Nat) ({ cls := "KindRoundsModel", name := "layKindOf", desc := "(II)I" } : Jvm.MethodName)) ∈ lw_good := good_in (List.mem_append_right _ (List.mem_append_right _ (List.mem_append_right _ (List.mem_append_right _ (List.mem_append_right _ (List.mem_append_right _ (List.mem_append_right _ (List.mem_append_right _ (List.mem_of_getElem? (i := 84) (l := tables_1_8) rfl))))))))) rfl
set_option maxHeartbeats 4000000 in
set_option maxRecDepth 100000 in
theorem mM_151 : (Cond.methodLink "KindRoundsModel" (500 : Nat) ({ cls := "KindRoundsModel", name := "put", desc := "(I)V" } : Jvm.MethodName)) ∈ lw_good := good_in (List.mem_append_right _ (List.mem_append_right _ (List.mem_append_right _ (List.mem_append_right _ (List.mem_append_right _ (List.mem_append_right _ (List.mem_append_right _ (List.mem_append_right _ (List.mem_of_getElem? (i := 80) (l := tables_1_8) rfl))))))))) rfl
set_option maxHeartbeats 4000000 in
set_option maxRecDepth 100000 in
theorem mM_152 : (Cond.fieldLink "KindRoundsModel" (506 : Nat) "KindRoundsModel" "lettered" "Z") ∈ lw_good := good_in (List.mem_append_right _ (List.mem_append_right _ (List.mem_append_right _ (List.mem_append_right _ (List.mem_append_right _ (List.mem_append_right _ (List.mem_append_left _ (List.mem_of_getElem? (i := 58) (l := tables_1_6) rfl)))))))) rfl
set_option maxHeartbeats 4000000 in
set_option maxRecDepth 100000 in
theorem mM_153 : (Cond.methodLink "KindRoundsModel" (509 : Nat) ({ cls := "KindRoundsModel", name := "layKindOut", desc := "(I)V" } : Jvm.MethodName)) ∈ lw_good := good_in (List.mem_append_right _ (List.mem_append_right _ (List.mem_append_right _ (List.mem_append_right _ (List.mem_append_right _ (List.mem_append_right _ (List.mem_append_right _ (List.mem_append_right _ (List.mem_of_getElem? (i := 76) (l := tables_1_8) rfl))))))))) rfl
set_option maxHeartbeats 4000000 in
set_option maxRecDepth 100000 in
theorem mM_154 : (Cond.methodLink "KindRoundsModel" (512 : Nat) ({ cls := "KindRoundsModel", name := "commit", desc := "()I" } : Jvm.MethodName)) ∈ lw_good := good_in (List.mem_append_right _ (List.mem_append_right _ (List.mem_append_right _ (List.mem_append_right _ (List.mem_append_right _ (List.mem_append_right _ (List.mem_append_right _ (List.mem_append_right _ (List.mem_of_getElem? (i := 88) (l := tables_1_8) rfl))))))))) rfl
set_option maxHeartbeats 4000000 in
set_option maxRecDepth 100000 in
theorem mM_155 : (Cond.fieldLink "KindRoundsModel" (212 : Nat) "KindRoundsModel" "baseKinds" "I") ∈ lw_good := good_in (List.mem_append_right _ (List.mem_append_right _ (List.mem_append_right _ (List.mem_append_right _ (List.mem_append_right _ (List.mem_append_right _ (List.mem_append_left _ (List.mem_of_getElem? (i := 61) (l := tables_1_6) rfl)))))))) rfl
set_option maxHeartbeats 4000000 in
set_option maxRecDepth 100000 in
theorem mM_156 : (Cond.fieldLink "KindRoundsModel" (530 : Nat) "KindRoundsModel" "baseNodes" "I") ∈ lw_good := good_in (List.mem_append_right _ (List.mem_append_right _ (List.mem_append_right _ (List.mem_append_right _ (List.mem_append_right _ (List.mem_append_right _ (List.mem_append_left _ (List.mem_of_getElem? (i := 62) (l := tables_1_6) rfl)))))))) rfl
set_option maxHeartbeats 4000000 in
set_option maxRecDepth 100000 in
theorem mM_157 : (Cond.fieldLink "KindRoundsModel" (187 : Nat) "KindRoundsModel" "baseUp" "[I") ∈ lw_good := good_in (List.mem_append_right _ (List.mem_append_right _ (List.mem_append_right _ (List.mem_append_right _ (List.mem_append_right _ (List.mem_append_right _ (List.mem_append_left _ (List.mem_of_getElem? (i := 63) (l := tables_1_6) rfl)))))))) rfl
set_option maxHeartbeats 4000000 in
set_option maxRecDepth 100000 in
theorem mM_158 : (Cond.methodLink "KindRoundsModel" (527 : Nat) ({ cls := "KindRoundsModel", name := "solveAll", desc := "()V" } : Jvm.MethodName)) ∈ lw_good := good_in (List.mem_append_right _ (List.mem_append_right _ (List.mem_append_right _ (List.mem_append_right _ (List.mem_append_right _ (List.mem_append_right _ (List.mem_append_right _ (List.mem_append_left _ (List.mem_of_getElem? (i := 229) (l := tables_1_7) rfl))))))))) rfl
set_option maxHeartbeats 4000000 in
set_option maxRecDepth 100000 in
theorem mM_159 : (Cond.methodLink "KindRoundsModel" (524 : Nat) ({ cls := "KindRoundsModel", name := "lookTakes", desc := "()V" } : Jvm.MethodName)) ∈ lw_good := good_in (List.mem_append_right _ (List.mem_append_right _ (List.mem_append_right _ (List.mem_append_right _ (List.mem_append_right _ (List.mem_append_right _ (List.mem_append_right _ (List.mem_append_left _ (List.mem_of_getElem? (i := 225) (l := tables_1_7) rfl))))))))) rfl
set_option maxHeartbeats 4000000 in
set_option maxRecDepth 100000 in
theorem mM_160 : (Cond.methodLink "KindRoundsModel" (521 : Nat) ({ cls := "KindRoundsModel", name := "lookRings", desc := "()V" } : Jvm.MethodName)) ∈ lw_good := good_in (List.mem_append_right _ (List.mem_append_right _ (List.mem_append_right _ (List.mem_append_right _ (List.mem_append_right _ (List.mem_append_right _ (List.mem_append_right _ (List.mem_append_left _ (List.mem_of_getElem? (i := 214) (l := tables_1_7) rfl))))))))) rfl
set_option maxHeartbeats 4000000 in
set_option maxRecDepth 100000 in
theorem mM_161 : (Cond.fieldLink "KindRoundsModel" (215 : Nat) "KindRoundsModel" "code" "I") ∈ lw_good := good_in (List.mem_append_right _ (List.mem_append_right _ (List.mem_append_right _ (List.mem_append_right _ (List.mem_append_right _ (List.mem_append_left _ (List.mem_of_getElem? (i := 213) (l := tables_1_5) rfl))))))) rfl
set_option maxHeartbeats 4000000 in
set_option maxRecDepth 100000 in
theorem mM_162 : (Cond.methodLink "KindRoundsModel" (515 : Nat) ({ cls := "KindRoundsModel", name := "readText", desc := "()V" } : Jvm.MethodName)) ∈ lw_good := good_in (List.mem_append_right _ (List.mem_append_right _ (List.mem_append_right _ (List.mem_append_right _ (List.mem_append_right _ (List.mem_append_right _ (List.mem_append_right _ (List.mem_append_left _ (List.mem_of_getElem? (i := 44) (l := tables_1_7) rfl))))))))) rfl
set_option maxHeartbeats 4000000 in
set_option maxRecDepth 100000 in
theorem mM_163 : (Cond.methodLink "KindRoundsModel" (518 : Nat) ({ cls := "KindRoundsModel", name := "lookNames", desc := "(Z)V" } : Jvm.MethodName)) ∈ lw_good := good_in (List.mem_append_right _ (List.mem_append_right _ (List.mem_append_right _ (List.mem_append_right _ (List.mem_append_right _ (List.mem_append_right _ (List.mem_append_right _ (List.mem_append_left _ (List.mem_of_getElem? (i := 189) (l := tables_1_7) rfl))))))))) rfl
set_option maxHeartbeats 4000000 in
set_option maxRecDepth 100000 in
theorem mM_164 : (Cond.methodLink "KindRoundsModel" (536 : Nat) ({ cls := "KindRoundsModel", name := "showKind", desc := "(I)I" } : Jvm.MethodName)) ∈ lw_good := good_in (List.mem_append_right _ (List.mem_append_right _ (List.mem_append_right _ (List.mem_append_right _ (List.mem_append_right _ (List.mem_append_right _ (List.mem_append_right _ (List.mem_append_right _ (List.mem_of_getElem? (i := 72) (l := tables_1_8) rfl))))))))) rfl
set_option maxHeartbeats 4000000 in
set_option maxRecDepth 100000 in
theorem mM_165 : (Cond.methodLink "KindRoundsModel" (533 : Nat) ({ cls := "KindRoundsModel", name := "giveLetters", desc := "(I)V" } : Jvm.MethodName)) ∈ lw_good := good_in (List.mem_append_right _ (List.mem_append_right _ (List.mem_append_right _ (List.mem_append_right _ (List.mem_append_right _ (List.mem_append_right _ (List.mem_append_right _ (List.mem_append_right _ (List.mem_of_getElem? (i := 68) (l := tables_1_8) rfl))))))))) rfl
set_option maxHeartbeats 4000000 in
set_option maxRecDepth 100000 in
theorem mM_166 : (Cond.methodLink "KindRoundsModel" (539 : Nat) ({ cls := "KindRoundsModel", name := "isDecl", desc := "(I)Z" } : Jvm.MethodName)) ∈ lw_good := good_in (List.mem_append_right _ (List.mem_append_right _ (List.mem_append_right _ (List.mem_append_right _ (List.mem_append_right _ (List.mem_append_right _ (List.mem_append_right _ (List.mem_append_right _ (List.mem_of_getElem? (i := 100) (l := tables_1_8) rfl))))))))) rfl
set_option maxHeartbeats 4000000 in
set_option maxRecDepth 100000 in
theorem mM_167 : (Cond.fieldLink "KindRoundsModel" (542 : Nat) "KindRoundsModel" "second" "I") ∈ lw_good := good_in (List.mem_append_right _ (List.mem_append_right _ (List.mem_append_right _ (List.mem_append_right _ (List.mem_append_right _ (List.mem_append_right _ (List.mem_append_left _ (List.mem_of_getElem? (i := 64) (l := tables_1_6) rfl)))))))) rfl
set_option maxHeartbeats 4000000 in
set_option maxRecDepth 100000 in
theorem mM_168 : (Cond.methodLink "KindRoundsModel" (545 : Nat) ({ cls := "KindRoundsModel", name := "readAsked", desc := "(Z)I" } : Jvm.MethodName)) ∈ lw_good := good_in (List.mem_append_right _ (List.mem_append_right _ (List.mem_append_right _ (List.mem_append_right _ (List.mem_append_right _ (List.mem_append_right _ (List.mem_append_right _ (List.mem_append_right _ (List.mem_of_getElem? (i := 124) (l := tables_1_8) rfl))))))))) rfl
set_option maxHeartbeats 4000000 in
set_option maxRecDepth 100000 in
theorem mM_169 : (Cond.fieldLink "KindRoundsModel" (190 : Nat) "KindRoundsModel" "row" "[I") ∈ lw_good := good_in (List.mem_append_right _ (List.mem_append_right _ (List.mem_append_right _ (List.mem_append_right _ (List.mem_append_right _ (List.mem_append_right _ (List.mem_append_left _ (List.mem_of_getElem? (i := 65) (l := tables_1_6) rfl)))))))) rfl
set_option maxHeartbeats 4000000 in
set_option maxRecDepth 100000 in
theorem mM_170 : (Cond.fieldLink "KindRoundsModel" (552 : Nat) "KindRoundsModel" "made" "I") ∈ lw_good := good_in (List.mem_append_right _ (List.mem_append_right _ (List.mem_append_right _ (List.mem_append_right _ (List.mem_append_right _ (List.mem_append_right _ (List.mem_append_left _ (List.mem_of_getElem? (i := 69) (l := tables_1_6) rfl)))))))) rfl
set_option maxHeartbeats 4000000 in
set_option maxRecDepth 100000 in
theorem mM_171 : (Cond.fieldLink "KindRoundsModel" (549 : Nat) "KindRoundsModel" "names" "I") ∈ lw_good := good_in (List.mem_append_right _ (List.mem_append_right _ (List.mem_append_right _ (List.mem_append_right _ (List.mem_append_right _ (List.mem_append_right _ (List.mem_append_left _ (List.mem_of_getElem? (i := 70) (l := tables_1_6) rfl)))))))) rfl
set_option maxHeartbeats 4000000 in
set_option maxRecDepth 100000 in
theorem mM_172 : (Cond.fieldLink "KindRoundsModel" (193 : Nat) "KindRoundsModel" "other" "[I") ∈ lw_good := good_in (List.mem_append_right _ (List.mem_append_right _ (List.mem_append_right _ (List.mem_append_right _ (List.mem_append_right _ (List.mem_append_right _ (List.mem_append_left _ (List.mem_of_getElem? (i := 66) (l := tables_1_6) rfl)))))))) rfl
set_option maxHeartbeats 4000000 in
set_option maxRecDepth 100000 in
theorem mM_173 : (Cond.methodLink "KindRoundsModel" (555 : Nat) ({ cls := "KindRoundsModel", name := "add", desc := "(I)V" } : Jvm.MethodName)) ∈ lw_good := good_in (List.mem_append_right _ (List.mem_append_right _ (List.mem_append_right _ (List.mem_append_right _ (List.mem_append_right _ (List.mem_append_right _ (List.mem_append_right _ (List.mem_append_right _ (List.mem_of_getElem? (i := 152) (l := tables_1_8) rfl))))))))) rfl
set_option maxHeartbeats 4000000 in
set_option maxRecDepth 100000 in
theorem mM_174 : (Cond.methodLink "KindRoundsModel" (558 : Nat) ({ cls := "KindRoundsModel", name := "end", desc := "(I)I" } : Jvm.MethodName)) ∈ lw_good := good_in (List.mem_append_right _ (List.mem_append_right _ (List.mem_append_right _ (List.mem_append_right _ (List.mem_append_right _ (List.mem_append_right _ (List.mem_append_right _ (List.mem_append_right _ (List.mem_of_getElem? (i := 160) (l := tables_1_8) rfl))))))))) rfl
set_option maxHeartbeats 4000000 in
set_option maxRecDepth 100000 in
theorem mM_175 : (Cond.fieldLink "KindRoundsModel" (571 : Nat) "KindRoundsModel" "length" "I") ∈ lw_good := good_in (List.mem_append_right _ (List.mem_append_right _ (List.mem_append_right _ (List.mem_append_right _ (List.mem_append_right _ (List.mem_append_right _ (List.mem_append_left _ (List.mem_of_getElem? (i := 68) (l := tables_1_6) rfl)))))))) rfl
set_option maxHeartbeats 4000000 in
set_option maxRecDepth 100000 in
theorem mM_176 : (Cond.methodLink "KindRoundsModel" (568 : Nat) ({ cls := "KindRoundsModel", name := "behind", desc := "(II)I" } : Jvm.MethodName)) ∈ lw_good := good_in (List.mem_append_right _ (List.mem_append_right _ (List.mem_append_right _ (List.mem_append_right _ (List.mem_append_right _ (List.mem_append_right _ (List.mem_append_right _ (List.mem_append_right _ (List.mem_of_getElem? (i := 156) (l := tables_1_8) rfl))))))))) rfl
set_option maxHeartbeats 4000000 in
set_option maxRecDepth 100000 in
theorem mM_177 : (Cond.methodLink "KindRoundsModel" (561 : Nat) ({ cls := "KindRoundsModel", name := "addSpan", desc := "(II)V" } : Jvm.MethodName)) ∈ lw_good := good_in (List.mem_append_right _ (List.mem_append_right _ (List.mem_append_right _ (List.mem_append_right _ (List.mem_append_right _ (List.mem_append_right _ (List.mem_append_right _ (List.mem_append_right _ (List.mem_of_getElem? (i := 148) (l := tables_1_8) rfl))))))))) rfl
set_option maxHeartbeats 4000000 in
set_option maxRecDepth 100000 in
theorem mM_178 : (Cond.fieldLink "KindRoundsModel" (196 : Nat) "KindRoundsModel" "pattern" "[I") ∈ lw_good := good_in (List.mem_append_right _ (List.mem_append_right _ (List.mem_append_right _ (List.mem_append_right _ (List.mem_append_right _ (List.mem_append_right _ (List.mem_append_left _ (List.mem_of_getElem? (i := 67) (l := tables_1_6) rfl)))))))) rfl
set_option maxHeartbeats 4000000 in
set_option maxRecDepth 100000 in
theorem mM_179 : (Cond.methodLink "KindRoundsModel" (564 : Nat) ({ cls := "KindRoundsModel", name := "lay", desc := "(I[I)I" } : Jvm.MethodName)) ∈ lw_good := good_in (List.mem_append_right _ (List.mem_append_right _ (List.mem_append_right _ (List.mem_append_right _ (List.mem_append_right _ (List.mem_append_right _ (List.mem_append_right _ (List.mem_append_right _ (List.mem_of_getElem? (i := 136) (l := tables_1_8) rfl))))))))) rfl
set_option maxHeartbeats 4000000 in
set_option maxRecDepth 100000 in
theorem mM_180 : (Cond.methodLink "KindRoundsModel" (574 : Nat) ({ cls := "KindRoundsModel", name := "synonym", desc := "(I)I" } : Jvm.MethodName)) ∈ lw_good := good_in (List.mem_append_right _ (List.mem_append_right _ (List.mem_append_right _ (List.mem_append_right _ (List.mem_append_right _ (List.mem_append_right _ (List.mem_append_right _ (List.mem_append_right _ (List.mem_of_getElem? (i := 140) (l := tables_1_8) rfl))))))))) rfl
set_option maxHeartbeats 4000000 in
set_option maxRecDepth 100000 in
theorem mM_181 : (Cond.methodLink "KindRoundsModel" (577 : Nat) ({ cls := "KindRoundsModel", name := "replace", desc := "(II)V" } : Jvm.MethodName)) ∈ lw_good := good_in (List.mem_append_right _ (List.mem_append_right _ (List.mem_append_right _ (List.mem_append_right _ (List.mem_append_right _ (List.mem_append_right _ (List.mem_append_right _ (List.mem_append_right _ (List.mem_of_getElem? (i := 144) (l := tables_1_8) rfl))))))))) rfl
set_option maxHeartbeats 4000000 in
set_option maxRecDepth 100000 in
theorem mM_182 : (Cond.constantLong "KindRoundsModel" (580 : Nat) (255 : Int64)) ∈ lw_good := good_in (List.mem_append_right _ (List.mem_append_right _ (List.mem_append_right _ (List.mem_append_right _ (List.mem_append_right _ (List.mem_append_right _ (List.mem_append_right _ (List.mem_append_right _ (List.mem_of_getElem? (i := 176) (l := tables_1_8) rfl))))))))) rfl
set_option maxHeartbeats 4000000 in
set_option maxRecDepth 100000 in
theorem mM_183 : (Cond.methodLink "KindRoundsModel" (582 : Nat) ({ cls := "KindRoundsModel", name := "layItem", desc := "(III)I" } : Jvm.MethodName)) ∈ lw_good := good_in (List.mem_append_right _ (List.mem_append_right _ (List.mem_append_right _ (List.mem_append_right _ (List.mem_append_right _ (List.mem_append_right _ (List.mem_append_right _ (List.mem_append_right _ (List.mem_of_getElem? (i := 168) (l := tables_1_8) rfl))))))))) rfl
set_option maxHeartbeats 4000000 in
set_option maxRecDepth 100000 in
theorem mM_184 : (Cond.methodLink "KindRoundsModel" (585 : Nat) ({ cls := "KindRoundsModel", name := "putName", desc := "(I)V" } : Jvm.MethodName)) ∈ lw_good := good_in (List.mem_append_right _ (List.mem_append_right _ (List.mem_append_right _ (List.mem_append_right _ (List.mem_append_right _ (List.mem_append_right _ (List.mem_append_right _ (List.mem_append_right _ (List.mem_of_getElem? (i := 172) (l := tables_1_8) rfl))))))))) rfl
set_option maxHeartbeats 4000000 in
set_option maxRecDepth 100000 in
theorem mM_185 : (Cond.methodLink "KindRoundsModel" (588 : Nat) ({ cls := "KindRoundsModel", name := "isPlain", desc := "(I)Z" } : Jvm.MethodName)) ∈ lw_good := good_in (List.mem_append_right _ (List.mem_append_right _ (List.mem_append_right _ (List.mem_append_right _ (List.mem_append_right _ (List.mem_append_right _ (List.mem_append_right _ (List.mem_append_right _ (List.mem_of_getElem? (i := 132) (l := tables_1_8) rfl))))))))) rfl
set_option maxHeartbeats 4000000 in
set_option maxRecDepth 100000 in
theorem mM_186 : (Cond.methodLink "KindRoundsModel" (591 : Nat) ({ cls := "KindRoundsModel", name := "layRowOut", desc := "()V" } : Jvm.MethodName)) ∈ lw_good := good_in (List.mem_append_right _ (List.mem_append_right _ (List.mem_append_right _ (List.mem_append_right _ (List.mem_append_right _ (List.mem_append_right _ (List.mem_append_right _ (List.mem_append_right _ (List.mem_of_getElem? (i := 164) (l := tables_1_8) rfl))))))))) rfl
set_option maxHeartbeats 4000000 in
set_option maxRecDepth 100000 in
theorem mM_187 : (Cond.fieldLink "KindRoundsModel" (199 : Nat) "KindRoundsModel" "first" "[I") ∈ lw_good := good_in (List.mem_append_right _ (List.mem_append_right _ (List.mem_append_right _ (List.mem_append_right _ (List.mem_append_right _ (List.mem_append_right _ (List.mem_append_left _ (List.mem_of_getElem? (i := 71) (l := tables_1_6) rfl)))))))) rfl
set_option maxHeartbeats 4000000 in
set_option maxRecDepth 100000 in
theorem mM_188 : (Cond.code ({ cls := "KindRoundsModel", name := "feed", desc := "(IIIII)I" } : Jvm.MethodName) prog_14_method_3_code (8 : Nat) (Option.some Jvm.ClassFile.FieldType.int)) ∈ lw_good := good_in (List.mem_append_right _ (List.mem_append_right _ (List.mem_append_right _ (List.mem_append_right _ (List.mem_append_right _ (List.mem_append_right _ (List.mem_append_right _ (List.mem_append_left _ (List.mem_of_getElem? (i := 35) (l := tables_1_7) rfl))))))))) rfl
set_option maxHeartbeats 4000000 in
set_option maxRecDepth 100000 in
theorem mM_189 : (Cond.initialized "KindRoundsModel") ∈ lw_good := good_in (List.mem_append_right _ (List.mem_append_left _ (List.mem_of_getElem? (i := 13) (l := tables_1_1) rfl))) rfl
set_option maxHeartbeats 4000000 in
set_option maxRecDepth 100000 in
theorem mM_190 : (Cond.instanceMethod ({ cls := "KindRoundsModel", name := "feed", desc := "(IIIII)I" } : Jvm.MethodName)) ∈ lw_good := good_in (List.mem_append_right _ (List.mem_append_right _ (List.mem_append_right _ (List.mem_append_right _ (List.mem_append_right _ (List.mem_append_right _ (List.mem_append_right _ (List.mem_append_left _ (List.mem_of_getElem? (i := 33) (l := tables_1_7) rfl))))))))) rfl
set_option maxHeartbeats 4000000 in
set_option maxRecDepth 100000 in
theorem mM_191 : (Cond.selects "KindRoundsModel" ({ cls := "KindRoundsModel", name := "feed", desc := "(IIIII)I" } : Jvm.MethodName) ({ cls := "KindRoundsModel", name := "feed", desc := "(IIIII)I" } : Jvm.MethodName)) ∈ lw_good := good_in (List.mem_append_right _ (List.mem_append_right _ (List.mem_append_right _ (List.mem_append_right _ (List.mem_append_right _ (List.mem_append_right _ (List.mem_append_right _ (List.mem_append_left _ (List.mem_of_getElem? (i := 34) (l := tables_1_7) rfl))))))))) rfl
set_option maxHeartbeats 4000000 in
set_option maxRecDepth 100000 in
theorem mM_192 : (Cond.code ({ cls := "KindRoundsModel", name := "cut", desc := "(I)I" } : Jvm.MethodName) prog_14_method_4_code (3 : Nat) (Option.some Jvm.ClassFile.FieldType.int)) ∈ lw_good := good_in (List.mem_append_right _ (List.mem_append_right _ (List.mem_append_right _ (List.mem_append_right _ (List.mem_append_right _ (List.mem_append_right _ (List.mem_append_right _ (List.mem_append_left _ (List.mem_of_getElem? (i := 39) (l := tables_1_7) rfl))))))))) rfl
set_option maxHeartbeats 4000000 in
set_option maxRecDepth 100000 in
theorem mM_193 : (Cond.instanceMethod ({ cls := "KindRoundsModel", name := "cut", desc := "(I)I" } : Jvm.MethodName)) ∈ lw_good := good_in (List.mem_append_right _ (List.mem_append_right _ (List.mem_append_right _ (List.mem_append_right _ (List.mem_append_right _ (List.mem_append_right _ (List.mem_append_right _ (List.mem_append_left _ (List.mem_of_getElem? (i := 37) (l := tables_1_7) rfl))))))))) rfl
set_option maxHeartbeats 4000000 in
set_option maxRecDepth 100000 in
theorem mM_194 : (Cond.selects "KindRoundsModel" ({ cls := "KindRoundsModel", name := "cut", desc := "(I)I" } : Jvm.MethodName) ({ cls := "KindRoundsModel", name := "cut", desc := "(I)I" } : Jvm.MethodName)) ∈ lw_good := good_in (List.mem_append_right _ (List.mem_append_right _ (List.mem_append_right _ (List.mem_append_right _ (List.mem_append_right _ (List.mem_append_right _ (List.mem_append_right _ (List.mem_append_left _ (List.mem_of_getElem? (i := 38) (l := tables_1_7) rfl))))))))) rfl
set_option maxHeartbeats 4000000 in
set_option maxRecDepth 100000 in
theorem mM_195 : (Cond.code ({ cls := "KindRoundsModel", name := "wrong", desc := "(II)V" } : Jvm.MethodName) prog_14_method_5_code (3 : Nat) (Option.none : Option Jvm.ClassFile.FieldType)) ∈ lw_good := good_in (List.mem_append_right _ (List.mem_append_right _ (List.mem_append_right _ (List.mem_append_right _ (List.mem_append_right _ (List.mem_append_right _ (List.mem_append_right _ (List.mem_append_left _ (List.mem_of_getElem? (i := 80) (l := tables_1_7) rfl))))))))) rfl
set_option maxHeartbeats 4000000 in
set_option maxRecDepth 100000 in
theorem mM_196 : (Cond.instanceMethod ({ cls := "KindRoundsModel", name := "wrong", desc := "(II)V" } : Jvm.MethodName)) ∈ lw_good := good_in (List.mem_append_right _ (List.mem_append_right _ (List.mem_append_right _ (List.mem_append_right _ (List.mem_append_right _ (List.mem_append_right _ (List.mem_append_right _ (List.mem_append_left _ (List.mem_of_getElem? (i := 79) (l := tables_1_7) rfl))))))))) rfl
set_option maxHeartbeats 4000000 in
set_option maxRecDepth 100000 in
theorem mM_197 : Cond.selects "KindRoundsModel" ⟨"KindRoundsModel", "wrong", "(II)V"⟩ ⟨"KindRoundsModel", "wrong", "(II)V"⟩ ∈ lw_good := good_in (List.mem_append_left _ (List.mem_of_getElem? (i := 122) (l := k2_sels lw_privs) (by decide +kernel))) rfl
set_option maxHeartbeats 4000000 in
set_option maxRecDepth 100000 in
theorem mM_198 : (Cond.code ({ cls := "KindRoundsModel", name := "byteAt", desc := "(I)I" } : Jvm.MethodName) prog_14_method_6_code (2 : Nat) (Option.some Jvm.ClassFile.FieldType.int)) ∈ lw_good := good_in (List.mem_append_right _ (List.mem_append_right _ (List.mem_append_right _ (List.mem_append_right _ (List.mem_append_right _ (List.mem_append_right _ (List.mem_append_right _ (List.mem_append_left _ (List.mem_of_getElem? (i := 59) (l := tables_1_7) rfl))))))))) rfl
set_option maxHeartbeats 4000000 in
set_option maxRecDepth 100000 in
theorem mM_199 : (Cond.instanceMethod ({ cls := "KindRoundsModel", name := "byteAt", desc := "(I)I" } : Jvm.MethodName)) ∈ lw_good := good_in (List.mem_append_right _ (List.mem_append_right _ (List.mem_append_right _ (List.mem_append_right _ (List.mem_append_right _ (List.mem_append_right _ (List.mem_append_right _ (List.mem_append_left _ (List.mem_of_getElem? (i := 58) (l := tables_1_7) rfl))))))))) rfl
set_option maxHeartbeats 4000000 in
set_option maxRecDepth 100000 in
theorem mM_200 : Cond.selects "KindRoundsModel" ⟨"KindRoundsModel", "byteAt", "(I)I"⟩ ⟨"KindRoundsModel", "byteAt", "(I)I"⟩ ∈ lw_good := good_in (List.mem_append_left _ (List.mem_of_getElem? (i := 120) (l := k2_sels lw_privs) (by decide +kernel))) rfl
set_option maxHeartbeats 4000000 in
set_option maxRecDepth 100000 in
theorem mM_201 : (Cond.code ({ cls := "KindRoundsModel", name := "isUpper", desc := "(I)Z" } : Jvm.MethodName) prog_14_method_7_code (1 : Nat) (Option.some Jvm.ClassFile.FieldType.boolean)) ∈ lw_good := good_in (List.mem_append_right _ (List.mem_append_right _ (List.mem_append_right _ (List.mem_append_right _ (List.mem_append_right _ (List.mem_append_right _ (List.mem_append_right _ (List.mem_append_left _ (List.mem_of_getElem? (i := 62) (l := tables_1_7) rfl))))))))) rfl
set_option maxHeartbeats 4000000 in
set_option maxRecDepth 100000 in
theorem mM_202 : (Cond.static ({ cls := "KindRoundsModel", name := "isUpper", desc := "(I)Z" } : Jvm.MethodName)) ∈ lw_good := good_in (List.mem_append_right _ (List.mem_append_right _ (List.mem_append_right _ (List.mem_append_right _ (List.mem_append_right _ (List.mem_append_right _ (List.mem_append_right _ (List.mem_append_left _ (List.mem_of_getElem? (i := 61) (l := tables_1_7) rfl))))))))) rfl
set_option maxHeartbeats 4000000 in
set_option maxRecDepth 100000 in
theorem mM_203 : (Cond.code ({ cls := "KindRoundsModel", name := "isLower", desc := "(I)Z" } : Jvm.MethodName) prog_14_method_8_code (1 : Nat) (Option.some Jvm.ClassFile.FieldType.boolean)) ∈ lw_good := good_in (List.mem_append_right _ (List.mem_append_right _ (List.mem_append_right _ (List.mem_append_right _ (List.mem_append_right _ (List.mem_append_right _ (List.mem_append_right _ (List.mem_append_left _ (List.mem_of_getElem? (i := 65) (l := tables_1_7) rfl))))))))) rfl
set_option maxHeartbeats 4000000 in
set_option maxRecDepth 100000 in
theorem mM_204 : (Cond.static ({ cls := "KindRoundsModel", name := "isLower", desc := "(I)Z" } : Jvm.MethodName)) ∈ lw_good := good_in (List.mem_append_right _ (List.mem_append_right _ (List.mem_append_right _ (List.mem_append_right _ (List.mem_append_right _ (List.mem_append_right _ (List.mem_append_right _ (List.mem_append_left _ (List.mem_of_getElem? (i := 64) (l := tables_1_7) rfl))))))))) rfl
set_option maxHeartbeats 4000000 in
set_option maxRecDepth 100000 in
theorem mM_205 : (Cond.code ({ cls := "KindRoundsModel", name := "isOf", desc := "(I)Z" } : Jvm.MethodName) prog_14_method_9_code (1 : Nat) (Option.some Jvm.ClassFile.FieldType.boolean)) ∈ lw_good := good_in (List.mem_append_right _ (List.mem_append_right _ (List.mem_append_right _ (List.mem_append_right _ (List.mem_append_right _ (List.mem_append_right _ (List.mem_append_right _ (List.mem_append_left _ (List.mem_of_getElem? (i := 72) (l := tables_1_7) rfl))))))))) rfl
set_option maxHeartbeats 4000000 in
set_option maxRecDepth 100000 in
theorem mM_206 : (Cond.static ({ cls := "KindRoundsModel", name := "isOf", desc := "(I)Z" } : Jvm.MethodName)) ∈ lw_good := good_in (List.mem_append_right _ (List.mem_append_right _ (List.mem_append_right _ (List.mem_append_right _ (List.mem_append_right _ (List.mem_append_right _ (List.mem_append_right _ (List.mem_append_left _ (List.mem_of_getElem? (i := 71) (l := tables_1_7) rfl))))))))) rfl
set_option maxHeartbeats 4000000 in
set_option maxRecDepth 100000 in
theorem mM_207 : (Cond.code ({ cls := "KindRoundsModel", name := "next", desc := "()V" } : Jvm.MethodName) prog_14_method_10_code (4 : Nat) (Option.none : Option Jvm.ClassFile.FieldType)) ∈ lw_good := good_in (List.mem_append_right _ (List.mem_append_right _ (List.mem_append_right _ (List.mem_append_right _ (List.mem_append_right _ (List.mem_append_right _ (List.mem_append_right _ (List.mem_append_left _ (List.mem_of_getElem? (i := 55) (l := tables_1_7) rfl))))))))) rfl
set_option maxHeartbeats 4000000 in
set_option maxRecDepth 100000 in
theorem mM_208 : (Cond.instanceMethod ({ cls := "KindRoundsModel", name := "next", desc := "()V" } : Jvm.MethodName)) ∈ lw_good := good_in (List.mem_append_right _ (List.mem_append_right _ (List.mem_append_right _ (List.mem_append_right _ (List.mem_append_right _ (List.mem_append_right _ (List.mem_append_right _ (List.mem_append_left _ (List.mem_of_getElem? (i := 54) (l := tables_1_7) rfl))))))))) rfl
set_option maxHeartbeats 4000000 in
set_option maxRecDepth 100000 in
theorem mM_209 : Cond.selects "KindRoundsModel" ⟨"KindRoundsModel", "next", "()V"⟩ ⟨"KindRoundsModel", "next", "()V"⟩ ∈ lw_good := good_in (List.mem_append_left _ (List.mem_of_getElem? (i := 119) (l := k2_sels lw_privs) (by decide +kernel))) rfl
set_option maxHeartbeats 4000000 in
set_option maxRecDepth 100000 in
theorem mM_210 : (Cond.code ({ cls := "KindRoundsModel", name := "name", desc := "(Z)V" } : Jvm.MethodName) prog_14_method_11_code (3 : Nat) (Option.none : Option Jvm.ClassFile.FieldType)) ∈ lw_good := good_in (List.mem_append_right _ (List.mem_append_right _ (List.mem_append_right _ (List.mem_append_right _ (List.mem_append_right _ (List.mem_append_right _ (List.mem_append_right _ (List.mem_append_left _ (List.mem_of_getElem? (i := 69) (l := tables_1_7) rfl))))))))) rfl
set_option maxHeartbeats 4000000 in
set_option maxRecDepth 100000 in
theorem mM_211 : (Cond.instanceMethod ({ cls := "KindRoundsModel", name := "name", desc := "(Z)V" } : Jvm.MethodName)) ∈ lw_good := good_in (List.mem_append_right _ (List.mem_append_right _ (List.mem_append_right _ (List.mem_append_right _ (List.mem_append_right _ (List.mem_append_right _ (List.mem_append_right _ (List.mem_append_left _ (List.mem_of_getElem? (i := 68) (l := tables_1_7) rfl))))))))) rfl
set_option maxHeartbeats 4000000 in
set_option maxRecDepth 100000 in
theorem mM_212 : Cond.selects "KindRoundsModel" ⟨"KindRoundsModel", "name", "(Z)V"⟩ ⟨"KindRoundsModel", "name", "(Z)V"⟩ ∈ lw_good := good_in (List.mem_append_left _ (List.mem_of_getElem? (i := 121) (l := k2_sels lw_privs) (by decide +kernel))) rfl
set_option maxHeartbeats 4000000 in
set_option maxRecDepth 100000 in
theorem mM_213 : (Cond.code ({ cls := "KindRoundsModel", name := "isSign", desc := "(I)Z" } : Jvm.MethodName) prog_14_method_12_code (2 : Nat) (Option.some Jvm.ClassFile.FieldType.boolean)) ∈ lw_good := good_in (List.mem_append_right _ (List.mem_append_right _ (List.mem_append_right _ (List.mem_append_right _ (List.mem_append_right _ (List.mem_append_right _ (List.mem_append_right _ (List.mem_append_left _ (List.mem_of_getElem? (i := 108) (l := tables_1_7) rfl))))))))) rfl
set_option maxHeartbeats 4000000 in
set_option maxRecDepth 100000 in
theorem mM_214 : (Cond.instanceMethod ({ cls := "KindRoundsModel", name := "isSign", desc := "(I)Z" } : Jvm.MethodName)) ∈ lw_good := good_in (List.mem_append_right _ (List.mem_append_right _ (List.mem_append_right _ (List.mem_append_right _ (List.mem_append_right _ (List.mem_append_right _ (List.mem_append_right _ (List.mem_append_left _ (List.mem_of_getElem? (i := 107) (l := tables_1_7) rfl))))))))) rfl
set_option maxHeartbeats 4000000 in
set_option maxRecDepth 100000 in
theorem mM_215 : Cond.selects "KindRoundsModel" ⟨"KindRoundsModel", "isSign", "(I)Z"⟩ ⟨"KindRoundsModel", "isSign", "(I)Z"⟩ ∈ lw_good := good_in (List.mem_append_left _ (List.mem_of_getElem? (i := 129) (l := k2_sels lw_privs) (by decide +kernel))) rfl
set_option maxHeartbeats 4000000 in
set_option maxRecDepth 100000 in
theorem mM_216 : (Cond.code ({ cls := "KindRoundsModel", name := "cannot", desc := "()V" } : Jvm.MethodName) prog_14_method_13_code (1 : Nat) (Option.none : Option Jvm.ClassFile.FieldType)) ∈ lw_good := good_in (List.mem_append_right _ (List.mem_append_right _ (List.mem_append_right _ (List.mem_append_right _ (List.mem_append_right _ (List.mem_append_right _ (List.mem_append_right _ (List.mem_append_left _ (List.mem_of_getElem? (i := 88) (l := tables_1_7) rfl))))))))) rfl
set_option maxHeartbeats 4000000 in
set_option maxRecDepth 100000 in
theorem mM_217 : (Cond.instanceMethod ({ cls := "KindRoundsModel", name := "cannot", desc := "()V" } : Jvm.MethodName)) ∈ lw_good := good_in (List.mem_append_right _ (List.mem_append_right _ (List.mem_append_right _ (List.mem_append_right _ (List.mem_append_right _ (List.mem_append_right _ (List.mem_append_right _ (List.mem_append_left _ (List.mem_of_getElem? (i := 87) (l := tables_1_7) rfl))))))))) rfl
set_option maxHeartbeats 4000000 in
set_option maxRecDepth 100000 in
theorem mM_218 : Cond.selects "KindRoundsModel" ⟨"KindRoundsModel", "cannot", "()V"⟩ ⟨"KindRoundsModel", "cannot", "()V"⟩ ∈ lw_good := good_in (List.mem_append_left _ (List.mem_of_getElem? (i := 124) (l := k2_sels lw_privs) (by decide +kernel))) rfl
set_option maxHeartbeats 4000000 in
set_option maxRecDepth 100000 in
theorem mM_219 : (Cond.code ({ cls := "KindRoundsModel", name := "want", desc := "(I)V" } : Jvm.MethodName) prog_14_method_14_code (2 : Nat) (Option.none : Option Jvm.ClassFile.FieldType)) ∈ lw_good := good_in (List.mem_append_right _ (List.mem_append_right _ (List.mem_append_right _ (List.mem_append_right _ (List.mem_append_right _ (List.mem_append_right _ (List.mem_append_right _ (List.mem_append_left _ (List.mem_of_getElem? (i := 104) (l := tables_1_7) rfl))))))))) rfl
set_option maxHeartbeats 4000000 in
set_option maxRecDepth 100000 in
theorem mM_220 : (Cond.instanceMethod ({ cls := "KindRoundsModel", name := "want", desc := "(I)V" } : Jvm.MethodName)) ∈ lw_good := good_in (List.mem_append_right _ (List.mem_append_right _ (List.mem_append_right _ (List.mem_append_right _ (List.mem_append_right _ (List.mem_append_right _ (List.mem_append_right _ (List.mem_append_left _ (List.mem_of_getElem? (i := 103) (l := tables_1_7) rfl))))))))) rfl
set_option maxHeartbeats 4000000 in
set_option maxRecDepth 100000 in
theorem mM_221 : Cond.selects "KindRoundsModel" ⟨"KindRoundsModel", "want", "(I)V"⟩ ⟨"KindRoundsModel", "want", "(I)V"⟩ ∈ lw_good := good_in (List.mem_append_left _ (List.mem_of_getElem? (i := 128) (l := k2_sels lw_privs) (by decide +kernel))) rfl
set_option maxHeartbeats 4000000 in
set_option maxRecDepth 100000 in
theorem mM_222 : (Cond.code ({ cls := "KindRoundsModel", name := "tell", desc := "(II)V" } : Jvm.MethodName) prog_14_method_15_code (3 : Nat) (Option.none : Option Jvm.ClassFile.FieldType)) ∈ lw_good := good_in (List.mem_append_right _ (List.mem_append_right _ (List.mem_append_right _ (List.mem_append_right _ (List.mem_append_right _ (List.mem_append_right _ (List.mem_append_right _ (List.mem_append_left _ (List.mem_of_getElem? (i := 100) (l := tables_1_7) rfl))))))))) rfl
set_option maxHeartbeats 4000000 in
set_option maxRecDepth 100000 in
theorem mM_223 : (Cond.instanceMethod ({ cls := "KindRoundsModel", name := "tell", desc := "(II)V" } : Jvm.MethodName)) ∈ lw_good := good_in (List.mem_append_right _ (List.mem_append_right _ (List.mem_append_right _ (List.mem_append_right _ (List.mem_append_right _ (List.mem_append_right _ (List.mem_append_right _ (List.mem_append_left _ (List.mem_of_getElem? (i := 99) (l := tables_1_7) rfl))))))))) rfl
set_option maxHeartbeats 4000000 in
set_option maxRecDepth 100000 in
theorem mM_224 : Cond.selects "KindRoundsModel" ⟨"KindRoundsModel", "tell", "(II)V"⟩ ⟨"KindRoundsModel", "tell", "(II)V"⟩ ∈ lw_good := good_in (List.mem_append_left _ (List.mem_of_getElem? (i := 127) (l := k2_sels lw_privs) (by decide +kernel))) rfl
set_option maxHeartbeats 4000000 in
set_option maxRecDepth 100000 in
theorem mM_225 : (Cond.code ({ cls := "KindRoundsModel", name := "act", desc := "(III)V" } : Jvm.MethodName) prog_14_method_16_code (4 : Nat) (Option.none : Option Jvm.ClassFile.FieldType)) ∈ lw_good := good_in (List.mem_append_right _ (List.mem_append_right _ (List.mem_append_right _ (List.mem_append_right _ (List.mem_append_right _ (List.mem_append_right _ (List.mem_append_right _ (List.mem_append_left _ (List.mem_of_getElem? (i := 168) (l := tables_1_7) rfl))))))))) rfl
set_option maxHeartbeats 4000000 in
set_option maxRecDepth 100000 in
theorem mM_226 : (Cond.instanceMethod ({ cls := "KindRoundsModel", name := "act", desc := "(III)V" } : Jvm.MethodName)) ∈ lw_good := good_in (List.mem_append_right _ (List.mem_append_right _ (List.mem_append_right _ (List.mem_append_right _ (List.mem_append_right _ (List.mem_append_right _ (List.mem_append_right _ (List.mem_append_left _ (List.mem_of_getElem? (i := 167) (l := tables_1_7) rfl))))))))) rfl
set_option maxHeartbeats 4000000 in
set_option maxRecDepth 100000 in
theorem mM_227 : Cond.selects "KindRoundsModel" ⟨"KindRoundsModel", "act", "(III)V"⟩ ⟨"KindRoundsModel", "act", "(III)V"⟩ ∈ lw_good := good_in (List.mem_append_left _ (List.mem_of_getElem? (i := 144) (l := k2_sels lw_privs) (by decide +kernel))) rfl
set_option maxHeartbeats 4000000 in
set_option maxRecDepth 100000 in
theorem mM_228 : (Cond.code ({ cls := "KindRoundsModel", name := "node", desc := "(III)I" } : Jvm.MethodName) prog_14_method_17_code (4 : Nat) (Option.some Jvm.ClassFile.FieldType.int)) ∈ lw_good := good_in (List.mem_append_right _ (List.mem_append_right _ (List.mem_append_right _ (List.mem_append_right _ (List.mem_append_right _ (List.mem_append_right _ (List.mem_append_right _ (List.mem_append_left _ (List.mem_of_getElem? (i := 160) (l := tables_1_7) rfl))))))))) rfl
set_option maxHeartbeats 4000000 in
set_option maxRecDepth 100000 in
theorem mM_229 : (Cond.instanceMethod ({ cls := "KindRoundsModel", name := "node", desc := "(III)I" } : Jvm.MethodName)) ∈ lw_good := good_in (List.mem_append_right _ (List.mem_append_right _ (List.mem_append_right _ (List.mem_append_right _ (List.mem_append_right _ (List.mem_append_right _ (List.mem_append_right _ (List.mem_append_left _ (List.mem_of_getElem? (i := 159) (l := tables_1_7) rfl))))))))) rfl
set_option maxHeartbeats 4000000 in
set_option maxRecDepth 100000 in
theorem mM_230 : Cond.selects "KindRoundsModel" ⟨"KindRoundsModel", "node", "(III)I"⟩ ⟨"KindRoundsModel", "node", "(III)I"⟩ ∈ lw_good := good_in (List.mem_append_left _ (List.mem_of_getElem? (i := 142) (l := k2_sels lw_privs) (by decide +kernel))) rfl
set_option maxHeartbeats 4000000 in
set_option maxRecDepth 100000 in
theorem mM_231 : (Cond.code ({ cls := "KindRoundsModel", name := "count", desc := "()V" } : Jvm.MethodName) prog_14_method_18_code (1 : Nat) (Option.none : Option Jvm.ClassFile.FieldType)) ∈ lw_good := good_in (List.mem_append_right _ (List.mem_append_right _ (List.mem_append_right _ (List.mem_append_right _ (List.mem_append_right _ (List.mem_append_right _ (List.mem_append_right _ (List.mem_append_left _ (List.mem_of_getElem? (i := 156) (l := tables_1_7) rfl))))))))) rfl
set_option maxHeartbeats 4000000 in
set_option maxRecDepth 100000 in
theorem mM_232 : (Cond.instanceMethod ({ cls := "KindRoundsModel", name := "count", desc := "()V" } : Jvm.MethodName)) ∈ lw_good := good_in (List.mem_append_right _ (List.mem_append_right _ (List.mem_append_right _ (List.mem_append_right _ (List.mem_append_right _ (List.mem_append_right _ (List.mem_append_right _ (List.mem_append_left _ (List.mem_of_getElem? (i := 155) (l := tables_1_7) rfl))))))))) rfl
set_option maxHeartbeats 4000000 in
set_option maxRecDepth 100000 in
theorem mM_233 : Cond.selects "KindRoundsModel" ⟨"KindRoundsModel", "count", "()V"⟩ ⟨"KindRoundsModel", "count", "()V"⟩ ∈ lw_good := good_in (List.mem_append_left _ (List.mem_of_getElem? (i := 141) (l := k2_sels lw_privs) (by decide +kernel))) rfl
set_option maxHeartbeats 4000000 in
set_option maxRecDepth 100000 in
theorem mM_234 : (Cond.code ({ cls := "KindRoundsModel", name := "deeper", desc := "()V" } : Jvm.MethodName) prog_14_method_19_code (1 : Nat) (Option.none : Option Jvm.ClassFile.FieldType)) ∈ lw_good := good_in (List.mem_append_right _ (List.mem_append_right _ (List.mem_append_right _ (List.mem_append_right _ (List.mem_append_right _ (List.mem_append_right _ (List.mem_append_right _ (List.mem_append_left _ (List.mem_of_getElem? (i := 124) (l := tables_1_7) rfl))))))))) rfl
set_option maxHeartbeats 4000000 in
set_option maxRecDepth 100000 in
theorem mM_235 : (Cond.instanceMethod ({ cls := "KindRoundsModel", name := "deeper", desc := "()V" } : Jvm.MethodName)) ∈ lw_good := good_in (List.mem_append_right _ (List.mem_append_right _ (List.mem_append_right _ (List.mem_append_right _ (List.mem_append_right _ (List.mem_append_right _ (List.mem_append_right _ (List.mem_append_left _ (List.mem_of_getElem? (i := 123) (l := tables_1_7) rfl))))))))) rfl
set_option maxHeartbeats 4000000 in
set_option maxRecDepth 100000 in
theorem mM_236 : Cond.selects "KindRoundsModel" ⟨"KindRoundsModel", "deeper", "()V"⟩ ⟨"KindRoundsModel", "deeper", "()V"⟩ ∈ lw_good := good_in (List.mem_append_left _ (List.mem_of_getElem? (i := 133) (l := k2_sels lw_privs) (by decide +kernel))) rfl
set_option maxHeartbeats 4000000 in
set_option maxRecDepth 100000 in
theorem mM_237 : (Cond.code ({ cls := "KindRoundsModel", name := "canBegin", desc := "()Z" } : Jvm.MethodName) prog_14_method_20_code (1 : Nat) (Option.some Jvm.ClassFile.FieldType.boolean)) ∈ lw_good := good_in (List.mem_append_right _ (List.mem_append_right _ (List.mem_append_right _ (List.mem_append_right _ (List.mem_append_right _ (List.mem_append_right _ (List.mem_append_right _ (List.mem_append_left _ (List.mem_of_getElem? (i := 148) (l := tables_1_7) rfl))))))))) rfl
set_option maxHeartbeats 4000000 in
set_option maxRecDepth 100000 in
theorem mM_238 : (Cond.instanceMethod ({ cls := "KindRoundsModel", name := "canBegin", desc := "()Z" } : Jvm.MethodName)) ∈ lw_good := good_in (List.mem_append_right _ (List.mem_append_right _ (List.mem_append_right _ (List.mem_append_right _ (List.mem_append_right _ (List.mem_append_right _ (List.mem_append_right _ (List.mem_append_left _ (List.mem_of_getElem? (i := 147) (l := tables_1_7) rfl))))))))) rfl
set_option maxHeartbeats 4000000 in
set_option maxRecDepth 100000 in
theorem mM_239 : Cond.selects "KindRoundsModel" ⟨"KindRoundsModel", "canBegin", "()Z"⟩ ⟨"KindRoundsModel", "canBegin", "()Z"⟩ ∈ lw_good := good_in (List.mem_append_left _ (List.mem_of_getElem? (i := 139) (l := k2_sels lw_privs) (by decide +kernel))) rfl
set_option maxHeartbeats 4000000 in
set_option maxRecDepth 100000 in
theorem mM_240 : (Cond.code ({ cls := "KindRoundsModel", name := "open", desc := "(I)V" } : Jvm.MethodName) prog_14_method_21_code (2 : Nat) (Option.none : Option Jvm.ClassFile.FieldType)) ∈ lw_good := good_in (List.mem_append_right _ (List.mem_append_right _ (List.mem_append_right _ (List.mem_append_right _ (List.mem_append_right _ (List.mem_append_right _ (List.mem_append_right _ (List.mem_append_left _ (List.mem_of_getElem? (i := 144) (l := tables_1_7) rfl))))))))) rfl
set_option maxHeartbeats 4000000 in
set_option maxRecDepth 100000 in
theorem mM_241 : (Cond.instanceMethod ({ cls := "KindRoundsModel", name := "open", desc := "(I)V" } : Jvm.MethodName)) ∈ lw_good := good_in (List.mem_append_right _ (List.mem_append_right _ (List.mem_append_right _ (List.mem_append_right _ (List.mem_append_right _ (List.mem_append_right _ (List.mem_append_right _ (List.mem_append_left _ (List.mem_of_getElem? (i := 143) (l := tables_1_7) rfl))))))))) rfl
set_option maxHeartbeats 4000000 in
set_option maxRecDepth 100000 in
theorem mM_242 : Cond.selects "KindRoundsModel" ⟨"KindRoundsModel", "open", "(I)V"⟩ ⟨"KindRoundsModel", "open", "(I)V"⟩ ∈ lw_good := good_in (List.mem_append_left _ (List.mem_of_getElem? (i := 138) (l := k2_sels lw_privs) (by decide +kernel))) rfl
set_option maxHeartbeats 4000000 in
set_option maxRecDepth 100000 in
theorem mM_243 : (Cond.code ({ cls := "KindRoundsModel", name := "addOne", desc := "(III)V" } : Jvm.MethodName) prog_14_method_22_code (4 : Nat) (Option.none : Option Jvm.ClassFile.FieldType)) ∈ lw_good := good_in (List.mem_append_right _ (List.mem_append_right _ (List.mem_append_right _ (List.mem_append_right _ (List.mem_append_right _ (List.mem_append_right _ (List.mem_append_right _ (List.mem_append_left _ (List.mem_of_getElem? (i := 164) (l := tables_1_7) rfl))))))))) rfl
set_option maxHeartbeats 4000000 in
set_option maxRecDepth 100000 in
theorem mM_244 : (Cond.instanceMethod ({ cls := "KindRoundsModel", name := "addOne", desc := "(III)V" } : Jvm.MethodName)) ∈ lw_good := good_in (List.mem_append_right _ (List.mem_append_right _ (List.mem_append_right _ (List.mem_append_right _ (List.mem_append_right _ (List.mem_append_right _ (List.mem_append_right _ (List.mem_append_left _ (List.mem_of_getElem? (i := 163) (l := tables_1_7) rfl))))))))) rfl
set_option maxHeartbeats 4000000 in
set_option maxRecDepth 100000 in
theorem mM_245 : Cond.selects "KindRoundsModel" ⟨"KindRoundsModel", "addOne", "(III)V"⟩ ⟨"KindRoundsModel", "addOne", "(III)V"⟩ ∈ lw_good := good_in (List.mem_append_left _ (List.mem_of_getElem? (i := 143) (l := k2_sels lw_privs) (by decide +kernel))) rfl
set_option maxHeartbeats 4000000 in
set_option maxRecDepth 100000 in
theorem mM_246 : (Cond.code ({ cls := "KindRoundsModel", name := "endSome", desc := "()V" } : Jvm.MethodName) prog_14_method_23_code (3 : Nat) (Option.none : Option Jvm.ClassFile.FieldType)) ∈ lw_good := good_in (List.mem_append_right _ (List.mem_append_right _ (List.mem_append_right _ (List.mem_append_right _ (List.mem_append_right _ (List.mem_append_right _ (List.mem_append_right _ (List.mem_append_left _ (List.mem_of_getElem? (i := 172) (l := tables_1_7) rfl))))))))) rfl
set_option maxHeartbeats 4000000 in
set_option maxRecDepth 100000 in
theorem mM_247 : (Cond.instanceMethod ({ cls := "KindRoundsModel", name := "endSome", desc := "()V" } : Jvm.MethodName)) ∈ lw_good := good_in (List.mem_append_right _ (List.mem_append_right _ (List.mem_append_right _ (List.mem_append_right _ (List.mem_append_right _ (List.mem_append_right _ (List.mem_append_right _ (List.mem_append_left _ (List.mem_of_getElem? (i := 171) (l := tables_1_7) rfl))))))))) rfl
set_option maxHeartbeats 4000000 in
set_option maxRecDepth 100000 in
theorem mM_248 : Cond.selects "KindRoundsModel" ⟨"KindRoundsModel", "endSome", "()V"⟩ ⟨"KindRoundsModel", "endSome", "()V"⟩ ∈ lw_good := good_in (List.mem_append_left _ (List.mem_of_getElem? (i := 145) (l := k2_sels lw_privs) (by decide +kernel))) rfl
set_option maxHeartbeats 4000000 in
set_option maxRecDepth 100000 in
theorem mM_249 : (Cond.code ({ cls := "KindRoundsModel", name := "beginOne", desc := "()V" } : Jvm.MethodName) prog_14_method_24_code (4 : Nat) (Option.none : Option Jvm.ClassFile.FieldType)) ∈ lw_good := good_in (List.mem_append_right _ (List.mem_append_right _ (List.mem_append_right _ (List.mem_append_right _ (List.mem_append_right _ (List.mem_append_right _ (List.mem_append_right _ (List.mem_append_left _ (List.mem_of_getElem? (i := 152) (l := tables_1_7) rfl))))))))) rfl
set_option maxHeartbeats 4000000 in
set_option maxRecDepth 100000 in
theorem mM_250 : (Cond.instanceMethod ({ cls := "KindRoundsModel", name := "beginOne", desc := "()V" } : Jvm.MethodName)) ∈ lw_good := good_in (List.mem_append_right _ (List.mem_append_right _ (List.mem_append_right _ (List.mem_append_right _ (List.mem_append_right _ (List.mem_append_right _ (List.mem_append_right _ (List.mem_append_left _ (List.mem_of_getElem? (i := 151) (l := tables_1_7) rfl))))))))) rfl
set_option maxHeartbeats 4000000 in
set_option maxRecDepth 100000 in
theorem mM_251 : Cond.selects "KindRoundsModel" ⟨"KindRoundsModel", "beginOne", "()V"⟩ ⟨"KindRoundsModel", "beginOne", "()V"⟩ ∈ lw_good := good_in (List.mem_append_left _ (List.mem_of_getElem? (i := 140) (l := k2_sels lw_privs) (by decide +kernel))) rfl
set_option maxHeartbeats 4000000 in
set_option maxRecDepth 100000 in
theorem mM_252 : (Cond.code ({ cls := "KindRoundsModel", name := "closeOne", desc := "()V" } : Jvm.MethodName) prog_14_method_25_code (4 : Nat) (Option.none : Option Jvm.ClassFile.FieldType)) ∈ lw_good := good_in (List.mem_append_right _ (List.mem_append_right _ (List.mem_append_right _ (List.mem_append_right _ (List.mem_append_right _ (List.mem_append_right _ (List.mem_append_right _ (List.mem_append_left _ (List.mem_of_getElem? (i := 176) (l := tables_1_7) rfl))))))))) rfl
set_option maxHeartbeats 4000000 in
set_option maxRecDepth 100000 in
theorem mM_253 : (Cond.instanceMethod ({ cls := "KindRoundsModel", name := "closeOne", desc := "()V" } : Jvm.MethodName)) ∈ lw_good := good_in (List.mem_append_right _ (List.mem_append_right _ (List.mem_append_right _ (List.mem_append_right _ (List.mem_append_right _ (List.mem_append_right _ (List.mem_append_right _ (List.mem_append_left _ (List.mem_of_getElem? (i := 175) (l := tables_1_7) rfl))))))))) rfl
set_option maxHeartbeats 4000000 in
set_option maxRecDepth 100000 in
theorem mM_254 : Cond.selects "KindRoundsModel" ⟨"KindRoundsModel", "closeOne", "()V"⟩ ⟨"KindRoundsModel", "closeOne", "()V"⟩ ∈ lw_good := good_in (List.mem_append_left _ (List.mem_of_getElem? (i := 146) (l := k2_sels lw_privs) (by decide +kernel))) rfl
set_option maxHeartbeats 4000000 in
set_option maxRecDepth 100000 in
theorem mM_255 : (Cond.code ({ cls := "KindRoundsModel", name := "readOne", desc := "()I" } : Jvm.MethodName) prog_14_method_26_code (1 : Nat) (Option.some Jvm.ClassFile.FieldType.int)) ∈ lw_good := good_in (List.mem_append_right _ (List.mem_append_right _ (List.mem_append_right _ (List.mem_append_right _ (List.mem_append_right _ (List.mem_append_right _ (List.mem_append_right _ (List.mem_append_left _ (List.mem_of_getElem? (i := 188) (l := tables_1_7) rfl))))))))) rfl
set_option maxHeartbeats 4000000 in
set_option maxRecDepth 100000 in
theorem mM_256 : (Cond.instanceMethod ({ cls := "KindRoundsModel", name := "readOne", desc := "()I" } : Jvm.MethodName)) ∈ lw_good := good_in (List.mem_append_right _ (List.mem_append_right _ (List.mem_append_right _ (List.mem_append_right _ (List.mem_append_right _ (List.mem_append_right _ (List.mem_append_right _ (List.mem_append_left _ (List.mem_of_getElem? (i := 187) (l := tables_1_7) rfl))))))))) rfl
set_option maxHeartbeats 4000000 in
set_option maxRecDepth 100000 in
theorem mM_257 : Cond.selects "KindRoundsModel" ⟨"KindRoundsModel", "readOne", "()I"⟩ ⟨"KindRoundsModel", "readOne", "()I"⟩ ∈ lw_good := good_in (List.mem_append_left _ (List.mem_of_getElem? (i := 149) (l := k2_sels lw_privs) (by decide +kernel))) rfl
set_option maxHeartbeats 4000000 in
set_option maxRecDepth 100000 in
theorem mM_258 : (Cond.code ({ cls := "KindRoundsModel", name := "readType", desc := "()I" } : Jvm.MethodName) prog_14_method_27_code (1 : Nat) (Option.some Jvm.ClassFile.FieldType.int)) ∈ lw_good := good_in (List.mem_append_right _ (List.mem_append_right _ (List.mem_append_right _ (List.mem_append_right _ (List.mem_append_right _ (List.mem_append_right _ (List.mem_append_right _ (List.mem_append_left _ (List.mem_of_getElem? (i := 136) (l := tables_1_7) rfl))))))))) rfl
set_option maxHeartbeats 4000000 in
set_option maxRecDepth 100000 in
theorem mM_259 : (Cond.instanceMethod ({ cls := "KindRoundsModel", name := "readType", desc := "()I" } : Jvm.MethodName)) ∈ lw_good := good_in (List.mem_append_right _ (List.mem_append_right _ (List.mem_append_right _ (List.mem_append_right _ (List.mem_append_right _ (List.mem_append_right _ (List.mem_append_right _ (List.mem_append_left _ (List.mem_of_getElem? (i := 135) (l := tables_1_7) rfl))))))))) rfl
set_option maxHeartbeats 4000000 in
set_option maxRecDepth 100000 in
theorem mM_260 : Cond.selects "KindRoundsModel" ⟨"KindRoundsModel", "readType", "()I"⟩ ⟨"KindRoundsModel", "readType", "()I"⟩ ∈ lw_good := good_in (List.mem_append_left _ (List.mem_of_getElem? (i := 136) (l := k2_sels lw_privs) (by decide +kernel))) rfl
set_option maxHeartbeats 4000000 in
set_option maxRecDepth 100000 in
theorem mM_261 : (Cond.code ({ cls := "KindRoundsModel", name := "readOpen", desc := "(I)I" } : Jvm.MethodName) prog_14_method_28_code (2 : Nat) (Option.some Jvm.ClassFile.FieldType.int)) ∈ lw_good := good_in (List.mem_append_right _ (List.mem_append_right _ (List.mem_append_right _ (List.mem_append_right _ (List.mem_append_right _ (List.mem_append_right _ (List.mem_append_right _ (List.mem_append_left _ (List.mem_of_getElem? (i := 140) (l := tables_1_7) rfl))))))))) rfl
set_option maxHeartbeats 4000000 in
set_option maxRecDepth 100000 in
theorem mM_262 : (Cond.instanceMethod ({ cls := "KindRoundsModel", name := "readOpen", desc := "(I)I" } : Jvm.MethodName)) ∈ lw_good := good_in (List.mem_append_right _ (List.mem_append_right _ (List.mem_append_right _ (List.mem_append_right _ (List.mem_append_right _ (List.mem_append_right _ (List.mem_append_right _ (List.mem_append_left _ (List.mem_of_getElem? (i := 139) (l := tables_1_7) rfl))))))))) rfl
set_option maxHeartbeats 4000000 in
set_option maxRecDepth 100000 in
theorem mM_263 : Cond.selects "KindRoundsModel" ⟨"KindRoundsModel", "readOpen", "(I)I"⟩ ⟨"KindRoundsModel", "readOpen", "(I)I"⟩ ∈ lw_good := good_in (List.mem_append_left _ (List.mem_of_getElem? (i := 137) (l := k2_sels lw_privs) (by decide +kernel))) rfl
set_option maxHeartbeats 4000000 in
set_option maxRecDepth 100000 in
theorem mM_264 : (Cond.code ({ cls := "KindRoundsModel", name := "newKind", desc := "(III)I" } : Jvm.MethodName) prog_14_method_29_code (4 : Nat) (Option.some Jvm.ClassFile.FieldType.int)) ∈ lw_good := good_in (List.mem_append_right _ (List.mem_append_right _ (List.mem_append_right _ (List.mem_append_right _ (List.mem_append_right _ (List.mem_append_left _ (List.mem_of_getElem? (i := 212) (l := tables_1_5) rfl))))))) rfl
set_option maxHeartbeats 4000000 in
set_option maxRecDepth 100000 in
theorem mM_265 : (Cond.instanceMethod ({ cls := "KindRoundsModel", name := "newKind", desc := "(III)I" } : Jvm.MethodName)) ∈ lw_good := good_in (List.mem_append_right _ (List.mem_append_right _ (List.mem_append_right _ (List.mem_append_right _ (List.mem_append_right _ (List.mem_append_left _ (List.mem_of_getElem? (i := 211) (l := tables_1_5) rfl))))))) rfl
set_option maxHeartbeats 4000000 in
set_option maxRecDepth 100000 in
theorem mM_266 : Cond.selects "KindRoundsModel" ⟨"KindRoundsModel", "newKind", "(III)I"⟩ ⟨"KindRoundsModel", "newKind", "(III)I"⟩ ∈ lw_good := good_in (List.mem_append_left _ (List.mem_of_getElem? (i := 116) (l := k2_sels lw_privs) (by decide +kernel))) rfl
set_option maxHeartbeats 4000000 in
set_option maxRecDepth 100000 in
theorem mM_267 : (Cond.code ({ cls := "KindRoundsModel", name := "top", desc := "(I)I" } : Jvm.MethodName) prog_14_method_30_code (3 : Nat) (Option.some Jvm.ClassFile.FieldType.int)) ∈ lw_good := good_in (List.mem_append_right _ (List.mem_append_right _ (List.mem_append_right _ (List.mem_append_right _ (List.mem_append_right _ (List.mem_append_right _ (List.mem_append_right _ (List.mem_append_right _ (List.mem_of_getElem? (i := 35) (l := tables_1_8) rfl))))))))) rfl
set_option maxHeartbeats 4000000 in
set_option maxRecDepth 100000 in
theorem mM_268 : (Cond.instanceMethod ({ cls := "KindRoundsModel", name := "top", desc := "(I)I" } : Jvm.MethodName)) ∈ lw_good := good_in (List.mem_append_right _ (List.mem_append_right _ (List.mem_append_right _ (List.mem_append_right _ (List.mem_append_right _ (List.mem_append_right _ (List.mem_append_right _ (List.mem_append_right _ (List.mem_of_getElem? (i := 34) (l := tables_1_8) rfl))))))))) rfl
set_option maxHeartbeats 4000000 in
set_option maxRecDepth 100000 in
theorem mM_269 : Cond.selects "KindRoundsModel" ⟨"KindRoundsModel", "top", "(I)I"⟩ ⟨"KindRoundsModel", "top", "(I)I"⟩ ∈ lw_good := good_in (List.mem_append_left _ (List.mem_of_getElem? (i := 169) (l := k2_sels lw_privs) (by decide +kernel))) rfl
set_option maxHeartbeats 4000000 in
set_option maxRecDepth 100000 in
theorem mM_270 : (Cond.code ({ cls := "KindRoundsModel", name := "addPart", desc := "(I)V" } : Jvm.MethodName) prog_14_method_31_code (4 : Nat) (Option.none : Option Jvm.ClassFile.FieldType)) ∈ lw_good := good_in (List.mem_append_right _ (List.mem_append_right _ (List.mem_append_right _ (List.mem_append_right _ (List.mem_append_right _ (List.mem_append_right _ (List.mem_append_right _ (List.mem_append_left _ (List.mem_of_getElem? (i := 120) (l := tables_1_7) rfl))))))))) rfl
set_option maxHeartbeats 4000000 in
set_option maxRecDepth 100000 in
theorem mM_271 : (Cond.instanceMethod ({ cls := "KindRoundsModel", name := "addPart", desc := "(I)V" } : Jvm.MethodName)) ∈ lw_good := good_in (List.mem_append_right _ (List.mem_append_right _ (List.mem_append_right _ (List.mem_append_right _ (List.mem_append_right _ (List.mem_append_right _ (List.mem_append_right _ (List.mem_append_left _ (List.mem_of_getElem? (i := 119) (l := tables_1_7) rfl))))))))) rfl
set_option maxHeartbeats 4000000 in
set_option maxRecDepth 100000 in
theorem mM_272 : Cond.selects "KindRoundsModel" ⟨"KindRoundsModel", "addPart", "(I)V"⟩ ⟨"KindRoundsModel", "addPart", "(I)V"⟩ ∈ lw_good := good_in (List.mem_append_left _ (List.mem_of_getElem? (i := 132) (l := k2_sels lw_privs) (by decide +kernel))) rfl
set_option maxHeartbeats 4000000 in
set_option maxRecDepth 100000 in
theorem mM_273 : (Cond.code ({ cls := "KindRoundsModel", name := "openKind", desc := "()V" } : Jvm.MethodName) prog_14_method_32_code (1 : Nat) (Option.none : Option Jvm.ClassFile.FieldType)) ∈ lw_good := good_in (List.mem_append_right _ (List.mem_append_right _ (List.mem_append_right _ (List.mem_append_right _ (List.mem_append_right _ (List.mem_append_right _ (List.mem_append_right _ (List.mem_append_left _ (List.mem_of_getElem? (i := 116) (l := tables_1_7) rfl))))))))) rfl
set_option maxHeartbeats 4000000 in
set_option maxRecDepth 100000 in
theorem mM_274 : (Cond.instanceMethod ({ cls := "KindRoundsModel", name := "openKind", desc := "()V" } : Jvm.MethodName)) ∈ lw_good := good_in (List.mem_append_right _ (List.mem_append_right _ (List.mem_append_right _ (List.mem_append_right _ (List.mem_append_right _ (List.mem_append_right _ (List.mem_append_right _ (List.mem_append_left _ (List.mem_of_getElem? (i := 115) (l := tables_1_7) rfl))))))))) rfl
set_option maxHeartbeats 4000000 in
set_option maxRecDepth 100000 in
theorem mM_275 : Cond.selects "KindRoundsModel" ⟨"KindRoundsModel", "openKind", "()V"⟩ ⟨"KindRoundsModel", "openKind", "()V"⟩ ∈ lw_good := good_in (List.mem_append_left _ (List.mem_of_getElem? (i := 131) (l := k2_sels lw_privs) (by decide +kernel))) rfl
set_option maxHeartbeats 4000000 in
set_option maxRecDepth 100000 in
theorem mM_276 : (Cond.code ({ cls := "KindRoundsModel", name := "readKind", desc := "()I" } : Jvm.MethodName) prog_14_method_33_code (2 : Nat) (Option.some Jvm.ClassFile.FieldType.int)) ∈ lw_good := good_in (List.mem_append_right _ (List.mem_append_right _ (List.mem_append_right _ (List.mem_append_right _ (List.mem_append_right _ (List.mem_append_right _ (List.mem_append_right _ (List.mem_append_left _ (List.mem_of_getElem? (i := 112) (l := tables_1_7) rfl))))))))) rfl
set_option maxHeartbeats 4000000 in
set_option maxRecDepth 100000 in
theorem mM_277 : (Cond.instanceMethod ({ cls := "KindRoundsModel", name := "readKind", desc := "()I" } : Jvm.MethodName)) ∈ lw_good := good_in (List.mem_append_right _ (List.mem_append_right _ (List.mem_append_right _ (List.mem_append_right _ (List.mem_append_right _ (List.mem_append_right _ (List.mem_append_right _ (List.mem_append_left _ (List.mem_of_getElem? (i := 111) (l := tables_1_7) rfl))))))))) rfl
set_option maxHeartbeats 4000000 in
set_option maxRecDepth 100000 in
theorem mM_278 : Cond.selects "KindRoundsModel" ⟨"KindRoundsModel", "readKind", "()I"⟩ ⟨"KindRoundsModel", "readKind", "()I"⟩ ∈ lw_good := good_in (List.mem_append_left _ (List.mem_of_getElem? (i := 130) (l := k2_sels lw_privs) (by decide +kernel))) rfl
set_option maxHeartbeats 4000000 in
set_option maxRecDepth 100000 in
theorem mM_279 : (Cond.code ({ cls := "KindRoundsModel", name := "begin", desc := "()V" } : Jvm.MethodName) prog_14_method_34_code (1 : Nat) (Option.none : Option Jvm.ClassFile.FieldType)) ∈ lw_good := good_in (List.mem_append_right _ (List.mem_append_right _ (List.mem_append_right _ (List.mem_append_right _ (List.mem_append_right _ (List.mem_append_right _ (List.mem_append_right _ (List.mem_append_left _ (List.mem_of_getElem? (i := 51) (l := tables_1_7) rfl))))))))) rfl
set_option maxHeartbeats 4000000 in
set_option maxRecDepth 100000 in
theorem mM_280 : (Cond.instanceMethod ({ cls := "KindRoundsModel", name := "begin", desc := "()V" } : Jvm.MethodName)) ∈ lw_good := good_in (List.mem_append_right _ (List.mem_append_right _ (List.mem_append_right _ (List.mem_append_right _ (List.mem_append_right _ (List.mem_append_right _ (List.mem_append_right _ (List.mem_append_left _ (List.mem_of_getElem? (i := 50) (l := tables_1_7) rfl))))))))) rfl
set_option maxHeartbeats 4000000 in
set_option maxRecDepth 100000 in
theorem mM_281 : Cond.selects "KindRoundsModel" ⟨"KindRoundsModel", "begin", "()V"⟩ ⟨"KindRoundsModel", "begin", "()V"⟩ ∈ lw_good := good_in (List.mem_append_left _ (List.mem_of_getElem? (i := 118) (l := k2_sels lw_privs) (by decide +kernel))) rfl
set_option maxHeartbeats 4000000 in
set_option maxRecDepth 100000 in
theorem mM_282 : (Cond.code ({ cls := "KindRoundsModel", name := "wantName", desc := "(I)Z" } : Jvm.MethodName) prog_14_method_35_code (2 : Nat) (Option.some Jvm.ClassFile.FieldType.boolean)) ∈ lw_good := good_in (List.mem_append_right _ (List.mem_append_right _ (List.mem_append_right _ (List.mem_append_right _ (List.mem_append_right _ (List.mem_append_right _ (List.mem_append_right _ (List.mem_append_left _ (List.mem_of_getElem? (i := 92) (l := tables_1_7) rfl))))))))) rfl
set_option maxHeartbeats 4000000 in
set_option maxRecDepth 100000 in
theorem mM_283 : (Cond.instanceMethod ({ cls := "KindRoundsModel", name := "wantName", desc := "(I)Z" } : Jvm.MethodName)) ∈ lw_good := good_in (List.mem_append_right _ (List.mem_append_right _ (List.mem_append_right _ (List.mem_append_right _ (List.mem_append_right _ (List.mem_append_right _ (List.mem_append_right _ (List.mem_append_left _ (List.mem_of_getElem? (i := 91) (l := tables_1_7) rfl))))))))) rfl
set_option maxHeartbeats 4000000 in
set_option maxRecDepth 100000 in
theorem mM_284 : Cond.selects "KindRoundsModel" ⟨"KindRoundsModel", "wantName", "(I)Z"⟩ ⟨"KindRoundsModel", "wantName", "(I)Z"⟩ ∈ lw_good := good_in (List.mem_append_left _ (List.mem_of_getElem? (i := 125) (l := k2_sels lw_privs) (by decide +kernel))) rfl
set_option maxHeartbeats 4000000 in
set_option maxRecDepth 100000 in
theorem mM_285 : (Cond.code ({ cls := "KindRoundsModel", name := "readDecl", desc := "()V" } : Jvm.MethodName) prog_14_method_36_code (2 : Nat) (Option.none : Option Jvm.ClassFile.FieldType)) ∈ lw_good := good_in (List.mem_append_right _ (List.mem_append_right _ (List.mem_append_right _ (List.mem_append_right _ (List.mem_append_right _ (List.mem_append_right _ (List.mem_append_right _ (List.mem_append_left _ (List.mem_of_getElem? (i := 84) (l := tables_1_7) rfl))))))))) rfl
set_option maxHeartbeats 4000000 in
set_option maxRecDepth 100000 in
theorem mM_286 : (Cond.instanceMethod ({ cls := "KindRoundsModel", name := "readDecl", desc := "()V" } : Jvm.MethodName)) ∈ lw_good := good_in (List.mem_append_right _ (List.mem_append_right _ (List.mem_append_right _ (List.mem_append_right _ (List.mem_append_right _ (List.mem_append_right _ (List.mem_append_right _ (List.mem_append_left _ (List.mem_of_getElem? (i := 83) (l := tables_1_7) rfl))))))))) rfl
set_option maxHeartbeats 4000000 in
set_option maxRecDepth 100000 in
theorem mM_287 : Cond.selects "KindRoundsModel" ⟨"KindRoundsModel", "readDecl", "()V"⟩ ⟨"KindRoundsModel", "readDecl", "()V"⟩ ∈ lw_good := good_in (List.mem_append_left _ (List.mem_of_getElem? (i := 123) (l := k2_sels lw_privs) (by decide +kernel))) rfl
set_option maxHeartbeats 4000000 in
set_option maxRecDepth 100000 in
theorem mM_288 : (Cond.code ({ cls := "KindRoundsModel", name := "readWish", desc := "()V" } : Jvm.MethodName) prog_14_method_37_code (1 : Nat) (Option.none : Option Jvm.ClassFile.FieldType)) ∈ lw_good := good_in (List.mem_append_right _ (List.mem_append_right _ (List.mem_append_right _ (List.mem_append_right _ (List.mem_append_right _ (List.mem_append_right _ (List.mem_append_right _ (List.mem_append_left _ (List.mem_of_getElem? (i := 96) (l := tables_1_7) rfl))))))))) rfl
set_option maxHeartbeats 4000000 in
set_option maxRecDepth 100000 in
theorem mM_289 : (Cond.instanceMethod ({ cls := "KindRoundsModel", name := "readWish", desc := "()V" } : Jvm.MethodName)) ∈ lw_good := good_in (List.mem_append_right _ (List.mem_append_right _ (List.mem_append_right _ (List.mem_append_right _ (List.mem_append_right _ (List.mem_append_right _ (List.mem_append_right _ (List.mem_append_left _ (List.mem_of_getElem? (i := 95) (l := tables_1_7) rfl))))))))) rfl
set_option maxHeartbeats 4000000 in
set_option maxRecDepth 100000 in
theorem mM_290 : Cond.selects "KindRoundsModel" ⟨"KindRoundsModel", "readWish", "()V"⟩ ⟨"KindRoundsModel", "readWish", "()V"⟩ ∈ lw_good := good_in (List.mem_append_left _ (List.mem_of_getElem? (i := 126) (l := k2_sels lw_privs) (by decide +kernel))) rfl
set_option maxHeartbeats 4000000 in
set_option maxRecDepth 100000 in
theorem mM_291 : (Cond.code ({ cls := "KindRoundsModel", name := "readParam", desc := "()V" } : Jvm.MethodName) prog_14_method_38_code (1 : Nat) (Option.none : Option Jvm.ClassFile.FieldType)) ∈ lw_good := good_in (List.mem_append_right _ (List.mem_append_right _ (List.mem_append_right _ (List.mem_append_right _ (List.mem_append_right _ (List.mem_append_right _ (List.mem_append_right _ (List.mem_append_left _ (List.mem_of_getElem? (i := 132) (l := tables_1_7) rfl))))))))) rfl
set_option maxHeartbeats 4000000 in
set_option maxRecDepth 100000 in
theorem mM_292 : (Cond.instanceMethod ({ cls := "KindRoundsModel", name := "readParam", desc := "()V" } : Jvm.MethodName)) ∈ lw_good := good_in (List.mem_append_right _ (List.mem_append_right _ (List.mem_append_right _ (List.mem_append_right _ (List.mem_append_right _ (List.mem_append_right _ (List.mem_append_right _ (List.mem_append_left _ (List.mem_of_getElem? (i := 131) (l := tables_1_7) rfl))))))))) rfl
set_option maxHeartbeats 4000000 in
set_option maxRecDepth 100000 in
theorem mM_293 : Cond.selects "KindRoundsModel" ⟨"KindRoundsModel", "readParam", "()V"⟩ ⟨"KindRoundsModel", "readParam", "()V"⟩ ∈ lw_good := good_in (List.mem_append_left _ (List.mem_of_getElem? (i := 135) (l := k2_sels lw_privs) (by decide +kernel))) rfl
set_option maxHeartbeats 4000000 in
set_option maxRecDepth 100000 in
theorem mM_294 : (Cond.code ({ cls := "KindRoundsModel", name := "readSides", desc := "(I)V" } : Jvm.MethodName) prog_14_method_39_code (3 : Nat) (Option.none : Option Jvm.ClassFile.FieldType)) ∈ lw_good := good_in (List.mem_append_right _ (List.mem_append_right _ (List.mem_append_right _ (List.mem_append_right _ (List.mem_append_right _ (List.mem_append_right _ (List.mem_append_right _ (List.mem_append_left _ (List.mem_of_getElem? (i := 180) (l := tables_1_7) rfl))))))))) rfl
set_option maxHeartbeats 4000000 in
set_option maxRecDepth 100000 in
theorem mM_295 : (Cond.instanceMethod ({ cls := "KindRoundsModel", name := "readSides", desc := "(I)V" } : Jvm.MethodName)) ∈ lw_good := good_in (List.mem_append_right _ (List.mem_append_right _ (List.mem_append_right _ (List.mem_append_right _ (List.mem_append_right _ (List.mem_append_right _ (List.mem_append_right _ (List.mem_append_left _ (List.mem_of_getElem? (i := 179) (l := tables_1_7) rfl))))))))) rfl
set_option maxHeartbeats 4000000 in
set_option maxRecDepth 100000 in
theorem mM_296 : Cond.selects "KindRoundsModel" ⟨"KindRoundsModel", "readSides", "(I)V"⟩ ⟨"KindRoundsModel", "readSides", "(I)V"⟩ ∈ lw_good := good_in (List.mem_append_left _ (List.mem_of_getElem? (i := 147) (l := k2_sels lw_privs) (by decide +kernel))) rfl
set_option maxHeartbeats 4000000 in
set_option maxRecDepth 100000 in
theorem mM_297 : (Cond.code ({ cls := "KindRoundsModel", name := "readCon", desc := "()V" } : Jvm.MethodName) prog_14_method_40_code (2 : Nat) (Option.none : Option Jvm.ClassFile.FieldType)) ∈ lw_good := good_in (List.mem_append_right _ (List.mem_append_right _ (List.mem_append_right _ (List.mem_append_right _ (List.mem_append_right _ (List.mem_append_right _ (List.mem_append_right _ (List.mem_append_left _ (List.mem_of_getElem? (i := 184) (l := tables_1_7) rfl))))))))) rfl
set_option maxHeartbeats 4000000 in
set_option maxRecDepth 100000 in
theorem mM_298 : (Cond.instanceMethod ({ cls := "KindRoundsModel", name := "readCon", desc := "()V" } : Jvm.MethodName)) ∈ lw_good := good_in (List.mem_append_right _ (List.mem_append_right _ (List.mem_append_right _ (List.mem_append_right _ (List.mem_append_right _ (List.mem_append_right _ (List.mem_append_right _ (List.mem_append_left _ (List.mem_of_getElem? (i := 183) (l := tables_1_7) rfl))))))))) rfl
set_option maxHeartbeats 4000000 in
set_option maxRecDepth 100000 in
theorem mM_299 : Cond.selects "KindRoundsModel" ⟨"KindRoundsModel", "readCon", "()V"⟩ ⟨"KindRoundsModel", "readCon", "()V"⟩ ∈ lw_good := good_in (List.mem_append_left _ (List.mem_of_getElem? (i := 148) (l := k2_sels lw_privs) (by decide +kernel))) rfl
set_option maxHeartbeats 4000000 in
set_option maxRecDepth 100000 in
theorem mM_300 : (Cond.code ({ cls := "KindRoundsModel", name := "readClass", desc := "()V" } : Jvm.MethodName) prog_14_method_41_code (2 : Nat) (Option.none : Option Jvm.ClassFile.FieldType)) ∈ lw_good := good_in (List.mem_append_right _ (List.mem_append_right _ (List.mem_append_right _ (List.mem_append_right _ (List.mem_append_right _ (List.mem_append_right _ (List.mem_append_right _ (List.mem_append_left _ (List.mem_of_getElem? (i := 128) (l := tables_1_7) rfl))))))))) rfl
set_option maxHeartbeats 4000000 in
set_option maxRecDepth 100000 in
theorem mM_301 : (Cond.instanceMethod ({ cls := "KindRoundsModel", name := "readClass", desc := "()V" } : Jvm.MethodName)) ∈ lw_good := good_in (List.mem_append_right _ (List.mem_append_right _ (List.mem_append_right _ (List.mem_append_right _ (List.mem_append_right _ (List.mem_append_right _ (List.mem_append_right _ (List.mem_append_left _ (List.mem_of_getElem? (i := 127) (l := tables_1_7) rfl))))))))) rfl
set_option maxHeartbeats 4000000 in
set_option maxRecDepth 100000 in
theorem mM_302 : Cond.selects "KindRoundsModel" ⟨"KindRoundsModel", "readClass", "()V"⟩ ⟨"KindRoundsModel", "readClass", "()V"⟩ ∈ lw_good := good_in (List.mem_append_left _ (List.mem_of_getElem? (i := 134) (l := k2_sels lw_privs) (by decide +kernel))) rfl
set_option maxHeartbeats 4000000 in
set_option maxRecDepth 100000 in
theorem mM_303 : (Cond.code ({ cls := "KindRoundsModel", name := "readText", desc := "()V" } : Jvm.MethodName) prog_14_method_42_code (1 : Nat) (Option.none : Option Jvm.ClassFile.FieldType)) ∈ lw_good := good_in (List.mem_append_right _ (List.mem_append_right _ (List.mem_append_right _ (List.mem_append_right _ (List.mem_append_right _ (List.mem_append_right _ (List.mem_append_right _ (List.mem_append_left _ (List.mem_of_getElem? (i := 47) (l := tables_1_7) rfl))))))))) rfl
set_option maxHeartbeats 4000000 in
set_option maxRecDepth 100000 in
theorem mM_304 : (Cond.instanceMethod ({ cls := "KindRoundsModel", name := "readText", desc := "()V" } : Jvm.MethodName)) ∈ lw_good := good_in (List.mem_append_right _ (List.mem_append_right _ (List.mem_append_right _ (List.mem_append_right _ (List.mem_append_right _ (List.mem_append_right _ (List.mem_append_right _ (List.mem_append_left _ (List.mem_of_getElem? (i := 46) (l := tables_1_7) rfl))))))))) rfl
set_option maxHeartbeats 4000000 in
set_option maxRecDepth 100000 in
theorem mM_305 : Cond.selects "KindRoundsModel" ⟨"KindRoundsModel", "readText", "()V"⟩ ⟨"KindRoundsModel", "readText", "()V"⟩ ∈ lw_good := good_in (List.mem_append_left _ (List.mem_of_getElem? (i := 117) (l := k2_sels lw_privs) (by decide +kernel))) rfl
set_option maxHeartbeats 4000000 in
set_option maxRecDepth 100000 in
theorem mM_306 : (Cond.code ({ cls := "KindRoundsModel", name := "declOf", desc := "(J)I" } : Jvm.MethodName) prog_14_method_43_code (4 : Nat) (Option.some Jvm.ClassFile.FieldType.int)) ∈ lw_good := good_in (List.mem_append_right _ (List.mem_append_right _ (List.mem_append_right _ (List.mem_append_right _ (List.mem_append_right _ (List.mem_append_right _ (List.mem_append_right _ (List.mem_append_left _ (List.mem_of_getElem? (i := 213) (l := tables_1_7) rfl))))))))) rfl
set_option maxHeartbeats 4000000 in
set_option maxRecDepth 100000 in
theorem mM_307 : (Cond.instanceMethod ({ cls := "KindRoundsModel", name := "declOf", desc := "(J)I" } : Jvm.MethodName)) ∈ lw_good := good_in (List.mem_append_right _ (List.mem_append_right _ (List.mem_append_right _ (List.mem_append_right _ (List.mem_append_right _ (List.mem_append_right _ (List.mem_append_right _ (List.mem_append_left _ (List.mem_of_getElem? (i := 212) (l := tables_1_7) rfl))))))))) rfl
set_option maxHeartbeats 4000000 in
set_option maxRecDepth 100000 in
theorem mM_308 : Cond.selects "KindRoundsModel" ⟨"KindRoundsModel", "declOf", "(J)I"⟩ ⟨"KindRoundsModel", "declOf", "(J)I"⟩ ∈ lw_good := good_in (List.mem_append_left _ (List.mem_of_getElem? (i := 155) (l := k2_sels lw_privs) (by decide +kernel))) rfl
set_option maxHeartbeats 4000000 in
set_option maxRecDepth 100000 in
theorem mM_309 : (Cond.code ({ cls := "KindRoundsModel", name := "typeOf", desc := "(J)I" } : Jvm.MethodName) prog_14_method_44_code (4 : Nat) (Option.some Jvm.ClassFile.FieldType.int)) ∈ lw_good := good_in (List.mem_append_right _ (List.mem_append_right _ (List.mem_append_right _ (List.mem_append_right _ (List.mem_append_right _ (List.mem_append_right _ (List.mem_append_right _ (List.mem_append_left _ (List.mem_of_getElem? (i := 201) (l := tables_1_7) rfl))))))))) rfl
set_option maxHeartbeats 4000000 in
set_option maxRecDepth 100000 in
theorem mM_310 : (Cond.instanceMethod ({ cls := "KindRoundsModel", name := "typeOf", desc := "(J)I" } : Jvm.MethodName)) ∈ lw_good := good_in (List.mem_append_right _ (List.mem_append_right _ (List.mem_append_right _ (List.mem_append_right _ (List.mem_append_right _ (List.mem_append_right _ (List.mem_append_right _ (List.mem_append_left _ (List.mem_of_getElem? (i := 200) (l := tables_1_7) rfl))))))))) rfl
set_option maxHeartbeats 4000000 in
set_option maxRecDepth 100000 in
theorem mM_311 : Cond.selects "KindRoundsModel" ⟨"KindRoundsModel", "typeOf", "(J)I"⟩ ⟨"KindRoundsModel", "typeOf", "(J)I"⟩ ∈ lw_good := good_in (List.mem_append_left _ (List.mem_of_getElem? (i := 152) (l := k2_sels lw_privs) (by decide +kernel))) rfl
set_option maxHeartbeats 4000000 in
set_option maxRecDepth 100000 in
theorem mM_312 : (Cond.code ({ cls := "KindRoundsModel", name := "isParam", desc := "(IJ)Z" } : Jvm.MethodName) prog_14_method_45_code (5 : Nat) (Option.some Jvm.ClassFile.FieldType.boolean)) ∈ lw_good := good_in (List.mem_append_right _ (List.mem_append_right _ (List.mem_append_right _ (List.mem_append_right _ (List.mem_append_right _ (List.mem_append_right _ (List.mem_append_right _ (List.mem_append_left _ (List.mem_of_getElem? (i := 205) (l := tables_1_7) rfl))))))))) rfl
set_option maxHeartbeats 4000000 in
set_option maxRecDepth 100000 in
theorem mM_313 : (Cond.instanceMethod ({ cls := "KindRoundsModel", name := "isParam", desc := "(IJ)Z" } : Jvm.MethodName)) ∈ lw_good := good_in (List.mem_append_right _ (List.mem_append_right _ (List.mem_append_right _ (List.mem_append_right _ (List.mem_append_right _ (List.mem_append_right _ (List.mem_append_right _ (List.mem_append_left _ (List.mem_of_getElem? (i := 204) (l := tables_1_7) rfl))))))))) rfl
set_option maxHeartbeats 4000000 in
set_option maxRecDepth 100000 in
theorem mM_314 : Cond.selects "KindRoundsModel" ⟨"KindRoundsModel", "isParam", "(IJ)Z"⟩ ⟨"KindRoundsModel", "isParam", "(IJ)Z"⟩ ∈ lw_good := good_in (List.mem_append_left _ (List.mem_of_getElem? (i := 153) (l := k2_sels lw_privs) (by decide +kernel))) rfl
set_option maxHeartbeats 4000000 in
set_option maxRecDepth 100000 in
theorem mM_315 : (Cond.code ({ cls := "KindRoundsModel", name := "wasTold", desc := "(I)Z" } : Jvm.MethodName) prog_14_method_46_code (3 : Nat) (Option.some Jvm.ClassFile.FieldType.boolean)) ∈ lw_good := good_in (List.mem_append_right _ (List.mem_append_right _ (List.mem_append_right _ (List.mem_append_right _ (List.mem_append_right _ (List.mem_append_right _ (List.mem_append_right _ (List.mem_append_left _ (List.mem_of_getElem? (i := 209) (l := tables_1_7) rfl))))))))) rfl
set_option maxHeartbeats 4000000 in
set_option maxRecDepth 100000 in
theorem mM_316 : (Cond.instanceMethod ({ cls := "KindRoundsModel", name := "wasTold", desc := "(I)Z" } : Jvm.MethodName)) ∈ lw_good := good_in (List.mem_append_right _ (List.mem_append_right _ (List.mem_append_right _ (List.mem_append_right _ (List.mem_append_right _ (List.mem_append_right _ (List.mem_append_right _ (List.mem_append_left _ (List.mem_of_getElem? (i := 208) (l := tables_1_7) rfl))))))))) rfl
set_option maxHeartbeats 4000000 in
set_option maxRecDepth 100000 in
theorem mM_317 : Cond.selects "KindRoundsModel" ⟨"KindRoundsModel", "wasTold", "(I)Z"⟩ ⟨"KindRoundsModel", "wasTold", "(I)Z"⟩ ∈ lw_good := good_in (List.mem_append_left _ (List.mem_of_getElem? (i := 154) (l := k2_sels lw_privs) (by decide +kernel))) rfl
set_option maxHeartbeats 4000000 in
set_option maxRecDepth 100000 in
theorem mM_318 : (Cond.code ({ cls := "KindRoundsModel", name := "isWrongName", desc := "(IZ)Z" } : Jvm.MethodName) prog_14_method_47_code (6 : Nat) (Option.some Jvm.ClassFile.FieldType.boolean)) ∈ lw_good := good_in (List.mem_append_right _ (List.mem_append_right _ (List.mem_append_right _ (List.mem_append_right _ (List.mem_append_right _ (List.mem_append_right _ (List.mem_append_right _ (List.mem_append_left _ (List.mem_of_getElem? (i := 196) (l := tables_1_7) rfl))))))))) rfl
set_option maxHeartbeats 4000000 in
set_option maxRecDepth 100000 in
theorem mM_319 : (Cond.instanceMethod ({ cls := "KindRoundsModel", name := "isWrongName", desc := "(IZ)Z" } : Jvm.MethodName)) ∈ lw_good := good_in (List.mem_append_right _ (List.mem_append_right _ (List.mem_append_right _ (List.mem_append_right _ (List.mem_append_right _ (List.mem_append_right _ (List.mem_append_right _ (List.mem_append_left _ (List.mem_of_getElem? (i := 195) (l := tables_1_7) rfl))))))))) rfl
set_option maxHeartbeats 4000000 in
set_option maxRecDepth 100000 in
theorem mM_320 : Cond.selects "KindRoundsModel" ⟨"KindRoundsModel", "isWrongName", "(IZ)Z"⟩ ⟨"KindRoundsModel", "isWrongName", "(IZ)Z"⟩ ∈ lw_good := good_in (List.mem_append_left _ (List.mem_of_getElem? (i := 151) (l := k2_sels lw_privs) (by decide +kernel))) rfl
set_option maxHeartbeats 4000000 in
set_option maxRecDepth 100000 in
theorem mM_321 : (Cond.code ({ cls := "KindRoundsModel", name := "lookNames", desc := "(Z)V" } : Jvm.MethodName) prog_14_method_48_code (3 : Nat) (Option.none : Option Jvm.ClassFile.FieldType)) ∈ lw_good := good_in (List.mem_append_right _ (List.mem_append_right _ (List.mem_append_right _ (List.mem_append_right _ (List.mem_append_right _ (List.mem_append_right _ (List.mem_append_right _ (List.mem_append_left _ (List.mem_of_getElem? (i := 192) (l := tables_1_7) rfl))))))))) rfl
set_option maxHeartbeats 4000000 in
set_option maxRecDepth 100000 in
theorem mM_322 : (Cond.instanceMethod ({ cls := "KindRoundsModel", name := "lookNames", desc := "(Z)V" } : Jvm.MethodName)) ∈ lw_good := good_in (List.mem_append_right _ (List.mem_append_right _ (List.mem_append_right _ (List.mem_append_right _ (List.mem_append_right _ (List.mem_append_right _ (List.mem_append_right _ (List.mem_append_left _ (List.mem_of_getElem? (i := 191) (l := tables_1_7) rfl))))))))) rfl
set_option maxHeartbeats 4000000 in
set_option maxRecDepth 100000 in
theorem mM_323 : Cond.selects "KindRoundsModel" ⟨"KindRoundsModel", "lookNames", "(Z)V"⟩ ⟨"KindRoundsModel", "lookNames", "(Z)V"⟩ ∈ lw_good := good_in (List.mem_append_left _ (List.mem_of_getElem? (i := 150) (l := k2_sels lw_privs) (by decide +kernel))) rfl
set_option maxHeartbeats 4000000 in
set_option maxRecDepth 100000 in
theorem mM_324 : (Cond.code ({ cls := "KindRoundsModel", name := "close", desc := "([Z)V" } : Jvm.MethodName) prog_14_method_49_code (4 : Nat) (Option.none : Option Jvm.ClassFile.FieldType)) ∈ lw_good := good_in (List.mem_append_right _ (List.mem_append_right _ (List.mem_append_right _ (List.mem_append_right _ (List.mem_append_right _ (List.mem_append_right _ (List.mem_append_right _ (List.mem_append_left _ (List.mem_of_getElem? (i := 224) (l := tables_1_7) rfl))))))))) rfl
set_option maxHeartbeats 4000000 in
set_option maxRecDepth 100000 in
theorem mM_325 : (Cond.static ({ cls := "KindRoundsModel", name := "close", desc := "([Z)V" } : Jvm.MethodName)) ∈ lw_good := good_in (List.mem_append_right _ (List.mem_append_right _ (List.mem_append_right _ (List.mem_append_right _ (List.mem_append_right _ (List.mem_append_right _ (List.mem_append_right _ (List.mem_append_left _ (List.mem_of_getElem? (i := 223) (l := tables_1_7) rfl))))))))) rfl
set_option maxHeartbeats 4000000 in
set_option maxRecDepth 100000 in
theorem mM_326 : (Cond.code ({ cls := "KindRoundsModel", name := "findNeeds", desc := "()V" } : Jvm.MethodName) prog_14_method_50_code (4 : Nat) (Option.none : Option Jvm.ClassFile.FieldType)) ∈ lw_good := good_in (List.mem_append_right _ (List.mem_append_right _ (List.mem_append_right _ (List.mem_append_right _ (List.mem_append_right _ (List.mem_append_right _ (List.mem_append_right _ (List.mem_append_left _ (List.mem_of_getElem? (i := 221) (l := tables_1_7) rfl))))))))) rfl
set_option maxHeartbeats 4000000 in
set_option maxRecDepth 100000 in
theorem mM_327 : (Cond.instanceMethod ({ cls := "KindRoundsModel", name := "findNeeds", desc := "()V" } : Jvm.MethodName)) ∈ lw_good := good_in (List.mem_append_right _ (List.mem_append_right _ (List.mem_append_right _ (List.mem_append_right _ (List.mem_append_right _ (List.mem_append_right _ (List.mem_append_right _ (List.mem_append_left _ (List.mem_of_getElem? (i := 220) (l := tables_1_7) rfl))))))))) rfl
set_option maxHeartbeats 4000000 in
set_option maxRecDepth 100000 in
theorem mM_328 : Cond.selects "KindRoundsModel" ⟨"KindRoundsModel", "findNeeds", "()V"⟩ ⟨"KindRoundsModel", "findNeeds", "()V"⟩ ∈ lw_good := good_in (List.mem_append_left _ (List.mem_of_getElem? (i := 157) (l := k2_sels lw_privs) (by decide +kernel))) rfl
set_option maxHeartbeats 4000000 in
set_option maxRecDepth 100000 in
theorem mM_329 : (Cond.code ({ cls := "KindRoundsModel", name := "lookRings", desc := "()V" } : Jvm.MethodName) prog_14_method_51_code (2 : Nat) (Option.none : Option Jvm.ClassFile.FieldType)) ∈ lw_good := good_in (List.mem_append_right _ (List.mem_append_right _ (List.mem_append_right _ (List.mem_append_right _ (List.mem_append_right _ (List.mem_append_right _ (List.mem_append_right _ (List.mem_append_left _ (List.mem_of_getElem? (i := 217) (l := tables_1_7) rfl))))))))) rfl
set_option maxHeartbeats 4000000 in
set_option maxRecDepth 100000 in
theorem mM_330 : (Cond.instanceMethod ({ cls := "KindRoundsModel", name := "lookRings", desc := "()V" } : Jvm.MethodName)) ∈ lw_good := good_in (List.mem_append_right _ (List.mem_append_right _ (List.mem_append_right _ (List.mem_append_right _ (List.mem_append_right _ (List.mem_append_right _ (List.mem_append_right _ (List.mem_append_left _ (List.mem_of_getElem? (i := 216) (l := tables_1_7) rfl))))))))) rfl
set_option maxHeartbeats 4000000 in
set_option maxRecDepth 100000 in
theorem mM_331 : Cond.selects "KindRoundsModel" ⟨"KindRoundsModel", "lookRings", "()V"⟩ ⟨"KindRoundsModel", "lookRings", "()V"⟩ ∈ lw_good := good_in (List.mem_append_left _ (List.mem_of_getElem? (i := 156) (l := k2_sels lw_privs) (by decide +kernel))) rfl
set_option maxHeartbeats 4000000 in
set_option maxRecDepth 100000 in
theorem mM_332 : (Cond.code ({ cls := "KindRoundsModel", name := "lookTakes", desc := "()V" } : Jvm.MethodName) prog_14_method_52_code (3 : Nat) (Option.none : Option Jvm.ClassFile.FieldType)) ∈ lw_good := good_in (List.mem_append_right _ (List.mem_append_right _ (List.mem_append_right _ (List.mem_append_right _ (List.mem_append_right _ (List.mem_append_right _ (List.mem_append_right _ (List.mem_append_left _ (List.mem_of_getElem? (i := 228) (l := tables_1_7) rfl))))))))) rfl
set_option maxHeartbeats 4000000 in
set_option maxRecDepth 100000 in
theorem mM_333 : (Cond.instanceMethod ({ cls := "KindRoundsModel", name := "lookTakes", desc := "()V" } : Jvm.MethodName)) ∈ lw_good := good_in (List.mem_append_right _ (List.mem_append_right _ (List.mem_append_right _ (List.mem_append_right _ (List.mem_append_right _ (List.mem_append_right _ (List.mem_append_right _ (List.mem_append_left _ (List.mem_of_getElem? (i := 227) (l := tables_1_7) rfl))))))))) rfl
set_option maxHeartbeats 4000000 in
set_option maxRecDepth 100000 in
theorem mM_334 : Cond.selects "KindRoundsModel" ⟨"KindRoundsModel", "lookTakes", "()V"⟩ ⟨"KindRoundsModel", "lookTakes", "()V"⟩ ∈ lw_good := good_in (List.mem_append_left _ (List.mem_of_getElem? (i := 158) (l := k2_sels lw_privs) (by decide +kernel))) rfl
set_option maxHeartbeats 4000000 in
set_option maxRecDepth 100000 in
theorem mM_335 : (Cond.code ({ cls := "KindRoundsModel", name := "isTogether", desc := "(II)Z" } : Jvm.MethodName) prog_14_method_53_code (3 : Nat) (Option.some Jvm.ClassFile.FieldType.boolean)) ∈ lw_good := good_in (List.mem_append_right _ (List.mem_append_right _ (List.mem_append_right _ (List.mem_append_right _ (List.mem_append_right _ (List.mem_append_right _ (List.mem_append_right _ (List.mem_append_right _ (List.mem_of_getElem? (i := 0) (l := tables_1_8) rfl))))))))) rfl
set_option maxHeartbeats 4000000 in
set_option maxRecDepth 100000 in
theorem mM_336 : (Cond.instanceMethod ({ cls := "KindRoundsModel", name := "isTogether", desc := "(II)Z" } : Jvm.MethodName)) ∈ lw_good := good_in (List.mem_append_right _ (List.mem_append_right _ (List.mem_append_right _ (List.mem_append_right _ (List.mem_append_right _ (List.mem_append_right _ (List.mem_append_right _ (List.mem_append_left _ (List.mem_of_getElem? (i := 239) (l := tables_1_7) rfl))))))))) rfl
set_option maxHeartbeats 4000000 in
set_option maxRecDepth 100000 in
theorem mM_337 : Cond.selects "KindRoundsModel" ⟨"KindRoundsModel", "isTogether", "(II)Z"⟩ ⟨"KindRoundsModel", "isTogether", "(II)Z"⟩ ∈ lw_good := good_in (List.mem_append_left _ (List.mem_of_getElem? (i := 161) (l := k2_sels lw_privs) (by decide +kernel))) rfl
set_option maxHeartbeats 4000000 in
set_option maxRecDepth 100000 in
theorem mM_338 : (Cond.code ({ cls := "KindRoundsModel", name := "canCome", desc := "(I)Z" } : Jvm.MethodName) prog_14_method_54_code (4 : Nat) (Option.some Jvm.ClassFile.FieldType.boolean)) ∈ lw_good := good_in (List.mem_append_right _ (List.mem_append_right _ (List.mem_append_right _ (List.mem_append_right _ (List.mem_append_right _ (List.mem_append_right _ (List.mem_append_right _ (List.mem_append_left _ (List.mem_of_getElem? (i := 236) (l := tables_1_7) rfl))))))))) rfl
set_option maxHeartbeats 4000000 in
set_option maxRecDepth 100000 in
theorem mM_339 : (Cond.instanceMethod ({ cls := "KindRoundsModel", name := "canCome", desc := "(I)Z" } : Jvm.MethodName)) ∈ lw_good := good_in (List.mem_append_right _ (List.mem_append_right _ (List.mem_append_right _ (List.mem_append_right _ (List.mem_append_right _ (List.mem_append_right _ (List.mem_append_right _ (List.mem_append_left _ (List.mem_of_getElem? (i := 235) (l := tables_1_7) rfl))))))))) rfl
set_option maxHeartbeats 4000000 in
set_option maxRecDepth 100000 in
theorem mM_340 : Cond.selects "KindRoundsModel" ⟨"KindRoundsModel", "canCome", "(I)Z"⟩ ⟨"KindRoundsModel", "canCome", "(I)Z"⟩ ∈ lw_good := good_in (List.mem_append_left _ (List.mem_of_getElem? (i := 160) (l := k2_sels lw_privs) (by decide +kernel))) rfl
set_option maxHeartbeats 4000000 in
set_option maxRecDepth 100000 in
theorem mM_341 : (Cond.code ({ cls := "KindRoundsModel", name := "solveAll", desc := "()V" } : Jvm.MethodName) prog_14_method_55_code (4 : Nat) (Option.none : Option Jvm.ClassFile.FieldType)) ∈ lw_good := good_in (List.mem_append_right _ (List.mem_append_right _ (List.mem_append_right _ (List.mem_append_right _ (List.mem_append_right _ (List.mem_append_right _ (List.mem_append_right _ (List.mem_append_left _ (List.mem_of_getElem? (i := 232) (l := tables_1_7) rfl))))))))) rfl
set_option maxHeartbeats 4000000 in
set_option maxRecDepth 100000 in
theorem mM_342 : (Cond.instanceMethod ({ cls := "KindRoundsModel", name := "solveAll", desc := "()V" } : Jvm.MethodName)) ∈ lw_good := good_in (List.mem_append_right _ (List.mem_append_right _ (List.mem_append_right _ (List.mem_append_right _ (List.mem_append_right _ (List.mem_append_right _ (List.mem_append_right _ (List.mem_append_left _ (List.mem_of_getElem? (i := 231) (l := tables_1_7) rfl))))))))) rfl
set_option maxHeartbeats 4000000 in
set_option maxRecDepth 100000 in
theorem mM_343 : Cond.selects "KindRoundsModel" ⟨"KindRoundsModel", "solveAll", "()V"⟩ ⟨"KindRoundsModel", "solveAll", "()V"⟩ ∈ lw_good := good_in (List.mem_append_left _ (List.mem_of_getElem? (i := 159) (l := k2_sels lw_privs) (by decide +kernel))) rfl
set_option maxHeartbeats 4000000 in
set_option maxRecDepth 100000 in
theorem mM_344 : (Cond.code ({ cls := "KindRoundsModel", name := "prepare", desc := "(I)V" } : Jvm.MethodName) prog_14_method_56_code (4 : Nat) (Option.none : Option Jvm.ClassFile.FieldType)) ∈ lw_good := good_in (List.mem_append_right _ (List.mem_append_right _ (List.mem_append_right _ (List.mem_append_right _ (List.mem_append_right _ (List.mem_append_right _ (List.mem_append_right _ (List.mem_append_right _ (List.mem_of_getElem? (i := 8) (l := tables_1_8) rfl))))))))) rfl
set_option maxHeartbeats 4000000 in
set_option maxRecDepth 100000 in
theorem mM_345 : (Cond.instanceMethod ({ cls := "KindRoundsModel", name := "prepare", desc := "(I)V" } : Jvm.MethodName)) ∈ lw_good := good_in (List.mem_append_right _ (List.mem_append_right _ (List.mem_append_right _ (List.mem_append_right _ (List.mem_append_right _ (List.mem_append_right _ (List.mem_append_right _ (List.mem_append_right _ (List.mem_of_getElem? (i := 7) (l := tables_1_8) rfl))))))))) rfl
set_option maxHeartbeats 4000000 in
set_option maxRecDepth 100000 in
theorem mM_346 : Cond.selects "KindRoundsModel" ⟨"KindRoundsModel", "prepare", "(I)V"⟩ ⟨"KindRoundsModel", "prepare", "(I)V"⟩ ∈ lw_good := good_in (List.mem_append_left _ (List.mem_of_getElem? (i := 163) (l := k2_sels lw_privs) (by decide +kernel))) rfl
set_option maxHeartbeats 4000000 in
set_option maxRecDepth 100000 in
theorem mM_347 : (Cond.code ({ cls := "KindRoundsModel", name := "kindOfSmall", desc := "(II)I" } : Jvm.MethodName) prog_14_method_57_code (5 : Nat) (Option.some Jvm.ClassFile.FieldType.int)) ∈ lw_good := good_in (List.mem_append_right _ (List.mem_append_right _ (List.mem_append_right _ (List.mem_append_right _ (List.mem_append_right _ (List.mem_append_right _ (List.mem_append_right _ (List.mem_append_right _ (List.mem_of_getElem? (i := 20) (l := tables_1_8) rfl))))))))) rfl
set_option maxHeartbeats 4000000 in
set_option maxRecDepth 100000 in
theorem mM_348 : (Cond.instanceMethod ({ cls := "KindRoundsModel", name := "kindOfSmall", desc := "(II)I" } : Jvm.MethodName)) ∈ lw_good := good_in (List.mem_append_right _ (List.mem_append_right _ (List.mem_append_right _ (List.mem_append_right _ (List.mem_append_right _ (List.mem_append_right _ (List.mem_append_right _ (List.mem_append_right _ (List.mem_of_getElem? (i := 19) (l := tables_1_8) rfl))))))))) rfl
set_option maxHeartbeats 4000000 in
set_option maxRecDepth 100000 in
theorem mM_349 : Cond.selects "KindRoundsModel" ⟨"KindRoundsModel", "kindOfSmall", "(II)I"⟩ ⟨"KindRoundsModel", "kindOfSmall", "(II)I"⟩ ∈ lw_good := good_in (List.mem_append_left _ (List.mem_of_getElem? (i := 166) (l := k2_sels lw_privs) (by decide +kernel))) rfl
set_option maxHeartbeats 4000000 in
set_option maxRecDepth 100000 in
theorem mM_350 : (Cond.code ({ cls := "KindRoundsModel", name := "layKind", desc := "(II)V" } : Jvm.MethodName) prog_14_method_58_code (3 : Nat) (Option.none : Option Jvm.ClassFile.FieldType)) ∈ lw_good := good_in (List.mem_append_right _ (List.mem_append_right _ (List.mem_append_right _ (List.mem_append_right _ (List.mem_append_right _ (List.mem_append_right _ (List.mem_append_right _ (List.mem_append_right _ (List.mem_of_getElem? (i := 16) (l := tables_1_8) rfl))))))))) rfl
set_option maxHeartbeats 4000000 in
set_option maxRecDepth 100000 in
theorem mM_351 : (Cond.instanceMethod ({ cls := "KindRoundsModel", name := "layKind", desc := "(II)V" } : Jvm.MethodName)) ∈ lw_good := good_in (List.mem_append_right _ (List.mem_append_right _ (List.mem_append_right _ (List.mem_append_right _ (List.mem_append_right _ (List.mem_append_right _ (List.mem_append_right _ (List.mem_append_right _ (List.mem_of_getElem? (i := 15) (l := tables_1_8) rfl))))))))) rfl
set_option maxHeartbeats 4000000 in
set_option maxRecDepth 100000 in
theorem mM_352 : Cond.selects "KindRoundsModel" ⟨"KindRoundsModel", "layKind", "(II)V"⟩ ⟨"KindRoundsModel", "layKind", "(II)V"⟩ ∈ lw_good := good_in (List.mem_append_left _ (List.mem_of_getElem? (i := 165) (l := k2_sels lw_privs) (by decide +kernel))) rfl
set_option maxHeartbeats 4000000 in
set_option maxRecDepth 100000 in
theorem mM_353 : (Cond.code ({ cls := "KindRoundsModel", name := "solve", desc := "(I)V" } : Jvm.MethodName) prog_14_method_59_code (4 : Nat) (Option.none : Option Jvm.ClassFile.FieldType)) ∈ lw_good := good_in (List.mem_append_right _ (List.mem_append_right _ (List.mem_append_right _ (List.mem_append_right _ (List.mem_append_right _ (List.mem_append_right _ (List.mem_append_right _ (List.mem_append_right _ (List.mem_of_getElem? (i := 4) (l := tables_1_8) rfl))))))))) rfl
set_option maxHeartbeats 4000000 in
set_option maxRecDepth 100000 in
theorem mM_354 : (Cond.instanceMethod ({ cls := "KindRoundsModel", name := "solve", desc := "(I)V" } : Jvm.MethodName)) ∈ lw_good := good_in (List.mem_append_right _ (List.mem_append_right _ (List.mem_append_right _ (List.mem_append_right _ (List.mem_append_right _ (List.mem_append_right _ (List.mem_append_right _ (List.mem_append_right _ (List.mem_of_getElem? (i := 3) (l := tables_1_8) rfl))))))))) rfl
set_option maxHeartbeats 4000000 in
set_option maxRecDepth 100000 in
theorem mM_355 : Cond.selects "KindRoundsModel" ⟨"KindRoundsModel", "solve", "(I)V"⟩ ⟨"KindRoundsModel", "solve", "(I)V"⟩ ∈ lw_good := good_in (List.mem_append_left _ (List.mem_of_getElem? (i := 162) (l := k2_sels lw_privs) (by decide +kernel))) rfl
set_option maxHeartbeats 4000000 in
set_option maxRecDepth 100000 in
theorem mM_356 : (Cond.code ({ cls := "KindRoundsModel", name := "layKindOnce", desc := "(I)V" } : Jvm.MethodName) prog_14_method_60_code (2 : Nat) (Option.none : Option Jvm.ClassFile.FieldType)) ∈ lw_good := good_in (List.mem_append_right _ (List.mem_append_right _ (List.mem_append_right _ (List.mem_append_right _ (List.mem_append_right _ (List.mem_append_right _ (List.mem_append_right _ (List.mem_append_right _ (List.mem_of_getElem? (i := 12) (l := tables_1_8) rfl))))))))) rfl
set_option maxHeartbeats 4000000 in
set_option maxRecDepth 100000 in
theorem mM_357 : (Cond.instanceMethod ({ cls := "KindRoundsModel", name := "layKindOnce", desc := "(I)V" } : Jvm.MethodName)) ∈ lw_good := good_in (List.mem_append_right _ (List.mem_append_right _ (List.mem_append_right _ (List.mem_append_right _ (List.mem_append_right _ (List.mem_append_right _ (List.mem_append_right _ (List.mem_append_right _ (List.mem_of_getElem? (i := 11) (l := tables_1_8) rfl))))))))) rfl
set_option maxHeartbeats 4000000 in
set_option maxRecDepth 100000 in
theorem mM_358 : Cond.selects "KindRoundsModel" ⟨"KindRoundsModel", "layKindOnce", "(I)V"⟩ ⟨"KindRoundsModel", "layKindOnce", "(I)V"⟩ ∈ lw_good := good_in (List.mem_append_left _ (List.mem_of_getElem? (i := 164) (l := k2_sels lw_privs) (by decide +kernel))) rfl
set_option maxHeartbeats 4000000 in
set_option maxRecDepth 100000 in
theorem mM_359 : (Cond.code ({ cls := "KindRoundsModel", name := "doAct", desc := "(II)V" } : Jvm.MethodName) prog_14_method_61_code (6 : Nat) (Option.none : Option Jvm.ClassFile.FieldType)) ∈ lw_good := good_in (List.mem_append_right _ (List.mem_append_right _ (List.mem_append_right _ (List.mem_append_right _ (List.mem_append_right _ (List.mem_append_right _ (List.mem_append_right _ (List.mem_append_right _ (List.mem_of_getElem? (i := 51) (l := tables_1_8) rfl))))))))) rfl
set_option maxHeartbeats 4000000 in
set_option maxRecDepth 100000 in
theorem mM_360 : (Cond.instanceMethod ({ cls := "KindRoundsModel", name := "doAct", desc := "(II)V" } : Jvm.MethodName)) ∈ lw_good := good_in (List.mem_append_right _ (List.mem_append_right _ (List.mem_append_right _ (List.mem_append_right _ (List.mem_append_right _ (List.mem_append_right _ (List.mem_append_right _ (List.mem_append_right _ (List.mem_of_getElem? (i := 50) (l := tables_1_8) rfl))))))))) rfl
set_option maxHeartbeats 4000000 in
set_option maxRecDepth 100000 in
theorem mM_361 : Cond.selects "KindRoundsModel" ⟨"KindRoundsModel", "doAct", "(II)V"⟩ ⟨"KindRoundsModel", "doAct", "(II)V"⟩ ∈ lw_good := good_in (List.mem_append_left _ (List.mem_of_getElem? (i := 173) (l := k2_sels lw_privs) (by decide +kernel))) rfl
set_option maxHeartbeats 4000000 in
set_option maxRecDepth 100000 in
theorem mM_362 : (Cond.code ({ cls := "KindRoundsModel", name := "closeGroup", desc := "(I)V" } : Jvm.MethodName) prog_14_method_62_code (4 : Nat) (Option.none : Option Jvm.ClassFile.FieldType)) ∈ lw_good := good_in (List.mem_append_right _ (List.mem_append_right _ (List.mem_append_right _ (List.mem_append_right _ (List.mem_append_right _ (List.mem_append_right _ (List.mem_append_right _ (List.mem_append_right _ (List.mem_of_getElem? (i := 55) (l := tables_1_8) rfl))))))))) rfl
set_option maxHeartbeats 4000000 in
set_option maxRecDepth 100000 in
theorem mM_363 : (Cond.instanceMethod ({ cls := "KindRoundsModel", name := "closeGroup", desc := "(I)V" } : Jvm.MethodName)) ∈ lw_good := good_in (List.mem_append_right _ (List.mem_append_right _ (List.mem_append_right _ (List.mem_append_right _ (List.mem_append_right _ (List.mem_append_right _ (List.mem_append_right _ (List.mem_append_right _ (List.mem_of_getElem? (i := 54) (l := tables_1_8) rfl))))))))) rfl
set_option maxHeartbeats 4000000 in
set_option maxRecDepth 100000 in
theorem mM_364 : Cond.selects "KindRoundsModel" ⟨"KindRoundsModel", "closeGroup", "(I)V"⟩ ⟨"KindRoundsModel", "closeGroup", "(I)V"⟩ ∈ lw_good := good_in (List.mem_append_left _ (List.mem_of_getElem? (i := 174) (l := k2_sels lw_privs) (by decide +kernel))) rfl
set_option maxHeartbeats 4000000 in
set_option maxRecDepth 100000 in
theorem mM_365 : (Cond.code ({ cls := "KindRoundsModel", name := "copy", desc := "([I[II)V" } : Jvm.MethodName) prog_14_method_63_code (4 : Nat) (Option.none : Option Jvm.ClassFile.FieldType)) ∈ lw_good := good_in (List.mem_append_right _ (List.mem_append_right _ (List.mem_append_right _ (List.mem_append_right _ (List.mem_append_right _ (List.mem_append_right _ (List.mem_append_right _ (List.mem_append_right _ (List.mem_of_getElem? (i := 27) (l := tables_1_8) rfl))))))))) rfl
set_option maxHeartbeats 4000000 in
set_option maxRecDepth 100000 in
theorem mM_366 : (Cond.static ({ cls := "KindRoundsModel", name := "copy", desc := "([I[II)V" } : Jvm.MethodName)) ∈ lw_good := good_in (List.mem_append_right _ (List.mem_append_right _ (List.mem_append_right _ (List.mem_append_right _ (List.mem_append_right _ (List.mem_append_right _ (List.mem_append_right _ (List.mem_append_right _ (List.mem_of_getElem? (i := 26) (l := tables_1_8) rfl))))))))) rfl
set_option maxHeartbeats 4000000 in
set_option maxRecDepth 100000 in
theorem mM_367 : (Cond.code ({ cls := "KindRoundsModel", name := "equate", desc := "(III)V" } : Jvm.MethodName) prog_14_method_64_code (4 : Nat) (Option.none : Option Jvm.ClassFile.FieldType)) ∈ lw_good := good_in (List.mem_append_right _ (List.mem_append_right _ (List.mem_append_right _ (List.mem_append_right _ (List.mem_append_right _ (List.mem_append_right _ (List.mem_append_right _ (List.mem_append_right _ (List.mem_of_getElem? (i := 24) (l := tables_1_8) rfl))))))))) rfl
set_option maxHeartbeats 4000000 in
set_option maxRecDepth 100000 in
theorem mM_368 : (Cond.instanceMethod ({ cls := "KindRoundsModel", name := "equate", desc := "(III)V" } : Jvm.MethodName)) ∈ lw_good := good_in (List.mem_append_right _ (List.mem_append_right _ (List.mem_append_right _ (List.mem_append_right _ (List.mem_append_right _ (List.mem_append_right _ (List.mem_append_right _ (List.mem_append_right _ (List.mem_of_getElem? (i := 23) (l := tables_1_8) rfl))))))))) rfl
set_option maxHeartbeats 4000000 in
set_option maxRecDepth 100000 in
theorem mM_369 : Cond.selects "KindRoundsModel" ⟨"KindRoundsModel", "equate", "(III)V"⟩ ⟨"KindRoundsModel", "equate", "(III)V"⟩ ∈ lw_good := good_in (List.mem_append_left _ (List.mem_of_getElem? (i := 167) (l := k2_sels lw_privs) (by decide +kernel))) rfl
set_option maxHeartbeats 4000000 in
set_option maxRecDepth 100000 in
theorem mM_370 : (Cond.code ({ cls := "KindRoundsModel", name := "join", desc := "(II)Z" } : Jvm.MethodName) prog_14_method_65_code (6 : Nat) (Option.some Jvm.ClassFile.FieldType.boolean)) ∈ lw_good := good_in (List.mem_append_right _ (List.mem_append_right _ (List.mem_append_right _ (List.mem_append_right _ (List.mem_append_right _ (List.mem_append_right _ (List.mem_append_right _ (List.mem_append_right _ (List.mem_of_getElem? (i := 31) (l := tables_1_8) rfl))))))))) rfl
set_option maxHeartbeats 4000000 in
set_option maxRecDepth 100000 in
theorem mM_371 : (Cond.instanceMethod ({ cls := "KindRoundsModel", name := "join", desc := "(II)Z" } : Jvm.MethodName)) ∈ lw_good := good_in (List.mem_append_right _ (List.mem_append_right _ (List.mem_append_right _ (List.mem_append_right _ (List.mem_append_right _ (List.mem_append_right _ (List.mem_append_right _ (List.mem_append_right _ (List.mem_of_getElem? (i := 30) (l := tables_1_8) rfl))))))))) rfl
set_option maxHeartbeats 4000000 in
set_option maxRecDepth 100000 in
theorem mM_372 : Cond.selects "KindRoundsModel" ⟨"KindRoundsModel", "join", "(II)Z"⟩ ⟨"KindRoundsModel", "join", "(II)Z"⟩ ∈ lw_good := good_in (List.mem_append_left _ (List.mem_of_getElem? (i := 168) (l := k2_sels lw_privs) (by decide +kernel))) rfl
set_option maxHeartbeats 4000000 in
set_option maxRecDepth 100000 in
theorem mM_373 : (Cond.code ({ cls := "KindRoundsModel", name := "unmark", desc := "()V" } : Jvm.MethodName) prog_14_method_66_code (2 : Nat) (Option.none : Option Jvm.ClassFile.FieldType)) ∈ lw_good := good_in (List.mem_append_right _ (List.mem_append_right _ (List.mem_append_right _ (List.mem_append_right _ (List.mem_append_right _ (List.mem_append_right _ (List.mem_append_right _ (List.mem_append_right _ (List.mem_of_getElem? (i := 43) (l := tables_1_8) rfl))))))))) rfl
set_option maxHeartbeats 4000000 in
set_option maxRecDepth 100000 in
theorem mM_374 : (Cond.instanceMethod ({ cls := "KindRoundsModel", name := "unmark", desc := "()V" } : Jvm.MethodName)) ∈ lw_good := good_in (List.mem_append_right _ (List.mem_append_right _ (List.mem_append_right _ (List.mem_append_right _ (List.mem_append_right _ (List.mem_append_right _ (List.mem_append_right _ (List.mem_append_right _ (List.mem_of_getElem? (i := 42) (l := tables_1_8) rfl))))))))) rfl
set_option maxHeartbeats 4000000 in
set_option maxRecDepth 100000 in
theorem mM_375 : Cond.selects "KindRoundsModel" ⟨"KindRoundsModel", "unmark", "()V"⟩ ⟨"KindRoundsModel", "unmark", "()V"⟩ ∈ lw_good := good_in (List.mem_append_left _ (List.mem_of_getElem? (i := 171) (l := k2_sels lw_privs) (by decide +kernel))) rfl
set_option maxHeartbeats 4000000 in
set_option maxRecDepth 100000 in
theorem mM_376 : (Cond.code ({ cls := "KindRoundsModel", name := "goesRound", desc := "(I)Z" } : Jvm.MethodName) prog_14_method_67_code (4 : Nat) (Option.some Jvm.ClassFile.FieldType.boolean)) ∈ lw_good := good_in (List.mem_append_right _ (List.mem_append_right _ (List.mem_append_right _ (List.mem_append_right _ (List.mem_append_right _ (List.mem_append_right _ (List.mem_append_right _ (List.mem_append_right _ (List.mem_of_getElem? (i := 39) (l := tables_1_8) rfl))))))))) rfl
set_option maxHeartbeats 4000000 in
set_option maxRecDepth 100000 in
theorem mM_377 : (Cond.instanceMethod ({ cls := "KindRoundsModel", name := "goesRound", desc := "(I)Z" } : Jvm.MethodName)) ∈ lw_good := good_in (List.mem_append_right _ (List.mem_append_right _ (List.mem_append_right _ (List.mem_append_right _ (List.mem_append_right _ (List.mem_append_right _ (List.mem_append_right _ (List.mem_append_right _ (List.mem_of_getElem? (i := 38) (l := tables_1_8) rfl))))))))) rfl
set_option maxHeartbeats 4000000 in
set_option maxRecDepth 100000 in
theorem mM_378 : Cond.selects "KindRoundsModel" ⟨"KindRoundsModel", "goesRound", "(I)Z"⟩ ⟨"KindRoundsModel", "goesRound", "(I)Z"⟩ ∈ lw_good := good_in (List.mem_append_left _ (List.mem_of_getElem? (i := 170) (l := k2_sels lw_privs) (by decide +kernel))) rfl
set_option maxHeartbeats 4000000 in
set_option maxRecDepth 100000 in
theorem mM_379 : (Cond.code ({ cls := "KindRoundsModel", name := "isOnWay", desc := "(I)Z" } : Jvm.MethodName) prog_14_method_68_code (2 : Nat) (Option.some Jvm.ClassFile.FieldType.boolean)) ∈ lw_good := good_in (List.mem_append_right _ (List.mem_append_right _ (List.mem_append_right _ (List.mem_append_right _ (List.mem_append_right _ (List.mem_append_right _ (List.mem_append_right _ (List.mem_append_right _ (List.mem_of_getElem? (i := 47) (l := tables_1_8) rfl))))))))) rfl
set_option maxHeartbeats 4000000 in
set_option maxRecDepth 100000 in
theorem mM_380 : (Cond.instanceMethod ({ cls := "KindRoundsModel", name := "isOnWay", desc := "(I)Z" } : Jvm.MethodName)) ∈ lw_good := good_in (List.mem_append_right _ (List.mem_append_right _ (List.mem_append_right _ (List.mem_append_right _ (List.mem_append_right _ (List.mem_append_right _ (List.mem_append_right _ (List.mem_append_right _ (List.mem_of_getElem? (i := 46) (l := tables_1_8) rfl))))))))) rfl
set_option maxHeartbeats 4000000 in
set_option maxRecDepth 100000 in
theorem mM_381 : Cond.selects "KindRoundsModel" ⟨"KindRoundsModel", "isOnWay", "(I)Z"⟩ ⟨"KindRoundsModel", "isOnWay", "(I)Z"⟩ ∈ lw_good := good_in (List.mem_append_left _ (List.mem_of_getElem? (i := 172) (l := k2_sels lw_privs) (by decide +kernel))) rfl
set_option maxHeartbeats 4000000 in
set_option maxRecDepth 100000 in
theorem mM_382 : (Cond.code ({ cls := "KindRoundsModel", name := "hasOpen", desc := "(I)Z" } : Jvm.MethodName) prog_14_method_69_code (4 : Nat) (Option.some Jvm.ClassFile.FieldType.boolean)) ∈ lw_good := good_in (List.mem_append_right _ (List.mem_append_right _ (List.mem_append_right _ (List.mem_append_right _ (List.mem_append_right _ (List.mem_append_right _ (List.mem_append_right _ (List.mem_append_right _ (List.mem_of_getElem? (i := 59) (l := tables_1_8) rfl))))))))) rfl
set_option maxHeartbeats 4000000 in
set_option maxRecDepth 100000 in
theorem mM_383 : (Cond.instanceMethod ({ cls := "KindRoundsModel", name := "hasOpen", desc := "(I)Z" } : Jvm.MethodName)) ∈ lw_good := good_in (List.mem_append_right _ (List.mem_append_right _ (List.mem_append_right _ (List.mem_append_right _ (List.mem_append_right _ (List.mem_append_right _ (List.mem_append_right _ (List.mem_append_right _ (List.mem_of_getElem? (i := 58) (l := tables_1_8) rfl))))))))) rfl
set_option maxHeartbeats 4000000 in
set_option maxRecDepth 100000 in
theorem mM_384 : Cond.selects "KindRoundsModel" ⟨"KindRoundsModel", "hasOpen", "(I)Z"⟩ ⟨"KindRoundsModel", "hasOpen", "(I)Z"⟩ ∈ lw_good := good_in (List.mem_append_left _ (List.mem_of_getElem? (i := 175) (l := k2_sels lw_privs) (by decide +kernel))) rfl
set_option maxHeartbeats 4000000 in
set_option maxRecDepth 100000 in
theorem mM_385 : (Cond.code ({ cls := "KindRoundsModel", name := "put", desc := "(I)V" } : Jvm.MethodName) prog_14_method_70_code (2 : Nat) (Option.none : Option Jvm.ClassFile.FieldType)) ∈ lw_good := good_in (List.mem_append_right _ (List.mem_append_right _ (List.mem_append_right _ (List.mem_append_right _ (List.mem_append_right _ (List.mem_append_right _ (List.mem_append_right _ (List.mem_append_right _ (List.mem_of_getElem? (i := 83) (l := tables_1_8) rfl))))))))) rfl
set_option maxHeartbeats 4000000 in
set_option maxRecDepth 100000 in
theorem mM_386 : (Cond.instanceMethod ({ cls := "KindRoundsModel", name := "put", desc := "(I)V" } : Jvm.MethodName)) ∈ lw_good := good_in (List.mem_append_right _ (List.mem_append_right _ (List.mem_append_right _ (List.mem_append_right _ (List.mem_append_right _ (List.mem_append_right _ (List.mem_append_right _ (List.mem_append_right _ (List.mem_of_getElem? (i := 82) (l := tables_1_8) rfl))))))))) rfl
set_option maxHeartbeats 4000000 in
set_option maxRecDepth 100000 in
theorem mM_387 : Cond.selects "KindRoundsModel" ⟨"KindRoundsModel", "put", "(I)V"⟩ ⟨"KindRoundsModel", "put", "(I)V"⟩ ∈ lw_good := good_in (List.mem_append_left _ (List.mem_of_getElem? (i := 179) (l := k2_sels lw_privs) (by decide +kernel))) rfl
set_option maxHeartbeats 4000000 in
set_option maxRecDepth 100000 in
theorem mM_388 : (Cond.code ({ cls := "KindRoundsModel", name := "commit", desc := "()I" } : Jvm.MethodName) prog_14_method_71_code (2 : Nat) (Option.some Jvm.ClassFile.FieldType.int)) ∈ lw_good := good_in (List.mem_append_right _ (List.mem_append_right _ (List.mem_append_right _ (List.mem_append_right _ (List.mem_append_right _ (List.mem_append_right _ (List.mem_append_right _ (List.mem_append_right _ (List.mem_of_getElem? (i := 91) (l := tables_1_8) rfl))))))))) rfl
set_option maxHeartbeats 4000000 in
set_option maxRecDepth 100000 in
theorem mM_389 : (Cond.instanceMethod ({ cls := "KindRoundsModel", name := "commit", desc := "()I" } : Jvm.MethodName)) ∈ lw_good := good_in (List.mem_append_right _ (List.mem_append_right _ (List.mem_append_right _ (List.mem_append_right _ (List.mem_append_right _ (List.mem_append_right _ (List.mem_append_right _ (List.mem_append_right _ (List.mem_of_getElem? (i := 90) (l := tables_1_8) rfl))))))))) rfl
set_option maxHeartbeats 4000000 in
set_option maxRecDepth 100000 in
theorem mM_390 : Cond.selects "KindRoundsModel" ⟨"KindRoundsModel", "commit", "()I"⟩ ⟨"KindRoundsModel", "commit", "()I"⟩ ∈ lw_good := good_in (List.mem_append_left _ (List.mem_of_getElem? (i := 181) (l := k2_sels lw_privs) (by decide +kernel))) rfl
set_option maxHeartbeats 4000000 in
set_option maxRecDepth 100000 in
theorem mM_391 : (Cond.code ({ cls := "KindRoundsModel", name := "giveLetters", desc := "(I)V" } : Jvm.MethodName) prog_14_method_72_code (4 : Nat) (Option.none : Option Jvm.ClassFile.FieldType)) ∈ lw_good := good_in (List.mem_append_right _ (List.mem_append_right _ (List.mem_append_right _ (List.mem_append_right _ (List.mem_append_right _ (List.mem_append_right _ (List.mem_append_right _ (List.mem_append_right _ (List.mem_of_getElem? (i := 71) (l := tables_1_8) rfl))))))))) rfl
set_option maxHeartbeats 4000000 in
set_option maxRecDepth 100000 in
theorem mM_392 : (Cond.instanceMethod ({ cls := "KindRoundsModel", name := "giveLetters", desc := "(I)V" } : Jvm.MethodName)) ∈ lw_good := good_in (List.mem_append_right _ (List.mem_append_right _ (List.mem_append_right _ (List.mem_append_right _ (List.mem_append_right _ (List.mem_append_right _ (List.mem_append_right _ (List.mem_append_right _ (List.mem_of_getElem? (i := 70) (l := tables_1_8) rfl))))))))) rfl
set_option maxHeartbeats 4000000 in
set_option maxRecDepth 100000 in
theorem mM_393 : Cond.selects "KindRoundsModel" ⟨"KindRoundsModel", "giveLetters", "(I)V"⟩ ⟨"KindRoundsModel", "giveLetters", "(I)V"⟩ ∈ lw_good := good_in (List.mem_append_left _ (List.mem_of_getElem? (i := 176) (l := k2_sels lw_privs) (by decide +kernel))) rfl
set_option maxHeartbeats 4000000 in
set_option maxRecDepth 100000 in
theorem mM_394 : (Cond.code ({ cls := "KindRoundsModel", name := "layKindOut", desc := "(I)V" } : Jvm.MethodName) prog_14_method_73_code (4 : Nat) (Option.none : Option Jvm.ClassFile.FieldType)) ∈ lw_good := good_in (List.mem_append_right _ (List.mem_append_right _ (List.mem_append_right _ (List.mem_append_right _ (List.mem_append_right _ (List.mem_append_right _ (List.mem_append_right _ (List.mem_append_right _ (List.mem_of_getElem? (i := 79) (l := tables_1_8) rfl))))))))) rfl
set_option maxHeartbeats 4000000 in
set_option maxRecDepth 100000 in
theorem mM_395 : (Cond.instanceMethod ({ cls := "KindRoundsModel", name := "layKindOut", desc := "(I)V" } : Jvm.MethodName)) ∈ lw_good := good_in (List.mem_append_right _ (List.mem_append_right _ (List.mem_append_right _ (List.mem_append_right _ (List.mem_append_right _ (List.mem_append_right _ (List.mem_append_right _ (List.mem_append_right _ (List.mem_of_getElem? (i := 78) (l := tables_1_8) rfl))))))))) rfl
set_option maxHeartbeats 4000000 in
set_option maxRecDepth 100000 in
theorem mM_396 : Cond.selects "KindRoundsModel" ⟨"KindRoundsModel", "layKindOut", "(I)V"⟩ ⟨"KindRoundsModel", "layKindOut", "(I)V"⟩ ∈ lw_good := good_in (List.mem_append_left _ (List.mem_of_getElem? (i := 178) (l := k2_sels lw_privs) (by decide +kernel))) rfl
set_option maxHeartbeats 4000000 in
set_option maxRecDepth 100000 in
theorem mM_397 : (Cond.code ({ cls := "KindRoundsModel", name := "layKindOf", desc := "(II)I" } : Jvm.MethodName) prog_14_method_74_code (5 : Nat) (Option.some Jvm.ClassFile.FieldType.int)) ∈ lw_good := good_in (List.mem_append_right _ (List.mem_append_right _ (List.mem_append_right _ (List.mem_append_right _ (List.mem_append_right _ (List.mem_append_right _ (List.mem_append_right _ (List.mem_append_right _ (List.mem_of_getElem? (i := 87) (l := tables_1_8) rfl))))))))) rfl
set_option maxHeartbeats 4000000 in
set_option maxRecDepth 100000 in
theorem mM_398 : (Cond.instanceMethod ({ cls := "KindRoundsModel", name := "layKindOf", desc := "(II)I" } : Jvm.MethodName)) ∈ lw_good := good_in (List.mem_append_right _ (List.mem_append_right _ (List.mem_append_right _ (List.mem_append_right _ (List.mem_append_right _ (List.mem_append_right _ (List.mem_append_right _ (List.mem_append_right _ (List.mem_of_getElem? (i := 86) (l := tables_1_8) rfl))))))))) rfl
set_option maxHeartbeats 4000000 in
set_option maxRecDepth 100000 in
theorem mM_399 : Cond.selects "KindRoundsModel" ⟨"KindRoundsModel", "layKindOf", "(II)I"⟩ ⟨"KindRoundsModel", "layKindOf", "(II)I"⟩ ∈ lw_good := good_in (List.mem_append_left _ (List.mem_of_getElem? (i := 180) (l := k2_sels lw_privs) (by decide +kernel))) rfl
set_option maxHeartbeats 4000000 in
set_option maxRecDepth 100000 in
theorem mM_400 : (Cond.code ({ cls := "KindRoundsModel", name := "showKind", desc := "(I)I" } : Jvm.MethodName) prog_14_method_75_code (2 : Nat) (Option.some Jvm.ClassFile.FieldType.int)) ∈ lw_good := good_in (List.mem_append_right _ (List.mem_append_right _ (List.mem_append_right _ (List.mem_append_right _ (List.mem_append_right _ (List.mem_append_right _ (List.mem_append_right _ (List.mem_append_right _ (List.mem_of_getElem? (i := 75) (l := tables_1_8) rfl))))))))) rfl
set_option maxHeartbeats 4000000 in
set_option maxRecDepth 100000 in
theorem mM_401 : (Cond.instanceMethod ({ cls := "KindRoundsModel", name := "showKind", desc := "(I)I" } : Jvm.MethodName)) ∈ lw_good := good_in (List.mem_append_right _ (List.mem_append_right _ (List.mem_append_right _ (List.mem_append_right _ (List.mem_append_right _ (List.mem_append_right _ (List.mem_append_right _ (List.mem_append_right _ (List.mem_of_getElem? (i := 74) (l := tables_1_8) rfl))))))))) rfl
set_option maxHeartbeats 4000000 in
set_option maxRecDepth 100000 in
theorem mM_402 : Cond.selects "KindRoundsModel" ⟨"KindRoundsModel", "showKind", "(I)I"⟩ ⟨"KindRoundsModel", "showKind", "(I)I"⟩ ∈ lw_good := good_in (List.mem_append_left _ (List.mem_of_getElem? (i := 177) (l := k2_sels lw_privs) (by decide +kernel))) rfl
set_option maxHeartbeats 4000000 in
set_option maxRecDepth 100000 in
theorem mM_403 : (Cond.code ({ cls := "KindRoundsModel", name := "read", desc := "()I" } : Jvm.MethodName) prog_14_method_76_code (1 : Nat) (Option.some Jvm.ClassFile.FieldType.int)) ∈ lw_good := good_in (List.mem_append_right _ (List.mem_append_right _ (List.mem_append_right _ (List.mem_append_right _ (List.mem_append_right _ (List.mem_append_right _ (List.mem_append_right _ (List.mem_append_left _ (List.mem_of_getElem? (i := 43) (l := tables_1_7) rfl))))))))) rfl
set_option maxHeartbeats 4000000 in
set_option maxRecDepth 100000 in
theorem mM_404 : (Cond.instanceMethod ({ cls := "KindRoundsModel", name := "read", desc := "()I" } : Jvm.MethodName)) ∈ lw_good := good_in (List.mem_append_right _ (List.mem_append_right _ (List.mem_append_right _ (List.mem_append_right _ (List.mem_append_right _ (List.mem_append_right _ (List.mem_append_right _ (List.mem_append_left _ (List.mem_of_getElem? (i := 41) (l := tables_1_7) rfl))))))))) rfl
set_option maxHeartbeats 4000000 in
set_option maxRecDepth 100000 in
theorem mM_405 : (Cond.selects "KindRoundsModel" ({ cls := "KindRoundsModel", name := "read", desc := "()I" } : Jvm.MethodName) ({ cls := "KindRoundsModel", name := "read", desc := "()I" } : Jvm.MethodName)) ∈ lw_good := good_in (List.mem_append_right _ (List.mem_append_right _ (List.mem_append_right _ (List.mem_append_right _ (List.mem_append_right _ (List.mem_append_right _ (List.mem_append_right _ (List.mem_append_left _ (List.mem_of_getElem? (i := 42) (l := tables_1_7) rfl))))))))) rfl
set_option maxHeartbeats 4000000 in
set_option maxRecDepth 100000 in
theorem mM_406 : (Cond.code ({ cls := "KindRoundsModel", name := "place", desc := "()I" } : Jvm.MethodName) prog_14_method_77_code (1 : Nat) (Option.some Jvm.ClassFile.FieldType.int)) ∈ lw_good := good_in (List.mem_append_right _ (List.mem_append_right _ (List.mem_append_right _ (List.mem_append_right _ (List.mem_append_right _ (List.mem_append_right _ (List.mem_append_right _ (List.mem_append_right _ (List.mem_of_getElem? (i := 63) (l := tables_1_8) rfl))))))))) rfl
set_option maxHeartbeats 4000000 in
set_option maxRecDepth 100000 in
theorem mM_407 : (Cond.instanceMethod ({ cls := "KindRoundsModel", name := "place", desc := "()I" } : Jvm.MethodName)) ∈ lw_good := good_in (List.mem_append_right _ (List.mem_append_right _ (List.mem_append_right _ (List.mem_append_right _ (List.mem_append_right _ (List.mem_append_right _ (List.mem_append_right _ (List.mem_append_right _ (List.mem_of_getElem? (i := 61) (l := tables_1_8) rfl))))))))) rfl
set_option maxHeartbeats 4000000 in
set_option maxRecDepth 100000 in
theorem mM_408 : (Cond.selects "KindRoundsModel" ({ cls := "KindRoundsModel", name := "place", desc := "()I" } : Jvm.MethodName) ({ cls := "KindRoundsModel", name := "place", desc := "()I" } : Jvm.MethodName)) ∈ lw_good := good_in (List.mem_append_right _ (List.mem_append_right _ (List.mem_append_right _ (List.mem_append_right _ (List.mem_append_right _ (List.mem_append_right _ (List.mem_append_right _ (List.mem_append_right _ (List.mem_of_getElem? (i := 62) (l := tables_1_8) rfl))))))))) rfl
set_option maxHeartbeats 4000000 in
set_option maxRecDepth 100000 in
theorem mM_409 : (Cond.code ({ cls := "KindRoundsModel", name := "side", desc := "(I)I" } : Jvm.MethodName) prog_14_method_78_code (3 : Nat) (Option.some Jvm.ClassFile.FieldType.int)) ∈ lw_good := good_in (List.mem_append_right _ (List.mem_append_right _ (List.mem_append_right _ (List.mem_append_right _ (List.mem_append_right _ (List.mem_append_right _ (List.mem_append_right _ (List.mem_append_right _ (List.mem_of_getElem? (i := 67) (l := tables_1_8) rfl))))))))) rfl
set_option maxHeartbeats 4000000 in
set_option maxRecDepth 100000 in
theorem mM_410 : (Cond.instanceMethod ({ cls := "KindRoundsModel", name := "side", desc := "(I)I" } : Jvm.MethodName)) ∈ lw_good := good_in (List.mem_append_right _ (List.mem_append_right _ (List.mem_append_right _ (List.mem_append_right _ (List.mem_append_right _ (List.mem_append_right _ (List.mem_append_right _ (List.mem_append_right _ (List.mem_of_getElem? (i := 65) (l := tables_1_8) rfl))))))))) rfl
set_option maxHeartbeats 4000000 in
set_option maxRecDepth 100000 in
theorem mM_411 : (Cond.selects "KindRoundsModel" ({ cls := "KindRoundsModel", name := "side", desc := "(I)I" } : Jvm.MethodName) ({ cls := "KindRoundsModel", name := "side", desc := "(I)I" } : Jvm.MethodName)) ∈ lw_good := good_in (List.mem_append_right _ (List.mem_append_right _ (List.mem_append_right _ (List.mem_append_right _ (List.mem_append_right _ (List.mem_append_right _ (List.mem_append_right _ (List.mem_append_right _ (List.mem_of_getElem? (i := 66) (l := tables_1_8) rfl))))))))) rfl
set_option maxHeartbeats 4000000 in
set_option maxRecDepth 100000 in
theorem mM_412 : (Cond.code ({ cls := "KindRoundsModel", name := "out", desc := "(I)I" } : Jvm.MethodName) prog_14_method_79_code (2 : Nat) (Option.some Jvm.ClassFile.FieldType.int)) ∈ lw_good := good_in (List.mem_append_right _ (List.mem_append_right _ (List.mem_append_right _ (List.mem_append_right _ (List.mem_append_right _ (List.mem_append_right _ (List.mem_append_right _ (List.mem_append_right _ (List.mem_of_getElem? (i := 95) (l := tables_1_8) rfl))))))))) rfl
set_option maxHeartbeats 4000000 in
set_option maxRecDepth 100000 in
theorem mM_413 : (Cond.instanceMethod ({ cls := "KindRoundsModel", name := "out", desc := "(I)I" } : Jvm.MethodName)) ∈ lw_good := good_in (List.mem_append_right _ (List.mem_append_right _ (List.mem_append_right _ (List.mem_append_right _ (List.mem_append_right _ (List.mem_append_right _ (List.mem_append_right _ (List.mem_append_right _ (List.mem_of_getElem? (i := 93) (l := tables_1_8) rfl))))))))) rfl
set_option maxHeartbeats 4000000 in
set_option maxRecDepth 100000 in
theorem mM_414 : (Cond.selects "KindRoundsModel" ({ cls := "KindRoundsModel", name := "out", desc := "(I)I" } : Jvm.MethodName) ({ cls := "KindRoundsModel", name := "out", desc := "(I)I" } : Jvm.MethodName)) ∈ lw_good := good_in (List.mem_append_right _ (List.mem_append_right _ (List.mem_append_right _ (List.mem_append_right _ (List.mem_append_right _ (List.mem_append_right _ (List.mem_append_right _ (List.mem_append_right _ (List.mem_of_getElem? (i := 94) (l := tables_1_8) rfl))))))))) rfl
set_option maxHeartbeats 4000000 in
set_option maxRecDepth 100000 in
theorem mM_415 : (Cond.code ({ cls := "KindRoundsModel", name := "isDecl", desc := "(I)Z" } : Jvm.MethodName) prog_14_method_80_code (2 : Nat) (Option.some Jvm.ClassFile.FieldType.boolean)) ∈ lw_good := good_in (List.mem_append_right _ (List.mem_append_right _ (List.mem_append_right _ (List.mem_append_right _ (List.mem_append_right _ (List.mem_append_right _ (List.mem_append_right _ (List.mem_append_right _ (List.mem_of_getElem? (i := 103) (l := tables_1_8) rfl))))))))) rfl
set_option maxHeartbeats 4000000 in
set_option maxRecDepth 100000 in
theorem mM_416 : (Cond.instanceMethod ({ cls := "KindRoundsModel", name := "isDecl", desc := "(I)Z" } : Jvm.MethodName)) ∈ lw_good := good_in (List.mem_append_right _ (List.mem_append_right _ (List.mem_append_right _ (List.mem_append_right _ (List.mem_append_right _ (List.mem_append_right _ (List.mem_append_right _ (List.mem_append_right _ (List.mem_of_getElem? (i := 102) (l := tables_1_8) rfl))))))))) rfl
set_option maxHeartbeats 4000000 in
set_option maxRecDepth 100000 in
theorem mM_417 : Cond.selects "KindRoundsModel" ⟨"KindRoundsModel", "isDecl", "(I)Z"⟩ ⟨"KindRoundsModel", "isDecl", "(I)Z"⟩ ∈ lw_good := good_in (List.mem_append_left _ (List.mem_of_getElem? (i := 182) (l := k2_sels lw_privs) (by decide +kernel))) rfl
set_option maxHeartbeats 4000000 in
set_option maxRecDepth 100000 in
theorem mM_418 : (Cond.code ({ cls := "KindRoundsModel", name := "told", desc := "(II)I" } : Jvm.MethodName) prog_14_method_81_code (3 : Nat) (Option.some Jvm.ClassFile.FieldType.int)) ∈ lw_good := good_in (List.mem_append_right _ (List.mem_append_right _ (List.mem_append_right _ (List.mem_append_right _ (List.mem_append_right _ (List.mem_append_right _ (List.mem_append_right _ (List.mem_append_right _ (List.mem_of_getElem? (i := 99) (l := tables_1_8) rfl))))))))) rfl
set_option maxHeartbeats 4000000 in
set_option maxRecDepth 100000 in
theorem mM_419 : (Cond.instanceMethod ({ cls := "KindRoundsModel", name := "told", desc := "(II)I" } : Jvm.MethodName)) ∈ lw_good := good_in (List.mem_append_right _ (List.mem_append_right _ (List.mem_append_right _ (List.mem_append_right _ (List.mem_append_right _ (List.mem_append_right _ (List.mem_append_right _ (List.mem_append_right _ (List.mem_of_getElem? (i := 97) (l := tables_1_8) rfl))))))))) rfl
set_option maxHeartbeats 4000000 in
set_option maxRecDepth 100000 in
theorem mM_420 : (Cond.selects "KindRoundsModel" ({ cls := "KindRoundsModel", name := "told", desc := "(II)I" } : Jvm.MethodName) ({ cls := "KindRoundsModel", name := "told", desc := "(II)I" } : Jvm.MethodName)) ∈ lw_good := good_in (List.mem_append_right _ (List.mem_append_right _ (List.mem_append_right _ (List.mem_append_right _ (List.mem_append_right _ (List.mem_append_right _ (List.mem_append_right _ (List.mem_append_right _ (List.mem_of_getElem? (i := 98) (l := tables_1_8) rfl))))))))) rfl
set_option maxHeartbeats 4000000 in
set_option maxRecDepth 100000 in
theorem mM_421 : (Cond.code ({ cls := "KindRoundsModel", name := "kindOf", desc := "(II)I" } : Jvm.MethodName) prog_14_method_82_code (3 : Nat) (Option.some Jvm.ClassFile.FieldType.int)) ∈ lw_good := good_in (List.mem_append_right _ (List.mem_append_right _ (List.mem_append_right _ (List.mem_append_right _ (List.mem_append_right _ (List.mem_append_right _ (List.mem_append_right _ (List.mem_append_right _ (List.mem_of_getElem? (i := 107) (l := tables_1_8) rfl))))))))) rfl
set_option maxHeartbeats 4000000 in
set_option maxRecDepth 100000 in
theorem mM_422 : (Cond.instanceMethod ({ cls := "KindRoundsModel", name := "kindOf", desc := "(II)I" } : Jvm.MethodName)) ∈ lw_good := good_in (List.mem_append_right _ (List.mem_append_right _ (List.mem_append_right _ (List.mem_append_right _ (List.mem_append_right _ (List.mem_append_right _ (List.mem_append_right _ (List.mem_append_right _ (List.mem_of_getElem? (i := 105) (l := tables_1_8) rfl))))))))) rfl
set_option maxHeartbeats 4000000 in
set_option maxRecDepth 100000 in
theorem mM_423 : (Cond.selects "KindRoundsModel" ({ cls := "KindRoundsModel", name := "kindOf", desc := "(II)I" } : Jvm.MethodName) ({ cls := "KindRoundsModel", name := "kindOf", desc := "(II)I" } : Jvm.MethodName)) ∈ lw_good := good_in (List.mem_append_right _ (List.mem_append_right _ (List.mem_append_right _ (List.mem_append_right _ (List.mem_append_right _ (List.mem_append_right _ (List.mem_append_right _ (List.mem_append_right _ (List.mem_of_getElem? (i := 106) (l := tables_1_8) rfl))))))))) rfl
set_option maxHeartbeats 4000000 in
set_option maxRecDepth 100000 in
theorem mM_424 : (Cond.code ({ cls := "KindRoundsModel", name := "groups", desc := "()I" } : Jvm.MethodName) prog_14_method_83_code (1 : Nat) (Option.some Jvm.ClassFile.FieldType.int)) ∈ lw_good := good_in (List.mem_append_right _ (List.mem_append_right _ (List.mem_append_right _ (List.mem_append_right _ (List.mem_append_right _ (List.mem_append_right _ (List.mem_append_right _ (List.mem_append_right _ (List.mem_of_getElem? (i := 111) (l := tables_1_8) rfl))))))))) rfl
set_option maxHeartbeats 4000000 in
set_option maxRecDepth 100000 in
theorem mM_425 : (Cond.instanceMethod ({ cls := "KindRoundsModel", name := "groups", desc := "()I" } : Jvm.MethodName)) ∈ lw_good := good_in (List.mem_append_right _ (List.mem_append_right _ (List.mem_append_right _ (List.mem_append_right _ (List.mem_append_right _ (List.mem_append_right _ (List.mem_append_right _ (List.mem_append_right _ (List.mem_of_getElem? (i := 109) (l := tables_1_8) rfl))))))))) rfl
set_option maxHeartbeats 4000000 in
set_option maxRecDepth 100000 in
theorem mM_426 : (Cond.selects "KindRoundsModel" ({ cls := "KindRoundsModel", name := "groups", desc := "()I" } : Jvm.MethodName) ({ cls := "KindRoundsModel", name := "groups", desc := "()I" } : Jvm.MethodName)) ∈ lw_good := good_in (List.mem_append_right _ (List.mem_append_right _ (List.mem_append_right _ (List.mem_append_right _ (List.mem_append_right _ (List.mem_append_right _ (List.mem_append_right _ (List.mem_append_right _ (List.mem_of_getElem? (i := 110) (l := tables_1_8) rfl))))))))) rfl
set_option maxHeartbeats 4000000 in
set_option maxRecDepth 100000 in
theorem mM_427 : (Cond.code ({ cls := "KindRoundsModel", name := "member", desc := "(II)I" } : Jvm.MethodName) prog_14_method_84_code (5 : Nat) (Option.some Jvm.ClassFile.FieldType.int)) ∈ lw_good := good_in (List.mem_append_right _ (List.mem_append_right _ (List.mem_append_right _ (List.mem_append_right _ (List.mem_append_right _ (List.mem_append_right _ (List.mem_append_right _ (List.mem_append_right _ (List.mem_of_getElem? (i := 115) (l := tables_1_8) rfl))))))))) rfl
set_option maxHeartbeats 4000000 in
set_option maxRecDepth 100000 in
theorem mM_428 : (Cond.instanceMethod ({ cls := "KindRoundsModel", name := "member", desc := "(II)I" } : Jvm.MethodName)) ∈ lw_good := good_in (List.mem_append_right _ (List.mem_append_right _ (List.mem_append_right _ (List.mem_append_right _ (List.mem_append_right _ (List.mem_append_right _ (List.mem_append_right _ (List.mem_append_right _ (List.mem_of_getElem? (i := 113) (l := tables_1_8) rfl))))))))) rfl
set_option maxHeartbeats 4000000 in
set_option maxRecDepth 100000 in
theorem mM_429 : (Cond.selects "KindRoundsModel" ({ cls := "KindRoundsModel", name := "member", desc := "(II)I" } : Jvm.MethodName) ({ cls := "KindRoundsModel", name := "member", desc := "(II)I" } : Jvm.MethodName)) ∈ lw_good := good_in (List.mem_append_right _ (List.mem_append_right _ (List.mem_append_right _ (List.mem_append_right _ (List.mem_append_right _ (List.mem_append_right _ (List.mem_append_right _ (List.mem_append_right _ (List.mem_of_getElem? (i := 114) (l := tables_1_8) rfl))))))))) rfl
set_option maxHeartbeats 4000000 in
set_option maxRecDepth 100000 in
theorem mM_430 : (Cond.code ({ cls := "KindRoundsModel", name := "needs", desc := "(II)I" } : Jvm.MethodName) prog_14_method_85_code (3 : Nat) (Option.some Jvm.ClassFile.FieldType.int)) ∈ lw_good := good_in (List.mem_append_right _ (List.mem_append_right _ (List.mem_append_right _ (List.mem_append_right _ (List.mem_append_right _ (List.mem_append_right _ (List.mem_append_right _ (List.mem_append_right _ (List.mem_of_getElem? (i := 119) (l := tables_1_8) rfl))))))))) rfl
set_option maxHeartbeats 4000000 in
set_option maxRecDepth 100000 in
theorem mM_431 : (Cond.instanceMethod ({ cls := "KindRoundsModel", name := "needs", desc := "(II)I" } : Jvm.MethodName)) ∈ lw_good := good_in (List.mem_append_right _ (List.mem_append_right _ (List.mem_append_right _ (List.mem_append_right _ (List.mem_append_right _ (List.mem_append_right _ (List.mem_append_right _ (List.mem_append_right _ (List.mem_of_getElem? (i := 117) (l := tables_1_8) rfl))))))))) rfl
set_option maxHeartbeats 4000000 in
set_option maxRecDepth 100000 in
theorem mM_432 : (Cond.selects "KindRoundsModel" ({ cls := "KindRoundsModel", name := "needs", desc := "(II)I" } : Jvm.MethodName) ({ cls := "KindRoundsModel", name := "needs", desc := "(II)I" } : Jvm.MethodName)) ∈ lw_good := good_in (List.mem_append_right _ (List.mem_append_right _ (List.mem_append_right _ (List.mem_append_right _ (List.mem_append_right _ (List.mem_append_right _ (List.mem_append_right _ (List.mem_append_right _ (List.mem_of_getElem? (i := 118) (l := tables_1_8) rfl))))))))) rfl
set_option maxHeartbeats 4000000 in
set_option maxRecDepth 100000 in
theorem mM_433 : (Cond.code ({ cls := "KindRoundsModel", name := "readAsked", desc := "(Z)I" } : Jvm.MethodName) prog_14_method_86_code (4 : Nat) (Option.some Jvm.ClassFile.FieldType.int)) ∈ lw_good := good_in (List.mem_append_right _ (List.mem_append_right _ (List.mem_append_right _ (List.mem_append_right _ (List.mem_append_right _ (List.mem_append_right _ (List.mem_append_right _ (List.mem_append_right _ (List.mem_of_getElem? (i := 127) (l := tables_1_8) rfl))))))))) rfl
set_option maxHeartbeats 4000000 in
set_option maxRecDepth 100000 in
theorem mM_434 : (Cond.instanceMethod ({ cls := "KindRoundsModel", name := "readAsked", desc := "(Z)I" } : Jvm.MethodName)) ∈ lw_good := good_in (List.mem_append_right _ (List.mem_append_right _ (List.mem_append_right _ (List.mem_append_right _ (List.mem_append_right _ (List.mem_append_right _ (List.mem_append_right _ (List.mem_append_right _ (List.mem_of_getElem? (i := 126) (l := tables_1_8) rfl))))))))) rfl
set_option maxHeartbeats 4000000 in
set_option maxRecDepth 100000 in
theorem mM_435 : Cond.selects "KindRoundsModel" ⟨"KindRoundsModel", "readAsked", "(Z)I"⟩ ⟨"KindRoundsModel", "readAsked", "(Z)I"⟩ ∈ lw_good := good_in (List.mem_append_left _ (List.mem_of_getElem? (i := 183) (l := k2_sels lw_privs) (by decide +kernel))) rfl
set_option maxHeartbeats 4000000 in
set_option maxRecDepth 100000 in
theorem mM_436 : (Cond.code ({ cls := "KindRoundsModel", name := "kind", desc := "()I" } : Jvm.MethodName) prog_14_method_87_code (2 : Nat) (Option.some Jvm.ClassFile.FieldType.int)) ∈ lw_good := good_in (List.mem_append_right _ (List.mem_append_right _ (List.mem_append_right _ (List.mem_append_right _ (List.mem_append_right _ (List.mem_append_right _ (List.mem_append_right _ (List.mem_append_right _ (List.mem_of_getElem? (i := 123) (l := tables_1_8) rfl))))))))) rfl
set_option maxHeartbeats 4000000 in
set_option maxRecDepth 100000 in
theorem mM_437 : (Cond.instanceMethod ({ cls := "KindRoundsModel", name := "kind", desc := "()I" } : Jvm.MethodName)) ∈ lw_good := good_in (List.mem_append_right _ (List.mem_append_right _ (List.mem_append_right _ (List.mem_append_right _ (List.mem_append_right _ (List.mem_append_right _ (List.mem_append_right _ (List.mem_append_right _ (List.mem_of_getElem? (i := 121) (l := tables_1_8) rfl))))))))) rfl
set_option maxHeartbeats 4000000 in
set_option maxRecDepth 100000 in
theorem mM_438 : (Cond.selects "KindRoundsModel" ({ cls := "KindRoundsModel", name := "kind", desc := "()I" } : Jvm.MethodName) ({ cls := "KindRoundsModel", name := "kind", desc := "()I" } : Jvm.MethodName)) ∈ lw_good := good_in (List.mem_append_right _ (List.mem_append_right _ (List.mem_append_right _ (List.mem_append_right _ (List.mem_append_right _ (List.mem_append_right _ (List.mem_append_right _ (List.mem_append_right _ (List.mem_of_getElem? (i := 122) (l := tables_1_8) rfl))))))))) rfl
set_option maxHeartbeats 4000000 in
set_option maxRecDepth 100000 in
theorem mM_439 : (Cond.code ({ cls := "KindRoundsModel", name := "lay", desc := "(I[I)I" } : Jvm.MethodName) prog_14_method_88_code (6 : Nat) (Option.some Jvm.ClassFile.FieldType.int)) ∈ lw_good := good_in (List.mem_append_right _ (List.mem_append_right _ (List.mem_append_right _ (List.mem_append_right _ (List.mem_append_right _ (List.mem_append_right _ (List.mem_append_right _ (List.mem_append_right _ (List.mem_of_getElem? (i := 139) (l := tables_1_8) rfl))))))))) rfl
set_option maxHeartbeats 4000000 in
set_option maxRecDepth 100000 in
theorem mM_440 : (Cond.instanceMethod ({ cls := "KindRoundsModel", name := "lay", desc := "(I[I)I" } : Jvm.MethodName)) ∈ lw_good := good_in (List.mem_append_right _ (List.mem_append_right _ (List.mem_append_right _ (List.mem_append_right _ (List.mem_append_right _ (List.mem_append_right _ (List.mem_append_right _ (List.mem_append_right _ (List.mem_of_getElem? (i := 138) (l := tables_1_8) rfl))))))))) rfl
set_option maxHeartbeats 4000000 in
set_option maxRecDepth 100000 in
theorem mM_441 : Cond.selects "KindRoundsModel" ⟨"KindRoundsModel", "lay", "(I[I)I"⟩ ⟨"KindRoundsModel", "lay", "(I[I)I"⟩ ∈ lw_good := good_in (List.mem_append_left _ (List.mem_of_getElem? (i := 185) (l := k2_sels lw_privs) (by decide +kernel))) rfl
set_option maxHeartbeats 4000000 in
set_option maxRecDepth 100000 in
theorem mM_442 : (Cond.code ({ cls := "KindRoundsModel", name := "end", desc := "(I)I" } : Jvm.MethodName) prog_14_method_89_code (4 : Nat) (Option.some Jvm.ClassFile.FieldType.int)) ∈ lw_good := good_in (List.mem_append_right _ (List.mem_append_right _ (List.mem_append_right _ (List.mem_append_right _ (List.mem_append_right _ (List.mem_append_right _ (List.mem_append_right _ (List.mem_append_right _ (List.mem_of_getElem? (i := 163) (l := tables_1_8) rfl))))))))) rfl
set_option maxHeartbeats 4000000 in
set_option maxRecDepth 100000 in
theorem mM_443 : (Cond.instanceMethod ({ cls := "KindRoundsModel", name := "end", desc := "(I)I" } : Jvm.MethodName)) ∈ lw_good := good_in (List.mem_append_right _ (List.mem_append_right _ (List.mem_append_right _ (List.mem_append_right _ (List.mem_append_right _ (List.mem_append_right _ (List.mem_append_right _ (List.mem_append_right _ (List.mem_of_getElem? (i := 162) (l := tables_1_8) rfl))))))))) rfl
set_option maxHeartbeats 4000000 in
set_option maxRecDepth 100000 in
theorem mM_444 : Cond.selects "KindRoundsModel" ⟨"KindRoundsModel", "end", "(I)I"⟩ ⟨"KindRoundsModel", "end", "(I)I"⟩ ∈ lw_good := good_in (List.mem_append_left _ (List.mem_of_getElem? (i := 191) (l := k2_sels lw_privs) (by decide +kernel))) rfl
set_option maxHeartbeats 4000000 in
set_option maxRecDepth 100000 in
theorem mM_445 : (Cond.code ({ cls := "KindRoundsModel", name := "synonym", desc := "(I)I" } : Jvm.MethodName) prog_14_method_90_code (3 : Nat) (Option.some Jvm.ClassFile.FieldType.int)) ∈ lw_good := good_in (List.mem_append_right _ (List.mem_append_right _ (List.mem_append_right _ (List.mem_append_right _ (List.mem_append_right _ (List.mem_append_right _ (List.mem_append_right _ (List.mem_append_right _ (List.mem_of_getElem? (i := 143) (l := tables_1_8) rfl))))))))) rfl
set_option maxHeartbeats 4000000 in
set_option maxRecDepth 100000 in
theorem mM_446 : (Cond.instanceMethod ({ cls := "KindRoundsModel", name := "synonym", desc := "(I)I" } : Jvm.MethodName)) ∈ lw_good := good_in (List.mem_append_right _ (List.mem_append_right _ (List.mem_append_right _ (List.mem_append_right _ (List.mem_append_right _ (List.mem_append_right _ (List.mem_append_right _ (List.mem_append_right _ (List.mem_of_getElem? (i := 142) (l := tables_1_8) rfl))))))))) rfl
set_option maxHeartbeats 4000000 in
set_option maxRecDepth 100000 in
theorem mM_447 : Cond.selects "KindRoundsModel" ⟨"KindRoundsModel", "synonym", "(I)I"⟩ ⟨"KindRoundsModel", "synonym", "(I)I"⟩ ∈ lw_good := good_in (List.mem_append_left _ (List.mem_of_getElem? (i := 186) (l := k2_sels lw_privs) (by decide +kernel))) rfl
set_option maxHeartbeats 4000000 in
set_option maxRecDepth 100000 in
theorem mM_448 : (Cond.code ({ cls := "KindRoundsModel", name := "add", desc := "(I)V" } : Jvm.MethodName) prog_14_method_91_code (2 : Nat) (Option.none : Option Jvm.ClassFile.FieldType)) ∈ lw_good := good_in (List.mem_append_right _ (List.mem_append_right _ (List.mem_append_right _ (List.mem_append_right _ (List.mem_append_right _ (List.mem_append_right _ (List.mem_append_right _ (List.mem_append_right _ (List.mem_of_getElem? (i := 155) (l := tables_1_8) rfl))))))))) rfl
set_option maxHeartbeats 4000000 in
set_option maxRecDepth 100000 in
theorem mM_449 : (Cond.instanceMethod ({ cls := "KindRoundsModel", name := "add", desc := "(I)V" } : Jvm.MethodName)) ∈ lw_good := good_in (List.mem_append_right _ (List.mem_append_right _ (List.mem_append_right _ (List.mem_append_right _ (List.mem_append_right _ (List.mem_append_right _ (List.mem_append_right _ (List.mem_append_right _ (List.mem_of_getElem? (i := 154) (l := tables_1_8) rfl))))))))) rfl
set_option maxHeartbeats 4000000 in
set_option maxRecDepth 100000 in
theorem mM_450 : Cond.selects "KindRoundsModel" ⟨"KindRoundsModel", "add", "(I)V"⟩ ⟨"KindRoundsModel", "add", "(I)V"⟩ ∈ lw_good := good_in (List.mem_append_left _ (List.mem_of_getElem? (i := 189) (l := k2_sels lw_privs) (by decide +kernel))) rfl
set_option maxHeartbeats 4000000 in
set_option maxRecDepth 100000 in
theorem mM_451 : (Cond.code ({ cls := "KindRoundsModel", name := "addSpan", desc := "(II)V" } : Jvm.MethodName) prog_14_method_92_code (4 : Nat) (Option.none : Option Jvm.ClassFile.FieldType)) ∈ lw_good := good_in (List.mem_append_right _ (List.mem_append_right _ (List.mem_append_right _ (List.mem_append_right _ (List.mem_append_right _ (List.mem_append_right _ (List.mem_append_right _ (List.mem_append_right _ (List.mem_of_getElem? (i := 151) (l := tables_1_8) rfl))))))))) rfl
set_option maxHeartbeats 4000000 in
set_option maxRecDepth 100000 in
theorem mM_452 : (Cond.instanceMethod ({ cls := "KindRoundsModel", name := "addSpan", desc := "(II)V" } : Jvm.MethodName)) ∈ lw_good := good_in (List.mem_append_right _ (List.mem_append_right _ (List.mem_append_right _ (List.mem_append_right _ (List.mem_append_right _ (List.mem_append_right _ (List.mem_append_right _ (List.mem_append_right _ (List.mem_of_getElem? (i := 150) (l := tables_1_8) rfl))))))))) rfl
set_option maxHeartbeats 4000000 in
set_option maxRecDepth 100000 in
theorem mM_453 : Cond.selects "KindRoundsModel" ⟨"KindRoundsModel", "addSpan", "(II)V"⟩ ⟨"KindRoundsModel", "addSpan", "(II)V"⟩ ∈ lw_good := good_in (List.mem_append_left _ (List.mem_of_getElem? (i := 188) (l := k2_sels lw_privs) (by decide +kernel))) rfl
set_option maxHeartbeats 4000000 in
set_option maxRecDepth 100000 in
theorem mM_454 : (Cond.code ({ cls := "KindRoundsModel", name := "behind", desc := "(II)I" } : Jvm.MethodName) prog_14_method_93_code (5 : Nat) (Option.some Jvm.ClassFile.FieldType.int)) ∈ lw_good := good_in (List.mem_append_right _ (List.mem_append_right _ (List.mem_append_right _ (List.mem_append_right _ (List.mem_append_right _ (List.mem_append_right _ (List.mem_append_right _ (List.mem_append_right _ (List.mem_of_getElem? (i := 159) (l := tables_1_8) rfl))))))))) rfl
set_option maxHeartbeats 4000000 in
set_option maxRecDepth 100000 in
theorem mM_455 : (Cond.instanceMethod ({ cls := "KindRoundsModel", name := "behind", desc := "(II)I" } : Jvm.MethodName)) ∈ lw_good := good_in (List.mem_append_right _ (List.mem_append_right _ (List.mem_append_right _ (List.mem_append_right _ (List.mem_append_right _ (List.mem_append_right _ (List.mem_append_right _ (List.mem_append_right _ (List.mem_of_getElem? (i := 158) (l := tables_1_8) rfl))))))))) rfl
set_option maxHeartbeats 4000000 in
set_option maxRecDepth 100000 in
theorem mM_456 : Cond.selects "KindRoundsModel" ⟨"KindRoundsModel", "behind", "(II)I"⟩ ⟨"KindRoundsModel", "behind", "(II)I"⟩ ∈ lw_good := good_in (List.mem_append_left _ (List.mem_of_getElem? (i := 190) (l := k2_sels lw_privs) (by decide +kernel))) rfl
set_option maxHeartbeats 4000000 in
set_option maxRecDepth 100000 in
theorem mM_457 : (Cond.code ({ cls := "KindRoundsModel", name := "replace", desc := "(II)V" } : Jvm.MethodName) prog_14_method_94_code (8 : Nat) (Option.none : Option Jvm.ClassFile.FieldType)) ∈ lw_good := good_in (List.mem_append_right _ (List.mem_append_right _ (List.mem_append_right _ (List.mem_append_right _ (List.mem_append_right _ (List.mem_append_right _ (List.mem_append_right _ (List.mem_append_right _ (List.mem_of_getElem? (i := 147) (l := tables_1_8) rfl))))))))) rfl
set_option maxHeartbeats 4000000 in
set_option maxRecDepth 100000 in
theorem mM_458 : (Cond.instanceMethod ({ cls := "KindRoundsModel", name := "replace", desc := "(II)V" } : Jvm.MethodName)) ∈ lw_good := good_in (List.mem_append_right _ (List.mem_append_right _ (List.mem_append_right _ (List.mem_append_right _ (List.mem_append_right _ (List.mem_append_right _ (List.mem_append_right _ (List.mem_append_right _ (List.mem_of_getElem? (i := 146) (l := tables_1_8) rfl))))))))) rfl
set_option maxHeartbeats 4000000 in
set_option maxRecDepth 100000 in
theorem mM_459 : Cond.selects "KindRoundsModel" ⟨"KindRoundsModel", "replace", "(II)V"⟩ ⟨"KindRoundsModel", "replace", "(II)V"⟩ ∈ lw_good := good_in (List.mem_append_left _ (List.mem_of_getElem? (i := 187) (l := k2_sels lw_privs) (by decide +kernel))) rfl
set_option maxHeartbeats 4000000 in
set_option maxRecDepth 100000 in
theorem mM_460 : (Cond.code ({ cls := "KindRoundsModel", name := "isPlain", desc := "(I)Z" } : Jvm.MethodName) prog_14_method_95_code (5 : Nat) (Option.some Jvm.ClassFile.FieldType.boolean)) ∈ lw_good := good_in (List.mem_append_right _ (List.mem_append_right _ (List.mem_append_right _ (List.mem_append_right _ (List.mem_append_right _ (List.mem_append_right _ (List.mem_append_right _ (List.mem_append_right _ (List.mem_of_getElem? (i := 135) (l := tables_1_8) rfl))))))))) rfl
set_option maxHeartbeats 4000000 in
set_option maxRecDepth 100000 in
theorem mM_461 : (Cond.instanceMethod ({ cls := "KindRoundsModel", name := "isPlain", desc := "(I)Z" } : Jvm.MethodName)) ∈ lw_good := good_in (List.mem_append_right _ (List.mem_append_right _ (List.mem_append_right _ (List.mem_append_right _ (List.mem_append_right _ (List.mem_append_right _ (List.mem_append_right _ (List.mem_append_right _ (List.mem_of_getElem? (i := 134) (l := tables_1_8) rfl))))))))) rfl
set_option maxHeartbeats 4000000 in
set_option maxRecDepth 100000 in
theorem mM_462 : Cond.selects "KindRoundsModel" ⟨"KindRoundsModel", "isPlain", "(I)Z"⟩ ⟨"KindRoundsModel", "isPlain", "(I)Z"⟩ ∈ lw_good := good_in (List.mem_append_left _ (List.mem_of_getElem? (i := 184) (l := k2_sels lw_privs) (by decide +kernel))) rfl
set_option maxHeartbeats 4000000 in
set_option maxRecDepth 100000 in
theorem mM_463 : (Cond.code ({ cls := "KindRoundsModel", name := "putName", desc := "(I)V" } : Jvm.MethodName) prog_14_method_96_code (4 : Nat) (Option.none : Option Jvm.ClassFile.FieldType)) ∈ lw_good := good_in (List.mem_append_right _ (List.mem_append_right _ (List.mem_append_right _ (List.mem_append_right _ (List.mem_append_right _ (List.mem_append_right _ (List.mem_append_right _ (List.mem_append_right _ (List.mem_of_getElem? (i := 175) (l := tables_1_8) rfl))))))))) rfl
set_option maxHeartbeats 4000000 in
set_option maxRecDepth 100000 in
theorem mM_464 : (Cond.instanceMethod ({ cls := "KindRoundsModel", name := "putName", desc := "(I)V" } : Jvm.MethodName)) ∈ lw_good := good_in (List.mem_append_right _ (List.mem_append_right _ (List.mem_append_right _ (List.mem_append_right _ (List.mem_append_right _ (List.mem_append_right _ (List.mem_append_right _ (List.mem_append_right _ (List.mem_of_getElem? (i := 174) (l := tables_1_8) rfl))))))))) rfl
set_option maxHeartbeats 4000000 in
set_option maxRecDepth 100000 in
theorem mM_465 : Cond.selects "KindRoundsModel" ⟨"KindRoundsModel", "putName", "(I)V"⟩ ⟨"KindRoundsModel", "putName", "(I)V"⟩ ∈ lw_good := good_in (List.mem_append_left _ (List.mem_of_getElem? (i := 194) (l := k2_sels lw_privs) (by decide +kernel))) rfl
set_option maxHeartbeats 4000000 in
set_option maxRecDepth 100000 in
theorem mM_466 : (Cond.code ({ cls := "KindRoundsModel", name := "layRowOut", desc := "()V" } : Jvm.MethodName) prog_14_method_97_code (3 : Nat) (Option.none : Option Jvm.ClassFile.FieldType)) ∈ lw_good := good_in (List.mem_append_right _ (List.mem_append_right _ (List.mem_append_right _ (List.mem_append_right _ (List.mem_append_right _ (List.mem_append_right _ (List.mem_append_right _ (List.mem_append_right _ (List.mem_of_getElem? (i := 167) (l := tables_1_8) rfl))))))))) rfl
set_option maxHeartbeats 4000000 in
set_option maxRecDepth 100000 in
theorem mM_467 : (Cond.instanceMethod ({ cls := "KindRoundsModel", name := "layRowOut", desc := "()V" } : Jvm.MethodName)) ∈ lw_good := good_in (List.mem_append_right _ (List.mem_append_right _ (List.mem_append_right _ (List.mem_append_right _ (List.mem_append_right _ (List.mem_append_right _ (List.mem_append_right _ (List.mem_append_right _ (List.mem_of_getElem? (i := 166) (l := tables_1_8) rfl))))))))) rfl
set_option maxHeartbeats 4000000 in
set_option maxRecDepth 100000 in
theorem mM_468 : Cond.selects "KindRoundsModel" ⟨"KindRoundsModel", "layRowOut", "()V"⟩ ⟨"KindRoundsModel", "layRowOut", "()V"⟩ ∈ lw_good := good_in (List.mem_append_left _ (List.mem_of_getElem? (i := 192) (l := k2_sels lw_privs) (by decide +kernel))) rfl
set_option maxHeartbeats 4000000 in
set_option maxRecDepth 100000 in
theorem mM_469 : (Cond.code ({ cls := "KindRoundsModel", name := "layItem", desc := "(III)I" } : Jvm.MethodName) prog_14_method_98_code (6 : Nat) (Option.some Jvm.ClassFile.FieldType.int)) ∈ lw_good := good_in (List.mem_append_right _ (List.mem_append_right _ (List.mem_append_right _ (List.mem_append_right _ (List.mem_append_right _ (List.mem_append_right _ (List.mem_append_right _ (List.mem_append_right _ (List.mem_of_getElem? (i := 171) (l := tables_1_8) rfl))))))))) rfl
set_option maxHeartbeats 4000000 in
set_option maxRecDepth 100000 in
theorem mM_470 : (Cond.instanceMethod ({ cls := "KindRoundsModel", name := "layItem", desc := "(III)I" } : Jvm.MethodName)) ∈ lw_good := good_in (List.mem_append_right _ (List.mem_append_right _ (List.mem_append_right _ (List.mem_append_right _ (List.mem_append_right _ (List.mem_append_right _ (List.mem_append_right _ (List.mem_append_right _ (List.mem_of_getElem? (i := 170) (l := tables_1_8) rfl))))))))) rfl
set_option maxHeartbeats 4000000 in
set_option maxRecDepth 100000 in
theorem mM_471 : Cond.selects "KindRoundsModel" ⟨"KindRoundsModel", "layItem", "(III)I"⟩ ⟨"KindRoundsModel", "layItem", "(III)I"⟩ ∈ lw_good := good_in (List.mem_append_left _ (List.mem_of_getElem? (i := 193) (l := k2_sels lw_privs) (by decide +kernel))) rfl
set_option maxHeartbeats 4000000 in
set_option maxRecDepth 100000 in
theorem mM_472 : (Cond.code ({ cls := "KindRoundsModel", name := "plain", desc := "()I" } : Jvm.MethodName) prog_14_method_99_code (2 : Nat) (Option.some Jvm.ClassFile.FieldType.int)) ∈ lw_good := good_in (List.mem_append_right _ (List.mem_append_right _ (List.mem_append_right _ (List.mem_append_right _ (List.mem_append_right _ (List.mem_append_right _ (List.mem_append_right _ (List.mem_append_right _ (List.mem_of_getElem? (i := 131) (l := tables_1_8) rfl))))))))) rfl
set_option maxHeartbeats 4000000 in
set_option maxRecDepth 100000 in
theorem mM_473 : (Cond.instanceMethod ({ cls := "KindRoundsModel", name := "plain", desc := "()I" } : Jvm.MethodName)) ∈ lw_good := good_in (List.mem_append_right _ (List.mem_append_right _ (List.mem_append_right _ (List.mem_append_right _ (List.mem_append_right _ (List.mem_append_right _ (List.mem_append_right _ (List.mem_append_right _ (List.mem_of_getElem? (i := 129) (l := tables_1_8) rfl))))))))) rfl
set_option maxHeartbeats 4000000 in
set_option maxRecDepth 100000 in
theorem mM_474 : (Cond.selects "KindRoundsModel" ({ cls := "KindRoundsModel", name := "plain", desc := "()I" } : Jvm.MethodName) ({ cls := "KindRoundsModel", name := "plain", desc := "()I" } : Jvm.MethodName)) ∈ lw_good := good_in (List.mem_append_right _ (List.mem_append_right _ (List.mem_append_right _ (List.mem_append_right _ (List.mem_append_right _ (List.mem_append_right _ (List.mem_append_right _ (List.mem_append_right _ (List.mem_of_getElem? (i := 130) (l := tables_1_8) rfl))))))))) rfl
set_option maxHeartbeats 4000000 in
set_option maxRecDepth 100000 in
theorem mM_475 : (Cond.code ({ cls := "KindRoundsModel", name := "same", desc := "()I" } : Jvm.MethodName) prog_14_method_100_code (5 : Nat) (Option.some Jvm.ClassFile.FieldType.int)) ∈ lw_good := good_in (List.mem_append_right _ (List.mem_append_right _ (List.mem_append_right _ (List.mem_append_right _ (List.mem_append_right _ (List.mem_append_right _ (List.mem_append_right _ (List.mem_append_right _ (List.mem_of_getElem? (i := 180) (l := tables_1_8) rfl))))))))) rfl
set_option maxHeartbeats 4000000 in
set_option maxRecDepth 100000 in
theorem mM_476 : (Cond.instanceMethod ({ cls := "KindRoundsModel", name := "same", desc := "()I" } : Jvm.MethodName)) ∈ lw_good := good_in (List.mem_append_right _ (List.mem_append_right _ (List.mem_append_right _ (List.mem_append_right _ (List.mem_append_right _ (List.mem_append_right _ (List.mem_append_right _ (List.mem_append_right _ (List.mem_of_getElem? (i := 178) (l := tables_1_8) rfl))))))))) rfl
set_option maxHeartbeats 4000000 in
set_option maxRecDepth 100000 in
theorem mM_477 : (Cond.selects "KindRoundsModel" ({ cls := "KindRoundsModel", name := "same", desc := "()I" } : Jvm.MethodName) ({ cls := "KindRoundsModel", name := "same", desc := "()I" } : Jvm.MethodName)) ∈ lw_good := good_in (List.mem_append_right _ (List.mem_append_right _ (List.mem_append_right _ (List.mem_append_right _ (List.mem_append_right _ (List.mem_append_right _ (List.mem_append_right _ (List.mem_append_right _ (List.mem_of_getElem? (i := 179) (l := tables_1_8) rfl))))))))) rfl
theorem kz_Md_feed : kMi y_Md_feed bc_Md_feed 8 (some .int) 5 := ⟨⟨mM_188, mM_189, by decide, by decide, by decide⟩, mM_190, mM_191⟩
theorem kz_Md_cut : kMi y_Md_cut bc_Md_cut 3 (some .int) 1 := ⟨⟨mM_192, mM_189, by decide, by decide, by decide⟩, mM_193, mM_194⟩
theorem kz_Md_wrong : kMi y_Md_wrong bc_Md_wrong 3 none 2 := ⟨⟨mM_195, mM_189, by decide, by decide, by decide⟩, mM_196, mM_197⟩
theorem kz_Md_byteAt : kMi y_Md_byteAt bc_Md_byteAt 2 (some .int) 1 := ⟨⟨mM_198, mM_189, by decide, by decide, by decide⟩, mM_199, mM_200⟩
theorem kz_Md_isUpper : kMs y_Md_isUpper bc_Md_isUpper 1 (some .boolean) 1 := ⟨⟨mM_201, mM_189, by decide, by decide, by decide⟩, mM_202⟩
theorem kz_Md_isLower : kMs y_Md_isLower bc_Md_isLower 1 (some .boolean) 1 := ⟨⟨mM_203, mM_189, by decide, by decide, by decide⟩, mM_204⟩
theorem kz_Md_isOf : kMs y_Md_isOf bc_Md_isOf 1 (some .boolean) 1 := ⟨⟨mM_205, mM_189, by decide, by decide, by decide⟩, mM_206⟩
theorem kz_Md_next : kMi y_Md_next bc_Md_next 4 none 0 := ⟨⟨mM_207, mM_189, by decide, by decide, by decide⟩, mM_208, mM_209⟩
theorem kz_Md_name : kMi y_Md_name bc_Md_name 3 none 1 := ⟨⟨mM_210, mM_189, by decide, by decide, by decide⟩, mM_211, mM_212⟩
theorem kz_Md_isSign : kMi y_Md_isSign bc_Md_isSign 2 (some .boolean) 1 := ⟨⟨mM_213, mM_189, by decide, by decide, by decide⟩, mM_214, mM_215⟩
theorem kz_Md_cannot : kMi y_Md_cannot bc_Md_cannot 1 none 0 := ⟨⟨mM_216, mM_189, by decide, by decide, by decide⟩, mM_217, mM_218⟩
theorem kz_Md_want : kMi y_Md_want bc_Md_want 2 none 1 := ⟨⟨mM_219, mM_189, by decide, by decide, by decide⟩, mM_220, mM_221⟩
theorem kz_Md_tell : kMi y_Md_tell bc_Md_tell 3 none 2 := ⟨⟨mM_222, mM_189, by decide, by decide, by decide⟩, mM_223, mM_224⟩
theorem kz_Md_act : kMi y_Md_act bc_Md_act 4 none 3 := ⟨⟨mM_225, mM_189, by decide, by decide, by decide⟩, mM_226, mM_227⟩
theorem kz_Md_node : kMi y_Md_node bc_Md_node 4 (some .int) 3 := ⟨⟨mM_228, mM_189, by decide, by decide, by decide⟩, mM_229, mM_230⟩
theorem kz_Md_count : kMi y_Md_count bc_Md_count 1 none 0 := ⟨⟨mM_231, mM_189, by decide, by decide, by decide⟩, mM_232, mM_233⟩
theorem kz_Md_deeper : kMi y_Md_deeper bc_Md_deeper 1 none 0 := ⟨⟨mM_234, mM_189, by decide, by decide, by decide⟩, mM_235, mM_236⟩
theorem kz_Md_canBegin : kMi y_Md_canBegin bc_Md_canBegin 1 (some .boolean) 0 := ⟨⟨mM_237, mM_189, by decide, by decide, by decide⟩, mM_238, mM_239⟩
theorem kz_Md_open : kMi y_Md_open bc_Md_open 2 none 1 := ⟨⟨mM_240, mM_189, by decide, by decide, by decide⟩, mM_241, mM_242⟩
theorem kz_Md_addOne : kMi y_Md_addOne bc_Md_addOne 4 none 3 := ⟨⟨mM_243, mM_189, by decide, by decide, by decide⟩, mM_244, mM_245⟩
theorem kz_Md_endSome : kMi y_Md_endSome bc_Md_endSome 3 none 0 := ⟨⟨mM_246, mM_189, by decide, by decide, by decide⟩, mM_247, mM_248⟩
theorem kz_Md_beginOne : kMi y_Md_beginOne bc_Md_beginOne 4 none 0 := ⟨⟨mM_249, mM_189, by decide, by decide, by decide⟩, mM_250, mM_251⟩
theorem kz_Md_closeOne : kMi y_Md_closeOne bc_Md_closeOne 4 none 0 := ⟨⟨mM_252, mM_189, by decide, by decide, by decide⟩, mM_253, mM_254⟩
theorem kz_Md_readOne : kMi y_Md_readOne bc_Md_readOne 1 (some .int) 0 := ⟨⟨mM_255, mM_189, by decide, by decide, by decide⟩, mM_256, mM_257⟩
theorem kz_Md_readType : kMi y_Md_readType bc_Md_readType 1 (some .int) 0 := ⟨⟨mM_258, mM_189, by decide, by decide, by decide⟩, mM_259, mM_260⟩
theorem kz_Md_readOpen : kMi y_Md_readOpen bc_Md_readOpen 2 (some .int) 1 := ⟨⟨mM_261, mM_189, by decide, by decide, by decide⟩, mM_262, mM_263⟩
theorem kz_Md_newKind : kMi y_Md_newKind bc_Md_newKind 4 (some .int) 3 := ⟨⟨mM_264, mM_189, by decide, by decide, by decide⟩, mM_265, mM_266⟩
theorem kz_Md_top : kMi y_Md_top bc_Md_top 3 (some .int) 1 := ⟨⟨mM_267, mM_189, by decide, by decide, by decide⟩, mM_268, mM_269⟩
theorem kz_Md_addPart : kMi y_Md_addPart bc_Md_addPart 4 none 1 := ⟨⟨mM_270, mM_189, by decide, by decide, by decide⟩, mM_271, mM_272⟩
theorem kz_Md_openKind : kMi y_Md_openKind bc_Md_openKind 1 none 0 := ⟨⟨mM_273, mM_189, by decide, by decide, by decide⟩, mM_274, mM_275⟩
theorem kz_Md_readKind : kMi y_Md_readKind bc_Md_readKind 2 (some .int) 0 := ⟨⟨mM_276, mM_189, by decide, by decide, by decide⟩, mM_277, mM_278⟩
theorem kz_Md_begin : kMi y_Md_begin bc_Md_begin 1 none 0 := ⟨⟨mM_279, mM_189, by decide, by decide, by decide⟩, mM_280, mM_281⟩
theorem kz_Md_wantName : kMi y_Md_wantName bc_Md_wantName 2 (some .boolean) 1 := ⟨⟨mM_282, mM_189, by decide, by decide, by decide⟩, mM_283, mM_284⟩
theorem kz_Md_readDecl : kMi y_Md_readDecl bc_Md_readDecl 2 none 0 := ⟨⟨mM_285, mM_189, by decide, by decide, by decide⟩, mM_286, mM_287⟩
theorem kz_Md_readWish : kMi y_Md_readWish bc_Md_readWish 1 none 0 := ⟨⟨mM_288, mM_189, by decide, by decide, by decide⟩, mM_289, mM_290⟩
theorem kz_Md_readParam : kMi y_Md_readParam bc_Md_readParam 1 none 0 := ⟨⟨mM_291, mM_189, by decide, by decide, by decide⟩, mM_292, mM_293⟩
theorem kz_Md_readSides : kMi y_Md_readSides bc_Md_readSides 3 none 1 := ⟨⟨mM_294, mM_189, by decide, by decide, by decide⟩, mM_295, mM_296⟩
theorem kz_Md_readCon : kMi y_Md_readCon bc_Md_readCon 2 none 0 := ⟨⟨mM_297, mM_189, by decide, by decide, by decide⟩, mM_298, mM_299⟩
theorem kz_Md_readClass : kMi y_Md_readClass bc_Md_readClass 2 none 0 := ⟨⟨mM_300, mM_189, by decide, by decide, by decide⟩, mM_301, mM_302⟩
theorem kz_Md_readText : kMi y_Md_readText bc_Md_readText 1 none 0 := ⟨⟨mM_303, mM_189, by decide, by decide, by decide⟩, mM_304, mM_305⟩
theorem kz_Md_declOf : kMi y_Md_declOf bc_Md_declOf 4 (some .int) 1 := ⟨⟨mM_306, mM_189, by decide, by decide, by decide⟩, mM_307, mM_308⟩
theorem kz_Md_typeOf : kMi y_Md_typeOf bc_Md_typeOf 4 (some .int) 1 := ⟨⟨mM_309, mM_189, by decide, by decide, by decide⟩, mM_310, mM_311⟩
theorem kz_Md_isParam : kMi y_Md_isParam bc_Md_isParam 5 (some .boolean) 2 := ⟨⟨mM_312, mM_189, by decide, by decide, by decide⟩, mM_313, mM_314⟩
theorem kz_Md_wasTold : kMi y_Md_wasTold bc_Md_wasTold 3 (some .boolean) 1 := ⟨⟨mM_315, mM_189, by decide, by decide, by decide⟩, mM_316, mM_317⟩
theorem kz_Md_isWrongName : kMi y_Md_isWrongName bc_Md_isWrongName 6 (some .boolean) 2 := ⟨⟨mM_318, mM_189, by decide, by decide, by decide⟩, mM_319, mM_320⟩
theorem kz_Md_lookNames : kMi y_Md_lookNames bc_Md_lookNames 3 none 1 := ⟨⟨mM_321, mM_189, by decide, by decide, by decide⟩, mM_322, mM_323⟩
theorem kz_Md_close : kMs y_Md_close bc_Md_close 4 none 1 := ⟨⟨mM_324, mM_189, by decide, by decide, by decide⟩, mM_325⟩
theorem kz_Md_findNeeds : kMi y_Md_findNeeds bc_Md_findNeeds 4 none 0 := ⟨⟨mM_326, mM_189, by decide, by decide, by decide⟩, mM_327, mM_328⟩
theorem kz_Md_lookRings : kMi y_Md_lookRings bc_Md_lookRings 2 none 0 := ⟨⟨mM_329, mM_189, by decide, by decide, by decide⟩, mM_330, mM_331⟩
theorem kz_Md_lookTakes : kMi y_Md_lookTakes bc_Md_lookTakes 3 none 0 := ⟨⟨mM_332, mM_189, by decide, by decide, by decide⟩, mM_333, mM_334⟩
theorem kz_Md_isTogether : kMi y_Md_isTogether bc_Md_isTogether 3 (some .boolean) 2 := ⟨⟨mM_335, mM_189, by decide, by decide, by decide⟩, mM_336, mM_337⟩
theorem kz_Md_canCome : kMi y_Md_canCome bc_Md_canCome 4 (some .boolean) 1 := ⟨⟨mM_338, mM_189, by decide, by decide, by decide⟩, mM_339, mM_340⟩
theorem kz_Md_solveAll : kMi y_Md_solveAll bc_Md_solveAll 4 none 0 := ⟨⟨mM_341, mM_189, by decide, by decide, by decide⟩, mM_342, mM_343⟩
theorem kz_Md_prepare : kMi y_Md_prepare bc_Md_prepare 4 none 1 := ⟨⟨mM_344, mM_189, by decide, by decide, by decide⟩, mM_345, mM_346⟩
theorem kz_Md_kindOfSmall : kMi y_Md_kindOfSmall bc_Md_kindOfSmall 5 (some .int) 2 := ⟨⟨mM_347, mM_189, by decide, by decide, by decide⟩, mM_348, mM_349⟩
theorem kz_Md_layKind : kMi y_Md_layKind bc_Md_layKind 3 none 2 := ⟨⟨mM_350, mM_189, by decide, by decide, by decide⟩, mM_351, mM_352⟩
theorem kz_Md_solve : kMi y_Md_solve bc_Md_solve 4 none 1 := ⟨⟨mM_353, mM_189, by decide, by decide, by decide⟩, mM_354, mM_355⟩
theorem kz_Md_layKindOnce : kMi y_Md_layKindOnce bc_Md_layKindOnce 2 none 1 := ⟨⟨mM_356, mM_189, by decide, by decide, by decide⟩, mM_357, mM_358⟩
theorem kz_Md_doAct : kMi y_Md_doAct bc_Md_doAct 6 none 2 := ⟨⟨mM_359, mM_189, by decide, by decide, by decide⟩, mM_360, mM_361⟩
theorem kz_Md_closeGroup : kMi y_Md_closeGroup bc_Md_closeGroup 4 none 1 := ⟨⟨mM_362, mM_189, by decide, by decide, by decide⟩, mM_363, mM_364⟩
theorem kz_Md_copy : kMs y_Md_copy bc_Md_copy 4 none 3 := ⟨⟨mM_365, mM_189, by decide, by decide, by decide⟩, mM_366⟩
theorem kz_Md_equate : kMi y_Md_equate bc_Md_equate 4 none 3 := ⟨⟨mM_367, mM_189, by decide, by decide, by decide⟩, mM_368, mM_369⟩
theorem kz_Md_join : kMi y_Md_join bc_Md_join 6 (some .boolean) 2 := ⟨⟨mM_370, mM_189, by decide, by decide, by decide⟩, mM_371, mM_372⟩
theorem kz_Md_unmark : kMi y_Md_unmark bc_Md_unmark 2 none 0 := ⟨⟨mM_373, mM_189, by decide, by decide, by decide⟩, mM_374, mM_375⟩
theorem kz_Md_goesRound : kMi y_Md_goesRound bc_Md_goesRound 4 (some .boolean) 1 := ⟨⟨mM_376, mM_189, by decide, by decide, by decide⟩, mM_377, mM_378⟩
theorem kz_Md_isOnWay : kMi y_Md_isOnWay bc_Md_isOnWay 2 (some .boolean) 1 := ⟨⟨mM_379, mM_189, by decide, by decide, by decide⟩, mM_380, mM_381⟩
theorem kz_Md_hasOpen : kMi y_Md_hasOpen bc_Md_hasOpen 4 (some .boolean) 1 := ⟨⟨mM_382, mM_189, by decide, by decide, by decide⟩, mM_383, mM_384⟩
theorem kz_Md_put : kMi y_Md_put bc_Md_put 2 none 1 := ⟨⟨mM_385, mM_189, by decide, by decide, by decide⟩, mM_386, mM_387⟩
theorem kz_Md_commit : kMi y_Md_commit bc_Md_commit 2 (some .int) 0 := ⟨⟨mM_388, mM_189, by decide, by decide, by decide⟩, mM_389, mM_390⟩
theorem kz_Md_giveLetters : kMi y_Md_giveLetters bc_Md_giveLetters 4 none 1 := ⟨⟨mM_391, mM_189, by decide, by decide, by decide⟩, mM_392, mM_393⟩
theorem kz_Md_layKindOut : kMi y_Md_layKindOut bc_Md_layKindOut 4 none 1 := ⟨⟨mM_394, mM_189, by decide, by decide, by decide⟩, mM_395, mM_396⟩
theorem kz_Md_layKindOf : kMi y_Md_layKindOf bc_Md_layKindOf 5 (some .int) 2 := ⟨⟨mM_397, mM_189, by decide, by decide, by decide⟩, mM_398, mM_399⟩
theorem kz_Md_showKind : kMi y_Md_showKind bc_Md_showKind 2 (some .int) 1 := ⟨⟨mM_400, mM_189, by decide, by decide, by decide⟩, mM_401, mM_402⟩
theorem kz_Md_read : kMi y_Md_read bc_Md_read 1 (some .int) 0 := ⟨⟨mM_403, mM_189, by decide, by decide, by decide⟩, mM_404, mM_405⟩
theorem kz_Md_place : kMi y_Md_place bc_Md_place 1 (some .int) 0 := ⟨⟨mM_406, mM_189, by decide, by decide, by decide⟩, mM_407, mM_408⟩
theorem kz_Md_side : kMi y_Md_side bc_Md_side 3 (some .int) 1 := ⟨⟨mM_409, mM_189, by decide, by decide, by decide⟩, mM_410, mM_411⟩
theorem kz_Md_out : kMi y_Md_out bc_Md_out 2 (some .int) 1 := ⟨⟨mM_412, mM_189, by decide, by decide, by decide⟩, mM_413, mM_414⟩
theorem kz_Md_isDecl : kMi y_Md_isDecl bc_Md_isDecl 2 (some .boolean) 1 := ⟨⟨mM_415, mM_189, by decide, by decide, by decide⟩, mM_416, mM_417⟩
theorem kz_Md_told : kMi y_Md_told bc_Md_told 3 (some .int) 2 := ⟨⟨mM_418, mM_189, by decide, by decide, by decide⟩, mM_419, mM_420⟩
theorem kz_Md_kindOf : kMi y_Md_kindOf bc_Md_kindOf 3 (some .int) 2 := ⟨⟨mM_421, mM_189, by decide, by decide, by decide⟩, mM_422, mM_423⟩
theorem kz_Md_groups : kMi y_Md_groups bc_Md_groups 1 (some .int) 0 := ⟨⟨mM_424, mM_189, by decide, by decide, by decide⟩, mM_425, mM_426⟩
theorem kz_Md_member : kMi y_Md_member bc_Md_member 5 (some .int) 2 := ⟨⟨mM_427, mM_189, by decide, by decide, by decide⟩, mM_428, mM_429⟩
theorem kz_Md_needs : kMi y_Md_needs bc_Md_needs 3 (some .int) 2 := ⟨⟨mM_430, mM_189, by decide, by decide, by decide⟩, mM_431, mM_432⟩
theorem kz_Md_readAsked : kMi y_Md_readAsked bc_Md_readAsked 4 (some .int) 1 := ⟨⟨mM_433, mM_189, by decide, by decide, by decide⟩, mM_434, mM_435⟩
theorem kz_Md_kind : kMi y_Md_kind bc_Md_kind 2 (some .int) 0 := ⟨⟨mM_436, mM_189, by decide, by decide, by decide⟩, mM_437, mM_438⟩
theorem kz_Md_lay : kMi y_Md_lay bc_Md_lay 6 (some .int) 2 := ⟨⟨mM_439, mM_189, by decide, by decide, by decide⟩, mM_440, mM_441⟩
theorem kz_Md_end : kMi y_Md_end bc_Md_end 4 (some .int) 1 := ⟨⟨mM_442, mM_189, by decide, by decide, by decide⟩, mM_443, mM_444⟩
theorem kz_Md_synonym : kMi y_Md_synonym bc_Md_synonym 3 (some .int) 1 := ⟨⟨mM_445, mM_189, by decide, by decide, by decide⟩, mM_446, mM_447⟩
theorem kz_Md_add : kMi y_Md_add bc_Md_add 2 none 1 := ⟨⟨mM_448, mM_189, by decide, by decide, by decide⟩, mM_449, mM_450⟩
theorem kz_Md_addSpan : kMi y_Md_addSpan bc_Md_addSpan 4 none 2 := ⟨⟨mM_451, mM_189, by decide, by decide, by decide⟩, mM_452, mM_453⟩
theorem kz_Md_behind : kMi y_Md_behind bc_Md_behind 5 (some .int) 2 := ⟨⟨mM_454, mM_189, by decide, by decide, by decide⟩, mM_455, mM_456⟩
theorem kz_Md_replace : kMi y_Md_replace bc_Md_replace 8 none 2 := ⟨⟨mM_457, mM_189, by decide, by decide, by decide⟩, mM_458, mM_459⟩
theorem kz_Md_isPlain : kMi y_Md_isPlain bc_Md_isPlain 5 (some .boolean) 1 := ⟨⟨mM_460, mM_189, by decide, by decide, by decide⟩, mM_461, mM_462⟩
theorem kz_Md_putName : kMi y_Md_putName bc_Md_putName 4 none 1 := ⟨⟨mM_463, mM_189, by decide, by decide, by decide⟩, mM_464, mM_465⟩
theorem kz_Md_layRowOut : kMi y_Md_layRowOut bc_Md_layRowOut 3 none 0 := ⟨⟨mM_466, mM_189, by decide, by decide, by decide⟩, mM_467, mM_468⟩
theorem kz_Md_layItem : kMi y_Md_layItem bc_Md_layItem 6 (some .int) 3 := ⟨⟨mM_469, mM_189, by decide, by decide, by decide⟩, mM_470, mM_471⟩
theorem kz_Md_plain : kMi y_Md_plain bc_Md_plain 2 (some .int) 0 := ⟨⟨mM_472, mM_189, by decide, by decide, by decide⟩, mM_473, mM_474⟩
theorem kz_Md_same : kMi y_Md_same bc_Md_same 5 (some .int) 0 := ⟨⟨mM_475, mM_189, by decide, by decide, by decide⟩, mM_476, mM_477⟩
theorem kb_m32 : (Int8.ofInt (-32)).toInt32 = (-32 : Int32) := by decide
theorem kb_m41 : (Int8.ofInt (-41)).toInt32 = (-41 : Int32) := by decide
theorem kb_m45 : (Int8.ofInt (-45)).toInt32 = (-45 : Int32) := by decide
theorem kb_m93 : (Int8.ofInt (-93)).toInt32 = (-93 : Int32) := by decide
theorem kb_12 : (Int8.ofInt 12).toInt32 = (12 : Int32) := by decide
theorem kb_17 : (Int8.ofInt 17).toInt32 = (17 : Int32) := by decide
theorem kb_25 : (Int8.ofInt 25).toInt32 = (25 : Int32) := by decide
theorem ki_m2 : Int32.ofInt (-2) = (-2 : Int32) := by decide
theorem ks_1000 : (Int16.ofInt 1000).toInt32 = (1000 : Int32) := by decide
theorem ks_1001 : (Int16.ofInt 1001).toInt32 = (1001 : Int32) := by decide
theorem ks_1100 : (Int16.ofInt 1100).toInt32 = (1100 : Int32) := by decide
theorem ks_256 : (Int16.ofInt 256).toInt32 = (256 : Int32) := by decide
theorem ks_5990 : (Int16.ofInt 5990).toInt32 = (5990 : Int32) := by decide
def xTr (_ : State) : Prop := True
theorem xTr_P {A : Nat → Prop} : xP A xTr := fun _ _ _ _ _ _ => trivial
