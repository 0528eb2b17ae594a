/-! The world of KindRounds, its cells. Written by program (wip/gen). -/
def fs_Ro (ad : Nat → Nat) (σ : zS) (x : Nat) : List Value := [.ref (ad (rA x 0)), .ref (ad (rA x 1)), .ref (ad (rA x 2)), .ref (ad (rA x 3)), .int (mi σ (100 * x + 4)), .ref (ad (rA x 4)), .ref (ad (rA x 5)), .int (mi σ (100 * x + 7))]
def fs_Li (ad : Nat → Nat) (σ : zS) (x : Nat) : List Value := [.ref (ad (lA x)), .int (mi σ (100 * x + 1))]
abbrev clC : List vw_C := [("KindRounds", T_Q, 12), ("KindRounds$Tape", T_Ta, 7), ("KindRounds$Fault", T_Fa, 4), ("KindRounds$Kinds", T_Ki, 11), ("KindRounds$Text", T_Te, 17), ("KindRounds$Mentions", T_Me, 6), ("KindRounds$Parser", T_Pa, 7), ("KindRounds$Checker", T_Ch, 4), ("KindRounds$Solver", T_So, 16), ("KindRounds$Plainer", T_Pl, 9), ("KindRounds$Row", T_Ro, 8), ("KindRounds$Line", T_Li, 2), ("KindRoundsModel", T_Md, 99)]
def wdC (ad : Nat → Nat) (cA : Nat → ClassId) (σ : zS) : va_W := [
  (ad 0, .inr (0, [.ref (ad 1), .ref (ad 2), .ref (ad 3), .ref (ad 4), .ref (ad 5), .ref (ad 11), .ref (ad 6), .ref (ad 7), .ref (ad 8), .ref (ad 9), .ref (ad (gr σ 10)), .ref (ad (gr σ 11))])),
  (ad 1, .inr (1, [.ref (ad 19), .int (gi σ 101), .ref (ad 20), .ref (ad 21), .ref (ad 22), .int (gi σ 105), .int (gi σ 106)])),
  (ad 2, .inr (2, [.int (gi σ 200), .int (gi σ 201), .ref (ad 15), .ref (ad 16)])),
  (ad 3, .inr (3, [.ref (ad 23), .ref (ad 24), .ref (ad 25), .ref (ad 26), .ref (ad 27), .ref (ad 28), .int (gi σ 306), .int (gi σ 307), .int (gi σ 308), .int (gi σ 309), .int (gi σ 310)])),
  (ad 4, .inr (4, [.int (gi σ 400), .ref (ad 29), .ref (ad 30), .ref (ad 31), .ref (ad 32), .ref (ad 33), .ref (ad 34), .ref (ad 35), .ref (ad 36), .ref (ad 37), .ref (ad 38), .ref (ad 39), .int (gi σ 412), .ref (ad 40), .ref (ad 41), .ref (ad 42), .ref (ad 10)])),
  (ad 5, .inr (5, [.ref (ad 43), .ref (ad 44), .ref (ad 45), .ref (ad 46), .ref (ad 47), .int (gi σ 505)])),
  (ad 6, .inr (6, [.ref (ad 1), .ref (ad 4), .ref (ad 5), .ref (ad 3), .ref (ad 2), .ref (ad (gr σ 605)), .int (gi σ 606)])),
  (ad 7, .inr (7, [.ref (ad 4), .ref (ad 5), .ref (ad 2), .ref (ad 48)])),
  (ad 8, .inr (8, [.ref (ad 4), .ref (ad 5), .ref (ad 3), .ref (ad 2), .ref (ad 49), .ref (ad 50), .ref (ad 51), .int (gi σ 807), .ref (ad 52), .ref (ad 53), .ref (ad 54), .int (gi σ 811), .ref (ad 55), .ref (ad 56), .int (gi σ 814), .int (gi σ 815)])),
  (ad 9, .inr (9, [.ref (ad 4), .ref (ad (gr σ 901)), .ref (ad (gr σ 902)), .ref (ad (gr σ 903)), .ref (ad 57), .ref (ad 58), .ref (ad 59), .int (gi σ 907), .int (gi σ 908)])),
  (ad 10, .inr (10, fs_Ro ad σ 10)),
  (ad 11, .inr (10, fs_Ro ad σ 11)),
  (ad 12, .inr (10, fs_Ro ad σ 12)),
  (ad 13, .inr (10, fs_Ro ad σ 13)),
  (ad 14, .inr (10, fs_Ro ad σ 14)),
  (ad 15, .inr (11, fs_Li ad σ 15)),
  (ad 16, .inr (11, fs_Li ad σ 16)),
  (ad 17, .inr (11, fs_Li ad σ 17)),
  (ad 18, .inr (11, fs_Li ad σ 18)),
  (ad 19, .inl (cA 19, 1200, .inl (ga σ 19))),
  (ad 20, .inl (cA 20, 1201, .inl (ga σ 20))),
  (ad 21, .inl (cA 21, 1201, .inr (.inl (gb σ 21)))),
  (ad 22, .inl (cA 22, 1201, .inl (ga σ 22))),
  (ad 23, .inl (cA 23, 1713, .inl (ga σ 23))),
  (ad 24, .inl (cA 24, 1713, .inl (ga σ 24))),
  (ad 25, .inl (cA 25, 1713, .inl (ga σ 25))),
  (ad 26, .inl (cA 26, 1713, .inl (ga σ 26))),
  (ad 27, .inl (cA 27, 1713, .inl (ga σ 27))),
  (ad 28, .inl (cA 28, 3434, .inl (ga σ 28))),
  (ad 29, .inl (cA 29, 16, .inl (ga σ 29))),
  (ad 30, .inl (cA 30, 16, .inr (.inl (gb σ 30)))),
  (ad 31, .inl (cA 31, 16, .inl (ga σ 31))),
  (ad 32, .inl (cA 32, 16, .inl (ga σ 32))),
  (ad 33, .inl (cA 33, 48, .inr (.inl (gb σ 33)))),
  (ad 34, .inl (cA 34, 16, .inl (ga σ 34))),
  (ad 35, .inl (cA 35, 16, .inl (ga σ 35))),
  (ad 36, .inl (cA 36, 16, .inl (ga σ 36))),
  (ad 37, .inl (cA 37, 16, .inl (ga σ 37))),
  (ad 38, .inl (cA 38, 16, .inl (ga σ 38))),
  (ad 39, .inl (cA 39, 16, .inl (ga σ 39))),
  (ad 40, .inl (cA 40, 16, .inl (ga σ 40))),
  (ad 41, .inl (cA 41, 48, .inl (ga σ 41))),
  (ad 42, .inl (cA 42, 16, .inl (ga σ 42))),
  (ad 43, .inl (cA 43, 600, .inl (ga σ 43))),
  (ad 44, .inl (cA 44, 600, .inr (.inl (gb σ 44)))),
  (ad 45, .inl (cA 45, 600, .inl (ga σ 45))),
  (ad 46, .inl (cA 46, 600, .inl (ga σ 46))),
  (ad 47, .inl (cA 47, 600, .inl (ga σ 47))),
  (ad 48, .inl (cA 48, 16, .inl (ga σ 48))),
  (ad 49, .inl (cA 49, 216, .inl (ga σ 49))),
  (ad 50, .inl (cA 50, 216, .inl (ga σ 50))),
  (ad 51, .inl (cA 51, 216, .inl (ga σ 51))),
  (ad 52, .inl (cA 52, 200, .inl (ga σ 52))),
  (ad 53, .inl (cA 53, 200, .inl (ga σ 53))),
  (ad 54, .inl (cA 54, 200, .inl (ga σ 54))),
  (ad 55, .inl (cA 55, 200, .inr (.inl (gb σ 55)))),
  (ad 56, .inl (cA 56, 200, .inl (ga σ 56))),
  (ad 57, .inl (cA 57, 4, .inl (ga σ 57))),
  (ad 58, .inl (cA 58, 200, .inl (ga σ 58))),
  (ad 59, .inl (cA 59, 200, .inl (ga σ 59))),
  (ad 60, .inl (cA 60, 200, .inl (ma σ 60))),
  (ad 61, .inl (cA 61, 200, .inr (.inl (mb σ 61)))),
  (ad 62, .inl (cA 62, 200, .inl (ma σ 62))),
  (ad 63, .inl (cA 63, 200, .inl (ma σ 63))),
  (ad 64, .inl (cA 64, 201, .inl (ma σ 64))),
  (ad 65, .inl (cA 65, 201, .inl (ma σ 65))),
  (ad 66, .inl (cA 66, 200, .inl (ma σ 66))),
  (ad 67, .inl (cA 67, 200, .inr (.inl (mb σ 67)))),
  (ad 68, .inl (cA 68, 200, .inl (ma σ 68))),
  (ad 69, .inl (cA 69, 200, .inl (ma σ 69))),
  (ad 70, .inl (cA 70, 201, .inl (ma σ 70))),
  (ad 71, .inl (cA 71, 201, .inl (ma σ 71))),
  (ad 72, .inl (cA 72, 200, .inl (ma σ 72))),
  (ad 73, .inl (cA 73, 200, .inr (.inl (mb σ 73)))),
  (ad 74, .inl (cA 74, 200, .inl (ma σ 74))),
  (ad 75, .inl (cA 75, 200, .inl (ma σ 75))),
  (ad 76, .inl (cA 76, 201, .inl (ma σ 76))),
  (ad 77, .inl (cA 77, 201, .inl (ma σ 77))),
  (ad 78, .inl (cA 78, 200, .inl (ma σ 78))),
  (ad 79, .inl (cA 79, 200, .inr (.inl (mb σ 79)))),
  (ad 80, .inl (cA 80, 200, .inl (ma σ 80))),
  (ad 81, .inl (cA 81, 200, .inl (ma σ 81))),
  (ad 82, .inl (cA 82, 201, .inl (ma σ 82))),
  (ad 83, .inl (cA 83, 201, .inl (ma σ 83))),
  (ad 84, .inl (cA 84, 200, .inl (ma σ 84))),
  (ad 85, .inl (cA 85, 200, .inr (.inl (mb σ 85)))),
  (ad 86, .inl (cA 86, 200, .inl (ma σ 86))),
  (ad 87, .inl (cA 87, 200, .inl (ma σ 87))),
  (ad 88, .inl (cA 88, 201, .inl (ma σ 88))),
  (ad 89, .inl (cA 89, 201, .inl (ma σ 89))),
  (ad 90, .inl (cA 90, 2400, .inl (ma σ 90))),
  (ad 91, .inl (cA 91, 2400, .inl (ma σ 91))),
  (ad 92, .inl (cA 92, 2400, .inl (ma σ 92))),
  (ad 93, .inl (cA 93, 2400, .inl (ma σ 93)))]
def tysC (cA : Nat → ClassId) : List (ClassId × FieldType) := [(cA 19, .int), (cA 20, .int), (cA 21, .long), (cA 22, .int), (cA 23, .int), (cA 24, .int), (cA 25, .int), (cA 26, .int), (cA 27, .int), (cA 28, .int), (cA 29, .int), (cA 30, .long), (cA 31, .int), (cA 32, .int), (cA 33, .long), (cA 34, .int), (cA 35, .int), (cA 36, .int), (cA 37, .int), (cA 38, .int), (cA 39, .int), (cA 40, .int), (cA 41, .int), (cA 42, .int), (cA 43, .int), (cA 44, .long), (cA 45, .int), (cA 46, .int), (cA 47, .int), (cA 48, .int), (cA 49, .int), (cA 50, .int), (cA 51, .int), (cA 52, .int), (cA 53, .int), (cA 54, .int), (cA 55, .long), (cA 56, .int), (cA 57, .int), (cA 58, .int), (cA 59, .int), (cA 60, .int), (cA 61, .long), (cA 62, .int), (cA 63, .int), (cA 64, .int), (cA 65, .int), (cA 66, .int), (cA 67, .long), (cA 68, .int), (cA 69, .int), (cA 70, .int), (cA 71, .int), (cA 72, .int), (cA 73, .long), (cA 74, .int), (cA 75, .int), (cA 76, .int), (cA 77, .int), (cA 78, .int), (cA 79, .long), (cA 80, .int), (cA 81, .int), (cA 82, .int), (cA 83, .int), (cA 84, .int), (cA 85, .long), (cA 86, .int), (cA 87, .int), (cA 88, .int), (cA 89, .int), (cA 90, .byte), (cA 91, .byte), (cA 92, .byte), (cA 93, .byte)]
def owC (ad : Nat → Nat) : Nat → Prop := fun q => ∃ k, k < 94 ∧ q = ad k
abbrev ZC (D : va_G) (ad : Nat → Nat) (cA : Nat → ClassId) (p : Program) (l : Launch) (e : Env) (R : Room) (s : State) (m : MethodId) (args : Array Value) (below : List Frame) (meth : Method) (c : Code) (nL : Nat) (Q : State → Prop) (pc : Nat) (lv : List (Nat × Value)) (st : List Value) (σ : zS) : Prop := Z (wdC ad cA) D clC (owC ad) p l e R s m args below meth c nL Q pc lv st σ
abbrev CC (D : va_G) (ad : Nat → Nat) (cA : Nat → ClassId) (X : State → Prop) (p : Program) (s : State) (m : MethodId) (args : Array Value) (meth : Method) (c : Code) (cc : ByteArray) (own : String) (nL : Nat) : Prop := zC (wdC ad cA) D clC (tysC cA) (owC ad) X p s m args meth c cc own nL
abbrev qiC (D : va_G) (ad : Nat → Nat) (cA : Nat → ClassId) (below : List Frame) (args : Array Value) (s : State) (r : Int32) (σ' : zS) : State → Prop := MQ below (kQi (wdC ad cA) D clC (tysC cA) (owC ad) r σ') args s 0 0 (owC ad)
abbrev qlC (D : va_G) (ad : Nat → Nat) (cA : Nat → ClassId) (below : List Frame) (args : Array Value) (s : State) (r : Int64) (σ' : zS) : State → Prop := MQ below (kQl (wdC ad cA) D clC (tysC cA) (owC ad) r σ') args s 0 0 (owC ad)
abbrev qvC (D : va_G) (ad : Nat → Nat) (cA : Nat → ClassId) (below : List Frame) (args : Array Value) (s : State) (σ' : zS) : State → Prop := MQ below (kQv (wdC ad cA) D clC (tysC cA) (owC ad) σ') args s 0 0 (owC ad)
abbrev kIC (l : Launch) (D : va_G) (ad : Nat → Nat) (cA : Nat → ClassId) (X : State → Prop) (y : MethodName) (cc : ByteArray) (nL : Nat) (ty : FieldType) (rk : Nat) (av : List Value) (σ : zS) (r : Int32) (σ' : zS) : Prop := kI l (wdC ad cA) D clC (tysC cA) (owC ad) X y cc nL ty rk av σ r σ'
abbrev kLC (l : Launch) (D : va_G) (ad : Nat → Nat) (cA : Nat → ClassId) (X : State → Prop) (y : MethodName) (cc : ByteArray) (nL : Nat) (rk : Nat) (av : List Value) (σ : zS) (r : Int64) (σ' : zS) : Prop := kL l (wdC ad cA) D clC (tysC cA) (owC ad) X y cc nL rk av σ r σ'
abbrev kVC (l : Launch) (D : va_G) (ad : Nat → Nat) (cA : Nat → ClassId) (X : State → Prop) (y : MethodName) (cc : ByteArray) (nL : Nat) (rk : Nat) (av : List Value) (σ : zS) (σ' : zS) : Prop := kV l (wdC ad cA) D clC (tysC cA) (owC ad) X y cc nL rk av σ σ'
set_option maxHeartbeats 4000000 in
set_option maxRecDepth 100000 in
theorem arC_isMa {ad : Nat → Nat} {cA : Nat → ClassId} {σ : zS} {x : Nat} (h : isMa x = true) : (wdC ad cA σ)[x]? = some (ad x, .inl (cA x, 1713, .inl (ga σ x))) := by
  rcases isMa_or h with rfl <;> rfl
set_option maxHeartbeats 4000000 in
set_option maxRecDepth 100000 in
theorem atC_isMa {cA : Nat → ClassId} {x : Nat} (h : isMa x = true) : (tysC cA)[x - 19]? = some (cA x, .int) := by
  rcases isMa_or h with rfl <;> rfl
set_option maxHeartbeats 4000000 in
set_option maxRecDepth 100000 in
theorem aSC_isMa {ad : Nat → Nat} {cA : Nat → ClassId} {σ : zS} {x : Nat} (h : isMa x = true) {f : Nat → Int32} : (wdC ad cA σ).set x (ad x, .inl (cA x, 1713, .inl f)) = wdC ad cA (sA σ x f) := by
  rcases isMa_or h with rfl <;> rfl
set_option maxHeartbeats 4000000 in
set_option maxRecDepth 100000 in
theorem alC_isMa {D : va_G} {ad : Nat → Nat} {cA : Nat → ClassId} {X : State → Prop} {p : Program} {l : Launch} {e : Env} {R : Room} {s : State} {m : MethodId} {args : Array Value} {below : List Frame} {meth : Method} {c : Code} {cc : ByteArray} {nL : Nat} {Q : State → Prop} {pc : Nat} {lv : List (Nat × Value)} {st : List Value} {σ : zS} {own : String} (C : CC D ad cA X p s m args meth c cc own nL) {x : Nat} (hx : isMa x = true) {i : Int32} {v : Int32} (hv : ga σ x i.toNatClampNeg = v) (hin : inb i 1713 = true) (hd : decode cc pc = .ok (.iaload, 1)) (k : ZC D ad cA p l e R s m args below meth c nL Q (pc + 1) lv (.int v :: st) σ) : ZC D ad cA p l e R s m args below meth c nL Q pc lv (.int i :: .ref (ad x) :: st) σ := by
  subst hv
  exact z_iald C (t0 := x - 19) (arC_isMa hx) (atC_isMa hx) hin hd k
set_option maxHeartbeats 4000000 in
set_option maxRecDepth 100000 in
theorem asC_isMa {D : va_G} {ad : Nat → Nat} {cA : Nat → ClassId} {X : State → Prop} {p : Program} {l : Launch} {e : Env} {R : Room} {s : State} {m : MethodId} {args : Array Value} {below : List Frame} {meth : Method} {c : Code} {cc : ByteArray} {nL : Nat} {Q : State → Prop} {pc : Nat} {lv : List (Nat × Value)} {st : List Value} {σ : zS} {own : String} (C : CC D ad cA X p s m args meth c cc own nL) {x : Nat} (hx : isMa x = true) {i : Int32} {v : Int32} (hin : inb i 1713 = true) (hd : decode cc pc = .ok (.iastore, 1)) (k : ZC D ad cA p l e R s m args below meth c nL Q (pc + 1) lv st (sa σ x i.toNatClampNeg v)) : ZC D ad cA p l e R s m args below meth c nL Q pc lv (.int v :: .int i :: .ref (ad x) :: st) σ :=
  z_iast C (t0 := x - 19) (arC_isMa hx) (atC_isMa hx) hin (aSC_isMa hx) hd k
set_option maxHeartbeats 4000000 in
set_option maxRecDepth 100000 in
theorem oC_1 {ad : Nat → Nat} {cA : Nat → ClassId} {σ : zS} : (wdC ad cA σ)[1]? = some (ad 1, .inr (1, [.ref (ad 19), .int (gi σ 101), .ref (ad 20), .ref (ad 21), .ref (ad 22), .int (gi σ 105), .int (gi σ 106)])) := rfl
set_option maxHeartbeats 4000000 in
set_option maxRecDepth 100000 in
theorem gC_Ta_25 {D : va_G} {ad : Nat → Nat} {cA : Nat → ClassId} {X : State → Prop} {p : Program} {l : Launch} {e : Env} {R : Room} {s : State} {m : MethodId} {args : Array Value} {below : List Frame} {meth : Method} {c : Code} {cc : ByteArray} {nL : Nat} {Q : State → Prop} {pc : Nat} {lv : List (Nat × Value)} {st : List Value} {σ : zS} (C : CC D ad cA X p s m args meth c cc "KindRounds$Tape" nL) {v : Int32} (hv : gi σ 101 = v) (hd : decode cc pc = .ok (.getfield 25, 3)) (k : ZC D ad cA p l e R s m args below meth c nL Q (pc + 3) lv (.int v :: st) σ) : ZC D ad cA p l e R s m args below meth c nL Q pc lv (.ref (ad 1) :: st) σ := by
  subst hv
  exact z_get C 1 mC_1 i_Ta rfl oC_1 (Nat.le_of_ble_eq_true rfl) rfl rfl hd k
set_option maxHeartbeats 4000000 in
set_option maxRecDepth 100000 in
theorem gC_Ta_11 {D : va_G} {ad : Nat → Nat} {cA : Nat → ClassId} {X : State → Prop} {p : Program} {l : Launch} {e : Env} {R : Room} {s : State} {m : MethodId} {args : Array Value} {below : List Frame} {meth : Method} {c : Code} {cc : ByteArray} {nL : Nat} {Q : State → Prop} {pc : Nat} {lv : List (Nat × Value)} {st : List Value} {σ : zS} (C : CC D ad cA X p s m args meth c cc "KindRounds$Tape" nL) (hd : decode cc pc = .ok (.getfield 11, 3)) (k : ZC D ad cA p l e R s m args below meth c nL Q (pc + 3) lv (.ref (ad 19) :: st) σ) : ZC D ad cA p l e R s m args below meth c nL Q pc lv (.ref (ad 1) :: st) σ :=
  z_get C 0 mC_2 i_Ta rfl oC_1 (Nat.le_of_ble_eq_true rfl) rfl rfl hd k
set_option maxHeartbeats 4000000 in
set_option maxRecDepth 100000 in
theorem alC_19 {D : va_G} {ad : Nat → Nat} {cA : Nat → ClassId} {X : State → Prop} {p : Program} {l : Launch} {e : Env} {R : Room} {s : State} {m : MethodId} {args : Array Value} {below : List Frame} {meth : Method} {c : Code} {cc : ByteArray} {nL : Nat} {Q : State → Prop} {pc : Nat} {lv : List (Nat × Value)} {st : List Value} {σ : zS} {own : String} (C : CC D ad cA X p s m args meth c cc own nL) {i : Int32} {v : Int32} (hv : ga σ 19 i.toNatClampNeg = v) (hin : inb i 1200 = true) (hd : decode cc pc = .ok (.iaload, 1)) (k : ZC D ad cA p l e R s m args below meth c nL Q (pc + 1) lv (.int v :: st) σ) : ZC D ad cA p l e R s m args below meth c nL Q pc lv (.int i :: .ref (ad 19) :: st) σ := by
  subst hv
  exact z_iald C (t0 := 0) (q0 := 19) rfl rfl hin hd k
set_option maxHeartbeats 4000000 in
set_option maxRecDepth 100000 in
theorem asC_19 {D : va_G} {ad : Nat → Nat} {cA : Nat → ClassId} {X : State → Prop} {p : Program} {l : Launch} {e : Env} {R : Room} {s : State} {m : MethodId} {args : Array Value} {below : List Frame} {meth : Method} {c : Code} {cc : ByteArray} {nL : Nat} {Q : State → Prop} {pc : Nat} {lv : List (Nat × Value)} {st : List Value} {σ : zS} {own : String} (C : CC D ad cA X p s m args meth c cc own nL) {i : Int32} {v : Int32} (hin : inb i 1200 = true) (hd : decode cc pc = .ok (.iastore, 1)) (k : ZC D ad cA p l e R s m args below meth c nL Q (pc + 1) lv st (sa σ 19 i.toNatClampNeg v)) : ZC D ad cA p l e R s m args below meth c nL Q pc lv (.int v :: .int i :: .ref (ad 19) :: st) σ :=
  z_iast C (t0 := 0) (q0 := 19) rfl rfl hin rfl hd k
set_option maxHeartbeats 4000000 in
set_option maxRecDepth 100000 in
theorem pC_Ta_25 {D : va_G} {ad : Nat → Nat} {cA : Nat → ClassId} {X : State → Prop} {p : Program} {l : Launch} {e : Env} {R : Room} {s : State} {m : MethodId} {args : Array Value} {below : List Frame} {meth : Method} {c : Code} {cc : ByteArray} {nL : Nat} {Q : State → Prop} {pc : Nat} {lv : List (Nat × Value)} {st : List Value} {σ : zS} (C : CC D ad cA X p s m args meth c cc "KindRounds$Tape" nL) {v : Int32} (hd : decode cc pc = .ok (.putfield 25, 3)) (k : ZC D ad cA p l e R s m args below meth c nL Q (pc + 3) lv st (si σ 101 v)) : ZC D ad cA p l e R s m args below meth c nL Q pc lv (.int v :: .ref (ad 1) :: st) σ :=
  z_put C 1 (ty := .int) mC_1 i_Ta t_Ta t_Ta_ok n_Ta rfl oC_1 (Nat.le_of_ble_eq_true rfl) rfl rfl rfl rfl rfl (Nat.le_of_ble_eq_true rfl) rfl hd k
set_option maxHeartbeats 4000000 in
set_option maxRecDepth 100000 in
theorem pC_Ta_29 {D : va_G} {ad : Nat → Nat} {cA : Nat → ClassId} {X : State → Prop} {p : Program} {l : Launch} {e : Env} {R : Room} {s : State} {m : MethodId} {args : Array Value} {below : List Frame} {meth : Method} {c : Code} {cc : ByteArray} {nL : Nat} {Q : State → Prop} {pc : Nat} {lv : List (Nat × Value)} {st : List Value} {σ : zS} (C : CC D ad cA X p s m args meth c cc "KindRounds$Tape" nL) {v : Int32} (hd : decode cc pc = .ok (.putfield 29, 3)) (k : ZC D ad cA p l e R s m args below meth c nL Q (pc + 3) lv st (si σ 105 v)) : ZC D ad cA p l e R s m args below meth c nL Q pc lv (.int v :: .ref (ad 1) :: st) σ :=
  z_put C 5 (ty := .int) mC_8 i_Ta t_Ta t_Ta_ok n_Ta rfl oC_1 (Nat.le_of_ble_eq_true rfl) rfl rfl rfl rfl rfl (Nat.le_of_ble_eq_true rfl) rfl hd k
set_option maxHeartbeats 4000000 in
set_option maxRecDepth 100000 in
theorem pC_Ta_32 {D : va_G} {ad : Nat → Nat} {cA : Nat → ClassId} {X : State → Prop} {p : Program} {l : Launch} {e : Env} {R : Room} {s : State} {m : MethodId} {args : Array Value} {below : List Frame} {meth : Method} {c : Code} {cc : ByteArray} {nL : Nat} {Q : State → Prop} {pc : Nat} {lv : List (Nat × Value)} {st : List Value} {σ : zS} (C : CC D ad cA X p s m args meth c cc "KindRounds$Tape" nL) {v : Int32} (hd : decode cc pc = .ok (.putfield 32, 3)) (k : ZC D ad cA p l e R s m args below meth c nL Q (pc + 3) lv st (si σ 106 v)) : ZC D ad cA p l e R s m args below meth c nL Q pc lv (.int v :: .ref (ad 1) :: st) σ :=
  z_put C 6 (ty := .int) mC_9 i_Ta t_Ta t_Ta_ok n_Ta rfl oC_1 (Nat.le_of_ble_eq_true rfl) rfl rfl rfl rfl rfl (Nat.le_of_ble_eq_true rfl) rfl hd k
set_option maxHeartbeats 4000000 in
set_option maxRecDepth 100000 in
theorem gC_Ta_29 {D : va_G} {ad : Nat → Nat} {cA : Nat → ClassId} {X : State → Prop} {p : Program} {l : Launch} {e : Env} {R : Room} {s : State} {m : MethodId} {args : Array Value} {below : List Frame} {meth : Method} {c : Code} {cc : ByteArray} {nL : Nat} {Q : State → Prop} {pc : Nat} {lv : List (Nat × Value)} {st : List Value} {σ : zS} (C : CC D ad cA X p s m args meth c cc "KindRounds$Tape" nL) {v : Int32} (hv : gi σ 105 = v) (hd : decode cc pc = .ok (.getfield 29, 3)) (k : ZC D ad cA p l e R s m args below meth c nL Q (pc + 3) lv (.int v :: st) σ) : ZC D ad cA p l e R s m args below meth c nL Q pc lv (.ref (ad 1) :: st) σ := by
  subst hv
  exact z_get C 5 mC_8 i_Ta rfl oC_1 (Nat.le_of_ble_eq_true rfl) rfl rfl hd k
set_option maxHeartbeats 4000000 in
set_option maxRecDepth 100000 in
theorem gC_Ta_15 {D : va_G} {ad : Nat → Nat} {cA : Nat → ClassId} {X : State → Prop} {p : Program} {l : Launch} {e : Env} {R : Room} {s : State} {m : MethodId} {args : Array Value} {below : List Frame} {meth : Method} {c : Code} {cc : ByteArray} {nL : Nat} {Q : State → Prop} {pc : Nat} {lv : List (Nat × Value)} {st : List Value} {σ : zS} (C : CC D ad cA X p s m args meth c cc "KindRounds$Tape" nL) (hd : decode cc pc = .ok (.getfield 15, 3)) (k : ZC D ad cA p l e R s m args below meth c nL Q (pc + 3) lv (.ref (ad 20) :: st) σ) : ZC D ad cA p l e R s m args below meth c nL Q pc lv (.ref (ad 1) :: st) σ :=
  z_get C 2 mC_13 i_Ta rfl oC_1 (Nat.le_of_ble_eq_true rfl) rfl rfl hd k
set_option maxHeartbeats 4000000 in
set_option maxRecDepth 100000 in
theorem alC_20 {D : va_G} {ad : Nat → Nat} {cA : Nat → ClassId} {X : State → Prop} {p : Program} {l : Launch} {e : Env} {R : Room} {s : State} {m : MethodId} {args : Array Value} {below : List Frame} {meth : Method} {c : Code} {cc : ByteArray} {nL : Nat} {Q : State → Prop} {pc : Nat} {lv : List (Nat × Value)} {st : List Value} {σ : zS} {own : String} (C : CC D ad cA X p s m args meth c cc own nL) {i : Int32} {v : Int32} (hv : ga σ 20 i.toNatClampNeg = v) (hin : inb i 1201 = true) (hd : decode cc pc = .ok (.iaload, 1)) (k : ZC D ad cA p l e R s m args below meth c nL Q (pc + 1) lv (.int v :: st) σ) : ZC D ad cA p l e R s m args below meth c nL Q pc lv (.int i :: .ref (ad 20) :: st) σ := by
  subst hv
  exact z_iald C (t0 := 1) (q0 := 20) rfl rfl hin hd k
set_option maxHeartbeats 4000000 in
set_option maxRecDepth 100000 in
theorem asC_20 {D : va_G} {ad : Nat → Nat} {cA : Nat → ClassId} {X : State → Prop} {p : Program} {l : Launch} {e : Env} {R : Room} {s : State} {m : MethodId} {args : Array Value} {below : List Frame} {meth : Method} {c : Code} {cc : ByteArray} {nL : Nat} {Q : State → Prop} {pc : Nat} {lv : List (Nat × Value)} {st : List Value} {σ : zS} {own : String} (C : CC D ad cA X p s m args meth c cc own nL) {i : Int32} {v : Int32} (hin : inb i 1201 = true) (hd : decode cc pc = .ok (.iastore, 1)) (k : ZC D ad cA p l e R s m args below meth c nL Q (pc + 1) lv st (sa σ 20 i.toNatClampNeg v)) : ZC D ad cA p l e R s m args below meth c nL Q pc lv (.int v :: .int i :: .ref (ad 20) :: st) σ :=
  z_iast C (t0 := 1) (q0 := 20) rfl rfl hin rfl hd k
set_option maxHeartbeats 4000000 in
set_option maxRecDepth 100000 in
theorem gC_Ta_18 {D : va_G} {ad : Nat → Nat} {cA : Nat → ClassId} {X : State → Prop} {p : Program} {l : Launch} {e : Env} {R : Room} {s : State} {m : MethodId} {args : Array Value} {below : List Frame} {meth : Method} {c : Code} {cc : ByteArray} {nL : Nat} {Q : State → Prop} {pc : Nat} {lv : List (Nat × Value)} {st : List Value} {σ : zS} (C : CC D ad cA X p s m args meth c cc "KindRounds$Tape" nL) (hd : decode cc pc = .ok (.getfield 18, 3)) (k : ZC D ad cA p l e R s m args below meth c nL Q (pc + 3) lv (.ref (ad 21) :: st) σ) : ZC D ad cA p l e R s m args below meth c nL Q pc lv (.ref (ad 1) :: st) σ :=
  z_get C 3 mC_14 i_Ta rfl oC_1 (Nat.le_of_ble_eq_true rfl) rfl rfl hd k
set_option maxHeartbeats 4000000 in
set_option maxRecDepth 100000 in
theorem alC_21 {D : va_G} {ad : Nat → Nat} {cA : Nat → ClassId} {X : State → Prop} {p : Program} {l : Launch} {e : Env} {R : Room} {s : State} {m : MethodId} {args : Array Value} {below : List Frame} {meth : Method} {c : Code} {cc : ByteArray} {nL : Nat} {Q : State → Prop} {pc : Nat} {lv : List (Nat × Value)} {st : List Value} {σ : zS} {own : String} (C : CC D ad cA X p s m args meth c cc own nL) {i : Int32} {v : Int64} (hv : gb σ 21 i.toNatClampNeg = v) (hin : inb i 1201 = true) (hd : decode cc pc = .ok (.laload, 1)) (k : ZC D ad cA p l e R s m args below meth c nL Q (pc + 1) lv (.long v :: st) σ) : ZC D ad cA p l e R s m args below meth c nL Q pc lv (.int i :: .ref (ad 21) :: st) σ := by
  subst hv
  exact z_lald C (t0 := 2) (q0 := 21) rfl rfl hin hd k
set_option maxHeartbeats 4000000 in
set_option maxRecDepth 100000 in
theorem asC_21 {D : va_G} {ad : Nat → Nat} {cA : Nat → ClassId} {X : State → Prop} {p : Program} {l : Launch} {e : Env} {R : Room} {s : State} {m : MethodId} {args : Array Value} {below : List Frame} {meth : Method} {c : Code} {cc : ByteArray} {nL : Nat} {Q : State → Prop} {pc : Nat} {lv : List (Nat × Value)} {st : List Value} {σ : zS} {own : String} (C : CC D ad cA X p s m args meth c cc own nL) {i : Int32} {v : Int64} (hin : inb i 1201 = true) (hd : decode cc pc = .ok (.lastore, 1)) (k : ZC D ad cA p l e R s m args below meth c nL Q (pc + 1) lv st (sb σ 21 i.toNatClampNeg v)) : ZC D ad cA p l e R s m args below meth c nL Q pc lv (.long v :: .int i :: .ref (ad 21) :: st) σ :=
  z_last C (t0 := 2) (q0 := 21) rfl rfl hin rfl hd k
set_option maxHeartbeats 4000000 in
set_option maxRecDepth 100000 in
theorem gC_Ta_22 {D : va_G} {ad : Nat → Nat} {cA : Nat → ClassId} {X : State → Prop} {p : Program} {l : Launch} {e : Env} {R : Room} {s : State} {m : MethodId} {args : Array Value} {below : List Frame} {meth : Method} {c : Code} {cc : ByteArray} {nL : Nat} {Q : State → Prop} {pc : Nat} {lv : List (Nat × Value)} {st : List Value} {σ : zS} (C : CC D ad cA X p s m args meth c cc "KindRounds$Tape" nL) (hd : decode cc pc = .ok (.getfield 22, 3)) (k : ZC D ad cA p l e R s m args below meth c nL Q (pc + 3) lv (.ref (ad 22) :: st) σ) : ZC D ad cA p l e R s m args below meth c nL Q pc lv (.ref (ad 1) :: st) σ :=
  z_get C 4 mC_15 i_Ta rfl oC_1 (Nat.le_of_ble_eq_true rfl) rfl rfl hd k
set_option maxHeartbeats 4000000 in
set_option maxRecDepth 100000 in
theorem alC_22 {D : va_G} {ad : Nat → Nat} {cA : Nat → ClassId} {X : State → Prop} {p : Program} {l : Launch} {e : Env} {R : Room} {s : State} {m : MethodId} {args : Array Value} {below : List Frame} {meth : Method} {c : Code} {cc : ByteArray} {nL : Nat} {Q : State → Prop} {pc : Nat} {lv : List (Nat × Value)} {st : List Value} {σ : zS} {own : String} (C : CC D ad cA X p s m args meth c cc own nL) {i : Int32} {v : Int32} (hv : ga σ 22 i.toNatClampNeg = v) (hin : inb i 1201 = true) (hd : decode cc pc = .ok (.iaload, 1)) (k : ZC D ad cA p l e R s m args below meth c nL Q (pc + 1) lv (.int v :: st) σ) : ZC D ad cA p l e R s m args below meth c nL Q pc lv (.int i :: .ref (ad 22) :: st) σ := by
  subst hv
  exact z_iald C (t0 := 3) (q0 := 22) rfl rfl hin hd k
set_option maxHeartbeats 4000000 in
set_option maxRecDepth 100000 in
theorem asC_22 {D : va_G} {ad : Nat → Nat} {cA : Nat → ClassId} {X : State → Prop} {p : Program} {l : Launch} {e : Env} {R : Room} {s : State} {m : MethodId} {args : Array Value} {below : List Frame} {meth : Method} {c : Code} {cc : ByteArray} {nL : Nat} {Q : State → Prop} {pc : Nat} {lv : List (Nat × Value)} {st : List Value} {σ : zS} {own : String} (C : CC D ad cA X p s m args meth c cc own nL) {i : Int32} {v : Int32} (hin : inb i 1201 = true) (hd : decode cc pc = .ok (.iastore, 1)) (k : ZC D ad cA p l e R s m args below meth c nL Q (pc + 1) lv st (sa σ 22 i.toNatClampNeg v)) : ZC D ad cA p l e R s m args below meth c nL Q pc lv (.int v :: .int i :: .ref (ad 22) :: st) σ :=
  z_iast C (t0 := 3) (q0 := 22) rfl rfl hin rfl hd k
set_option maxHeartbeats 4000000 in
set_option maxRecDepth 100000 in
theorem gC_Ta_32 {D : va_G} {ad : Nat → Nat} {cA : Nat → ClassId} {X : State → Prop} {p : Program} {l : Launch} {e : Env} {R : Room} {s : State} {m : MethodId} {args : Array Value} {below : List Frame} {meth : Method} {c : Code} {cc : ByteArray} {nL : Nat} {Q : State → Prop} {pc : Nat} {lv : List (Nat × Value)} {st : List Value} {σ : zS} (C : CC D ad cA X p s m args meth c cc "KindRounds$Tape" nL) {v : Int32} (hv : gi σ 106 = v) (hd : decode cc pc = .ok (.getfield 32, 3)) (k : ZC D ad cA p l e R s m args below meth c nL Q (pc + 3) lv (.int v :: st) σ) : ZC D ad cA p l e R s m args below meth c nL Q pc lv (.ref (ad 1) :: st) σ := by
  subst hv
  exact z_get C 6 mC_9 i_Ta rfl oC_1 (Nat.le_of_ble_eq_true rfl) rfl rfl hd k
set_option maxHeartbeats 4000000 in
set_option maxRecDepth 100000 in
theorem oC_Li {ad : Nat → Nat} {cA : Nat → ClassId} {σ : zS} {x : Nat} (h : isLine x = true) : (wdC ad cA σ)[x]? = some (ad x, .inr (11, fs_Li ad σ x)) := by
  rcases isLine_or h with rfl | rfl | rfl | rfl <;> rfl
set_option maxHeartbeats 4000000 in
set_option maxRecDepth 100000 in
theorem pC_Li_13 {D : va_G} {ad : Nat → Nat} {cA : Nat → ClassId} {X : State → Prop} {p : Program} {l : Launch} {e : Env} {R : Room} {s : State} {m : MethodId} {args : Array Value} {below : List Frame} {meth : Method} {c : Code} {cc : ByteArray} {nL : Nat} {Q : State → Prop} {pc : Nat} {lv : List (Nat × Value)} {st : List Value} {σ : zS} (C : CC D ad cA X p s m args meth c cc "KindRounds$Line" nL) {x : Nat} (hx : isLine x = true) {v : Int32} (hd : decode cc pc = .ok (.putfield 13, 3)) (k : ZC D ad cA p l e R s m args below meth c nL Q (pc + 3) lv st (ti σ (100 * x + 1) v)) : ZC D ad cA p l e R s m args below meth c nL Q pc lv (.int v :: .ref (ad x) :: st) σ :=
  z_put C 1 (ty := .int) mC_20 i_Li t_Li t_Li_ok n_Li rfl (oC_Li hx) (Nat.le_of_ble_eq_true rfl) rfl rfl rfl rfl rfl (Nat.le_of_ble_eq_true rfl) (by rcases isLine_or hx with rfl | rfl | rfl | rfl <;> rfl) hd k
set_option maxHeartbeats 4000000 in
set_option maxRecDepth 100000 in
theorem gC_Li_13 {D : va_G} {ad : Nat → Nat} {cA : Nat → ClassId} {X : State → Prop} {p : Program} {l : Launch} {e : Env} {R : Room} {s : State} {m : MethodId} {args : Array Value} {below : List Frame} {meth : Method} {c : Code} {cc : ByteArray} {nL : Nat} {Q : State → Prop} {pc : Nat} {lv : List (Nat × Value)} {st : List Value} {σ : zS} (C : CC D ad cA X p s m args meth c cc "KindRounds$Line" nL) {x : Nat} (hx : isLine x = true) {v : Int32} (hv : mi σ (100 * x + 1) = v) (hd : decode cc pc = .ok (.getfield 13, 3)) (k : ZC D ad cA p l e R s m args below meth c nL Q (pc + 3) lv (.int v :: st) σ) : ZC D ad cA p l e R s m args below meth c nL Q pc lv (.ref (ad x) :: st) σ := by
  subst hv
  exact z_get C 1 mC_20 i_Li rfl (oC_Li hx) (Nat.le_of_ble_eq_true rfl) rfl rfl hd k
set_option maxHeartbeats 4000000 in
set_option maxRecDepth 100000 in
theorem gC_Li_9 {D : va_G} {ad : Nat → Nat} {cA : Nat → ClassId} {X : State → Prop} {p : Program} {l : Launch} {e : Env} {R : Room} {s : State} {m : MethodId} {args : Array Value} {below : List Frame} {meth : Method} {c : Code} {cc : ByteArray} {nL : Nat} {Q : State → Prop} {pc : Nat} {lv : List (Nat × Value)} {st : List Value} {σ : zS} (C : CC D ad cA X p s m args meth c cc "KindRounds$Line" nL) {x : Nat} (hx : isLine x = true) (hd : decode cc pc = .ok (.getfield 9, 3)) (k : ZC D ad cA p l e R s m args below meth c nL Q (pc + 3) lv (.ref (ad (lA x)) :: st) σ) : ZC D ad cA p l e R s m args below meth c nL Q pc lv (.ref (ad x) :: st) σ :=
  z_get C 0 mC_21 i_Li rfl (oC_Li hx) (Nat.le_of_ble_eq_true rfl) rfl rfl hd k
set_option maxHeartbeats 4000000 in
set_option maxRecDepth 100000 in
theorem arC_Li_0 {ad : Nat → Nat} {cA : Nat → ClassId} {σ : zS} {x : Nat} (h : isLine x = true) : (wdC ad cA σ)[(lA x)]? = some (ad (lA x), .inl (cA (lA x), 2400, .inl (ma σ (lA x)))) := by
  rcases isLine_or h with rfl | rfl | rfl | rfl <;> rfl
set_option maxHeartbeats 4000000 in
set_option maxRecDepth 100000 in
theorem atC_Li_0 {cA : Nat → ClassId} {x : Nat} (h : isLine x = true) : (tysC cA)[(lA x) - 19]? = some (cA (lA x), .byte) := by
  rcases isLine_or h with rfl | rfl | rfl | rfl <;> rfl
set_option maxHeartbeats 4000000 in
set_option maxRecDepth 100000 in
theorem aSC_Li_0 {ad : Nat → Nat} {cA : Nat → ClassId} {σ : zS} {x : Nat} (h : isLine x = true) {f : Nat → Int32} : (wdC ad cA σ).set (lA x) (ad (lA x), .inl (cA (lA x), 2400, .inl (f))) = wdC ad cA (tA σ (lA x) f) := by
  rcases isLine_or h with rfl | rfl | rfl | rfl <;> rfl
set_option maxHeartbeats 4000000 in
set_option maxRecDepth 100000 in
theorem alC_Li_0 {D : va_G} {ad : Nat → Nat} {cA : Nat → ClassId} {X : State → Prop} {p : Program} {l : Launch} {e : Env} {R : Room} {s : State} {m : MethodId} {args : Array Value} {below : List Frame} {meth : Method} {c : Code} {cc : ByteArray} {nL : Nat} {Q : State → Prop} {pc : Nat} {lv : List (Nat × Value)} {st : List Value} {σ : zS} {own : String} (C : CC D ad cA X p s m args meth c cc own nL) {x : Nat} (hx : isLine x = true) {i : Int32} {v : Int32} (hv : ma σ (lA x) i.toNatClampNeg = v) (hin : inb i 2400 = true) (hd : decode cc pc = .ok (.baload, 1)) (k : ZC D ad cA p l e R s m args below meth c nL Q (pc + 1) lv (.int v :: st) σ) : ZC D ad cA p l e R s m args below meth c nL Q pc lv (.int i :: .ref (ad (lA x)) :: st) σ := by
  subst hv
  exact z_bald C (t0 := (lA x) - 19) (arC_Li_0 hx) (atC_Li_0 hx) hin hd k
set_option maxHeartbeats 4000000 in
set_option maxRecDepth 100000 in
theorem asC_Li_0 {D : va_G} {ad : Nat → Nat} {cA : Nat → ClassId} {X : State → Prop} {p : Program} {l : Launch} {e : Env} {R : Room} {s : State} {m : MethodId} {args : Array Value} {below : List Frame} {meth : Method} {c : Code} {cc : ByteArray} {nL : Nat} {Q : State → Prop} {pc : Nat} {lv : List (Nat × Value)} {st : List Value} {σ : zS} {own : String} (C : CC D ad cA X p s m args meth c cc own nL) {x : Nat} (hx : isLine x = true) {i : Int32} {v : Int32} (hin : inb i 2400 = true) (hd : decode cc pc = .ok (.bastore, 1)) (k : ZC D ad cA p l e R s m args below meth c nL Q (pc + 1) lv st (ta σ (lA x) i.toNatClampNeg (vp_nar .byte v))) : ZC D ad cA p l e R s m args below meth c nL Q pc lv (.int v :: .int i :: .ref (ad (lA x)) :: st) σ :=
  z_bast C (t0 := (lA x) - 19) (arC_Li_0 hx) (atC_Li_0 hx) hin (aSC_Li_0 hx) hd k
set_option maxHeartbeats 4000000 in
set_option maxRecDepth 100000 in
theorem oC_2 {ad : Nat → Nat} {cA : Nat → ClassId} {σ : zS} : (wdC ad cA σ)[2]? = some (ad 2, .inr (2, [.int (gi σ 200), .int (gi σ 201), .ref (ad 15), .ref (ad 16)])) := rfl
set_option maxHeartbeats 4000000 in
set_option maxRecDepth 100000 in
theorem pC_Fa_19 {D : va_G} {ad : Nat → Nat} {cA : Nat → ClassId} {X : State → Prop} {p : Program} {l : Launch} {e : Env} {R : Room} {s : State} {m : MethodId} {args : Array Value} {below : List Frame} {meth : Method} {c : Code} {cc : ByteArray} {nL : Nat} {Q : State → Prop} {pc : Nat} {lv : List (Nat × Value)} {st : List Value} {σ : zS} (C : CC D ad cA X p s m args meth c cc "KindRounds$Fault" nL) {v : Int32} (hd : decode cc pc = .ok (.putfield 19, 3)) (k : ZC D ad cA p l e R s m args below meth c nL Q (pc + 3) lv st (si σ 200 v)) : ZC D ad cA p l e R s m args below meth c nL Q pc lv (.int v :: .ref (ad 2) :: st) σ :=
  z_put C 0 (ty := .int) mC_27 i_Fa t_Fa t_Fa_ok n_Fa rfl oC_2 (Nat.le_of_ble_eq_true rfl) rfl rfl rfl rfl rfl (Nat.le_of_ble_eq_true rfl) rfl hd k
set_option maxHeartbeats 4000000 in
set_option maxRecDepth 100000 in
theorem gC_Fa_19 {D : va_G} {ad : Nat → Nat} {cA : Nat → ClassId} {X : State → Prop} {p : Program} {l : Launch} {e : Env} {R : Room} {s : State} {m : MethodId} {args : Array Value} {below : List Frame} {meth : Method} {c : Code} {cc : ByteArray} {nL : Nat} {Q : State → Prop} {pc : Nat} {lv : List (Nat × Value)} {st : List Value} {σ : zS} (C : CC D ad cA X p s m args meth c cc "KindRounds$Fault" nL) {v : Int32} (hv : gi σ 200 = v) (hd : decode cc pc = .ok (.getfield 19, 3)) (k : ZC D ad cA p l e R s m args below meth c nL Q (pc + 3) lv (.int v :: st) σ) : ZC D ad cA p l e R s m args below meth c nL Q pc lv (.ref (ad 2) :: st) σ := by
  subst hv
  exact z_get C 0 mC_27 i_Fa rfl oC_2 (Nat.le_of_ble_eq_true rfl) rfl rfl hd k
set_option maxHeartbeats 4000000 in
set_option maxRecDepth 100000 in
theorem pC_Fa_23 {D : va_G} {ad : Nat → Nat} {cA : Nat → ClassId} {X : State → Prop} {p : Program} {l : Launch} {e : Env} {R : Room} {s : State} {m : MethodId} {args : Array Value} {below : List Frame} {meth : Method} {c : Code} {cc : ByteArray} {nL : Nat} {Q : State → Prop} {pc : Nat} {lv : List (Nat × Value)} {st : List Value} {σ : zS} (C : CC D ad cA X p s m args meth c cc "KindRounds$Fault" nL) {v : Int32} (hd : decode cc pc = .ok (.putfield 23, 3)) (k : ZC D ad cA p l e R s m args below meth c nL Q (pc + 3) lv st (si σ 201 v)) : ZC D ad cA p l e R s m args below meth c nL Q pc lv (.int v :: .ref (ad 2) :: st) σ :=
  z_put C 1 (ty := .int) mC_28 i_Fa t_Fa t_Fa_ok n_Fa rfl oC_2 (Nat.le_of_ble_eq_true rfl) rfl rfl rfl rfl rfl (Nat.le_of_ble_eq_true rfl) rfl hd k
set_option maxHeartbeats 4000000 in
set_option maxRecDepth 100000 in
theorem oC_3 {ad : Nat → Nat} {cA : Nat → ClassId} {σ : zS} : (wdC ad cA σ)[3]? = some (ad 3, .inr (3, [.ref (ad 23), .ref (ad 24), .ref (ad 25), .ref (ad 26), .ref (ad 27), .ref (ad 28), .int (gi σ 306), .int (gi σ 307), .int (gi σ 308), .int (gi σ 309), .int (gi σ 310)])) := rfl
set_option maxHeartbeats 4000000 in
set_option maxRecDepth 100000 in
theorem pC_Ki_30 {D : va_G} {ad : Nat → Nat} {cA : Nat → ClassId} {X : State → Prop} {p : Program} {l : Launch} {e : Env} {R : Room} {s : State} {m : MethodId} {args : Array Value} {below : List Frame} {meth : Method} {c : Code} {cc : ByteArray} {nL : Nat} {Q : State → Prop} {pc : Nat} {lv : List (Nat × Value)} {st : List Value} {σ : zS} (C : CC D ad cA X p s m args meth c cc "KindRounds$Kinds" nL) {v : Int32} (hd : decode cc pc = .ok (.putfield 30, 3)) (k : ZC D ad cA p l e R s m args below meth c nL Q (pc + 3) lv st (si σ 306 v)) : ZC D ad cA p l e R s m args below meth c nL Q pc lv (.int v :: .ref (ad 3) :: st) σ :=
  z_put C 6 (ty := .int) mC_29 i_Ki t_Ki t_Ki_ok n_Ki rfl oC_3 (Nat.le_of_ble_eq_true rfl) rfl rfl rfl rfl rfl (Nat.le_of_ble_eq_true rfl) rfl hd k
set_option maxHeartbeats 4000000 in
set_option maxRecDepth 100000 in
theorem gC_Ki_30 {D : va_G} {ad : Nat → Nat} {cA : Nat → ClassId} {X : State → Prop} {p : Program} {l : Launch} {e : Env} {R : Room} {s : State} {m : MethodId} {args : Array Value} {below : List Frame} {meth : Method} {c : Code} {cc : ByteArray} {nL : Nat} {Q : State → Prop} {pc : Nat} {lv : List (Nat × Value)} {st : List Value} {σ : zS} (C : CC D ad cA X p s m args meth c cc "KindRounds$Kinds" nL) {v : Int32} (hv : gi σ 306 = v) (hd : decode cc pc = .ok (.getfield 30, 3)) (k : ZC D ad cA p l e R s m args below meth c nL Q (pc + 3) lv (.int v :: st) σ) : ZC D ad cA p l e R s m args below meth c nL Q pc lv (.ref (ad 3) :: st) σ := by
  subst hv
  exact z_get C 6 mC_29 i_Ki rfl oC_3 (Nat.le_of_ble_eq_true rfl) rfl rfl hd k
set_option maxHeartbeats 4000000 in
set_option maxRecDepth 100000 in
theorem pC_Ki_34 {D : va_G} {ad : Nat → Nat} {cA : Nat → ClassId} {X : State → Prop} {p : Program} {l : Launch} {e : Env} {R : Room} {s : State} {m : MethodId} {args : Array Value} {below : List Frame} {meth : Method} {c : Code} {cc : ByteArray} {nL : Nat} {Q : State → Prop} {pc : Nat} {lv : List (Nat × Value)} {st : List Value} {σ : zS} (C : CC D ad cA X p s m args meth c cc "KindRounds$Kinds" nL) {v : Int32} (hd : decode cc pc = .ok (.putfield 34, 3)) (k : ZC D ad cA p l e R s m args below meth c nL Q (pc + 3) lv st (si σ 307 v)) : ZC D ad cA p l e R s m args below meth c nL Q pc lv (.int v :: .ref (ad 3) :: st) σ :=
  z_put C 7 (ty := .int) mC_30 i_Ki t_Ki t_Ki_ok n_Ki rfl oC_3 (Nat.le_of_ble_eq_true rfl) rfl rfl rfl rfl rfl (Nat.le_of_ble_eq_true rfl) rfl hd k
set_option maxHeartbeats 4000000 in
set_option maxRecDepth 100000 in
theorem gC_Ki_11 {D : va_G} {ad : Nat → Nat} {cA : Nat → ClassId} {X : State → Prop} {p : Program} {l : Launch} {e : Env} {R : Room} {s : State} {m : MethodId} {args : Array Value} {below : List Frame} {meth : Method} {c : Code} {cc : ByteArray} {nL : Nat} {Q : State → Prop} {pc : Nat} {lv : List (Nat × Value)} {st : List Value} {σ : zS} (C : CC D ad cA X p s m args meth c cc "KindRounds$Kinds" nL) (hd : decode cc pc = .ok (.getfield 11, 3)) (k : ZC D ad cA p l e R s m args below meth c nL Q (pc + 3) lv (.ref (ad 23) :: st) σ) : ZC D ad cA p l e R s m args below meth c nL Q pc lv (.ref (ad 3) :: st) σ :=
  z_get C 0 mC_31 i_Ki rfl oC_3 (Nat.le_of_ble_eq_true rfl) rfl rfl hd k
set_option maxHeartbeats 4000000 in
set_option maxRecDepth 100000 in
theorem alC_23 {D : va_G} {ad : Nat → Nat} {cA : Nat → ClassId} {X : State → Prop} {p : Program} {l : Launch} {e : Env} {R : Room} {s : State} {m : MethodId} {args : Array Value} {below : List Frame} {meth : Method} {c : Code} {cc : ByteArray} {nL : Nat} {Q : State → Prop} {pc : Nat} {lv : List (Nat × Value)} {st : List Value} {σ : zS} {own : String} (C : CC D ad cA X p s m args meth c cc own nL) {i : Int32} {v : Int32} (hv : ga σ 23 i.toNatClampNeg = v) (hin : inb i 1713 = true) (hd : decode cc pc = .ok (.iaload, 1)) (k : ZC D ad cA p l e R s m args below meth c nL Q (pc + 1) lv (.int v :: st) σ) : ZC D ad cA p l e R s m args below meth c nL Q pc lv (.int i :: .ref (ad 23) :: st) σ := by
  subst hv
  exact z_iald C (t0 := 4) (q0 := 23) rfl rfl hin hd k
set_option maxHeartbeats 4000000 in
set_option maxRecDepth 100000 in
theorem asC_23 {D : va_G} {ad : Nat → Nat} {cA : Nat → ClassId} {X : State → Prop} {p : Program} {l : Launch} {e : Env} {R : Room} {s : State} {m : MethodId} {args : Array Value} {below : List Frame} {meth : Method} {c : Code} {cc : ByteArray} {nL : Nat} {Q : State → Prop} {pc : Nat} {lv : List (Nat × Value)} {st : List Value} {σ : zS} {own : String} (C : CC D ad cA X p s m args meth c cc own nL) {i : Int32} {v : Int32} (hin : inb i 1713 = true) (hd : decode cc pc = .ok (.iastore, 1)) (k : ZC D ad cA p l e R s m args below meth c nL Q (pc + 1) lv st (sa σ 23 i.toNatClampNeg v)) : ZC D ad cA p l e R s m args below meth c nL Q pc lv (.int v :: .int i :: .ref (ad 23) :: st) σ :=
  z_iast C (t0 := 4) (q0 := 23) rfl rfl hin rfl hd k
set_option maxHeartbeats 4000000 in
set_option maxRecDepth 100000 in
theorem gC_Ki_18 {D : va_G} {ad : Nat → Nat} {cA : Nat → ClassId} {X : State → Prop} {p : Program} {l : Launch} {e : Env} {R : Room} {s : State} {m : MethodId} {args : Array Value} {below : List Frame} {meth : Method} {c : Code} {cc : ByteArray} {nL : Nat} {Q : State → Prop} {pc : Nat} {lv : List (Nat × Value)} {st : List Value} {σ : zS} (C : CC D ad cA X p s m args meth c cc "KindRounds$Kinds" nL) (hd : decode cc pc = .ok (.getfield 18, 3)) (k : ZC D ad cA p l e R s m args below meth c nL Q (pc + 3) lv (.ref (ad 25) :: st) σ) : ZC D ad cA p l e R s m args below meth c nL Q pc lv (.ref (ad 3) :: st) σ :=
  z_get C 2 mC_32 i_Ki rfl oC_3 (Nat.le_of_ble_eq_true rfl) rfl rfl hd k
set_option maxHeartbeats 4000000 in
set_option maxRecDepth 100000 in
theorem alC_25 {D : va_G} {ad : Nat → Nat} {cA : Nat → ClassId} {X : State → Prop} {p : Program} {l : Launch} {e : Env} {R : Room} {s : State} {m : MethodId} {args : Array Value} {below : List Frame} {meth : Method} {c : Code} {cc : ByteArray} {nL : Nat} {Q : State → Prop} {pc : Nat} {lv : List (Nat × Value)} {st : List Value} {σ : zS} {own : String} (C : CC D ad cA X p s m args meth c cc own nL) {i : Int32} {v : Int32} (hv : ga σ 25 i.toNatClampNeg = v) (hin : inb i 1713 = true) (hd : decode cc pc = .ok (.iaload, 1)) (k : ZC D ad cA p l e R s m args below meth c nL Q (pc + 1) lv (.int v :: st) σ) : ZC D ad cA p l e R s m args below meth c nL Q pc lv (.int i :: .ref (ad 25) :: st) σ := by
  subst hv
  exact z_iald C (t0 := 6) (q0 := 25) rfl rfl hin hd k
set_option maxHeartbeats 4000000 in
set_option maxRecDepth 100000 in
theorem asC_25 {D : va_G} {ad : Nat → Nat} {cA : Nat → ClassId} {X : State → Prop} {p : Program} {l : Launch} {e : Env} {R : Room} {s : State} {m : MethodId} {args : Array Value} {below : List Frame} {meth : Method} {c : Code} {cc : ByteArray} {nL : Nat} {Q : State → Prop} {pc : Nat} {lv : List (Nat × Value)} {st : List Value} {σ : zS} {own : String} (C : CC D ad cA X p s m args meth c cc own nL) {i : Int32} {v : Int32} (hin : inb i 1713 = true) (hd : decode cc pc = .ok (.iastore, 1)) (k : ZC D ad cA p l e R s m args below meth c nL Q (pc + 1) lv st (sa σ 25 i.toNatClampNeg v)) : ZC D ad cA p l e R s m args below meth c nL Q pc lv (.int v :: .int i :: .ref (ad 25) :: st) σ :=
  z_iast C (t0 := 6) (q0 := 25) rfl rfl hin rfl hd k
set_option maxHeartbeats 4000000 in
set_option maxRecDepth 100000 in
theorem gC_Ki_15 {D : va_G} {ad : Nat → Nat} {cA : Nat → ClassId} {X : State → Prop} {p : Program} {l : Launch} {e : Env} {R : Room} {s : State} {m : MethodId} {args : Array Value} {below : List Frame} {meth : Method} {c : Code} {cc : ByteArray} {nL : Nat} {Q : State → Prop} {pc : Nat} {lv : List (Nat × Value)} {st : List Value} {σ : zS} (C : CC D ad cA X p s m args meth c cc "KindRounds$Kinds" nL) (hd : decode cc pc = .ok (.getfield 15, 3)) (k : ZC D ad cA p l e R s m args below meth c nL Q (pc + 3) lv (.ref (ad 24) :: st) σ) : ZC D ad cA p l e R s m args below meth c nL Q pc lv (.ref (ad 3) :: st) σ :=
  z_get C 1 mC_33 i_Ki rfl oC_3 (Nat.le_of_ble_eq_true rfl) rfl rfl hd k
set_option maxHeartbeats 4000000 in
set_option maxRecDepth 100000 in
theorem alC_24 {D : va_G} {ad : Nat → Nat} {cA : Nat → ClassId} {X : State → Prop} {p : Program} {l : Launch} {e : Env} {R : Room} {s : State} {m : MethodId} {args : Array Value} {below : List Frame} {meth : Method} {c : Code} {cc : ByteArray} {nL : Nat} {Q : State → Prop} {pc : Nat} {lv : List (Nat × Value)} {st : List Value} {σ : zS} {own : String} (C : CC D ad cA X p s m args meth c cc own nL) {i : Int32} {v : Int32} (hv : ga σ 24 i.toNatClampNeg = v) (hin : inb i 1713 = true) (hd : decode cc pc = .ok (.iaload, 1)) (k : ZC D ad cA p l e R s m args below meth c nL Q (pc + 1) lv (.int v :: st) σ) : ZC D ad cA p l e R s m args below meth c nL Q pc lv (.int i :: .ref (ad 24) :: st) σ := by
  subst hv
  exact z_iald C (t0 := 5) (q0 := 24) rfl rfl hin hd k
set_option maxHeartbeats 4000000 in
set_option maxRecDepth 100000 in
theorem asC_24 {D : va_G} {ad : Nat → Nat} {cA : Nat → ClassId} {X : State → Prop} {p : Program} {l : Launch} {e : Env} {R : Room} {s : State} {m : MethodId} {args : Array Value} {below : List Frame} {meth : Method} {c : Code} {cc : ByteArray} {nL : Nat} {Q : State → Prop} {pc : Nat} {lv : List (Nat × Value)} {st : List Value} {σ : zS} {own : String} (C : CC D ad cA X p s m args meth c cc own nL) {i : Int32} {v : Int32} (hin : inb i 1713 = true) (hd : decode cc pc = .ok (.iastore, 1)) (k : ZC D ad cA p l e R s m args below meth c nL Q (pc + 1) lv st (sa σ 24 i.toNatClampNeg v)) : ZC D ad cA p l e R s m args below meth c nL Q pc lv (.int v :: .int i :: .ref (ad 24) :: st) σ :=
  z_iast C (t0 := 5) (q0 := 24) rfl rfl hin rfl hd k
set_option maxHeartbeats 4000000 in
set_option maxRecDepth 100000 in
theorem gC_Ki_37 {D : va_G} {ad : Nat → Nat} {cA : Nat → ClassId} {X : State → Prop} {p : Program} {l : Launch} {e : Env} {R : Room} {s : State} {m : MethodId} {args : Array Value} {below : List Frame} {meth : Method} {c : Code} {cc : ByteArray} {nL : Nat} {Q : State → Prop} {pc : Nat} {lv : List (Nat × Value)} {st : List Value} {σ : zS} (C : CC D ad cA X p s m args meth c cc "KindRounds$Kinds" nL) {v : Int32} (hv : gi σ 309 = v) (hd : decode cc pc = .ok (.getfield 37, 3)) (k : ZC D ad cA p l e R s m args below meth c nL Q (pc + 3) lv (.int v :: st) σ) : ZC D ad cA p l e R s m args below meth c nL Q pc lv (.ref (ad 3) :: st) σ := by
  subst hv
  exact z_get C 9 mC_34 i_Ki rfl oC_3 (Nat.le_of_ble_eq_true rfl) rfl rfl hd k
set_option maxHeartbeats 4000000 in
set_option maxRecDepth 100000 in
theorem gC_Ki_27 {D : va_G} {ad : Nat → Nat} {cA : Nat → ClassId} {X : State → Prop} {p : Program} {l : Launch} {e : Env} {R : Room} {s : State} {m : MethodId} {args : Array Value} {below : List Frame} {meth : Method} {c : Code} {cc : ByteArray} {nL : Nat} {Q : State → Prop} {pc : Nat} {lv : List (Nat × Value)} {st : List Value} {σ : zS} (C : CC D ad cA X p s m args meth c cc "KindRounds$Kinds" nL) (hd : decode cc pc = .ok (.getfield 27, 3)) (k : ZC D ad cA p l e R s m args below meth c nL Q (pc + 3) lv (.ref (ad 28) :: st) σ) : ZC D ad cA p l e R s m args below meth c nL Q pc lv (.ref (ad 3) :: st) σ :=
  z_get C 5 mC_35 i_Ki rfl oC_3 (Nat.le_of_ble_eq_true rfl) rfl rfl hd k
set_option maxHeartbeats 4000000 in
set_option maxRecDepth 100000 in
theorem alC_28 {D : va_G} {ad : Nat → Nat} {cA : Nat → ClassId} {X : State → Prop} {p : Program} {l : Launch} {e : Env} {R : Room} {s : State} {m : MethodId} {args : Array Value} {below : List Frame} {meth : Method} {c : Code} {cc : ByteArray} {nL : Nat} {Q : State → Prop} {pc : Nat} {lv : List (Nat × Value)} {st : List Value} {σ : zS} {own : String} (C : CC D ad cA X p s m args meth c cc own nL) {i : Int32} {v : Int32} (hv : ga σ 28 i.toNatClampNeg = v) (hin : inb i 3434 = true) (hd : decode cc pc = .ok (.iaload, 1)) (k : ZC D ad cA p l e R s m args below meth c nL Q (pc + 1) lv (.int v :: st) σ) : ZC D ad cA p l e R s m args below meth c nL Q pc lv (.int i :: .ref (ad 28) :: st) σ := by
  subst hv
  exact z_iald C (t0 := 9) (q0 := 28) rfl rfl hin hd k
set_option maxHeartbeats 4000000 in
set_option maxRecDepth 100000 in
theorem asC_28 {D : va_G} {ad : Nat → Nat} {cA : Nat → ClassId} {X : State → Prop} {p : Program} {l : Launch} {e : Env} {R : Room} {s : State} {m : MethodId} {args : Array Value} {below : List Frame} {meth : Method} {c : Code} {cc : ByteArray} {nL : Nat} {Q : State → Prop} {pc : Nat} {lv : List (Nat × Value)} {st : List Value} {σ : zS} {own : String} (C : CC D ad cA X p s m args meth c cc own nL) {i : Int32} {v : Int32} (hin : inb i 3434 = true) (hd : decode cc pc = .ok (.iastore, 1)) (k : ZC D ad cA p l e R s m args below meth c nL Q (pc + 1) lv st (sa σ 28 i.toNatClampNeg v)) : ZC D ad cA p l e R s m args below meth c nL Q pc lv (.int v :: .int i :: .ref (ad 28) :: st) σ :=
  z_iast C (t0 := 9) (q0 := 28) rfl rfl hin rfl hd k
set_option maxHeartbeats 4000000 in
set_option maxRecDepth 100000 in
theorem pC_Ki_37 {D : va_G} {ad : Nat → Nat} {cA : Nat → ClassId} {X : State → Prop} {p : Program} {l : Launch} {e : Env} {R : Room} {s : State} {m : MethodId} {args : Array Value} {below : List Frame} {meth : Method} {c : Code} {cc : ByteArray} {nL : Nat} {Q : State → Prop} {pc : Nat} {lv : List (Nat × Value)} {st : List Value} {σ : zS} (C : CC D ad cA X p s m args meth c cc "KindRounds$Kinds" nL) {v : Int32} (hd : decode cc pc = .ok (.putfield 37, 3)) (k : ZC D ad cA p l e R s m args below meth c nL Q (pc + 3) lv st (si σ 309 v)) : ZC D ad cA p l e R s m args below meth c nL Q pc lv (.int v :: .ref (ad 3) :: st) σ :=
  z_put C 9 (ty := .int) mC_34 i_Ki t_Ki t_Ki_ok n_Ki rfl oC_3 (Nat.le_of_ble_eq_true rfl) rfl rfl rfl rfl rfl (Nat.le_of_ble_eq_true rfl) rfl hd k
set_option maxHeartbeats 4000000 in
set_option maxRecDepth 100000 in
theorem gC_Ki_40 {D : va_G} {ad : Nat → Nat} {cA : Nat → ClassId} {X : State → Prop} {p : Program} {l : Launch} {e : Env} {R : Room} {s : State} {m : MethodId} {args : Array Value} {below : List Frame} {meth : Method} {c : Code} {cc : ByteArray} {nL : Nat} {Q : State → Prop} {pc : Nat} {lv : List (Nat × Value)} {st : List Value} {σ : zS} (C : CC D ad cA X p s m args meth c cc "KindRounds$Kinds" nL) {v : Int32} (hv : gi σ 308 = v) (hd : decode cc pc = .ok (.getfield 40, 3)) (k : ZC D ad cA p l e R s m args below meth c nL Q (pc + 3) lv (.int v :: st) σ) : ZC D ad cA p l e R s m args below meth c nL Q pc lv (.ref (ad 3) :: st) σ := by
  subst hv
  exact z_get C 8 mC_36 i_Ki rfl oC_3 (Nat.le_of_ble_eq_true rfl) rfl rfl hd k
set_option maxHeartbeats 4000000 in
set_option maxRecDepth 100000 in
theorem gC_Ki_24 {D : va_G} {ad : Nat → Nat} {cA : Nat → ClassId} {X : State → Prop} {p : Program} {l : Launch} {e : Env} {R : Room} {s : State} {m : MethodId} {args : Array Value} {below : List Frame} {meth : Method} {c : Code} {cc : ByteArray} {nL : Nat} {Q : State → Prop} {pc : Nat} {lv : List (Nat × Value)} {st : List Value} {σ : zS} (C : CC D ad cA X p s m args meth c cc "KindRounds$Kinds" nL) (hd : decode cc pc = .ok (.getfield 24, 3)) (k : ZC D ad cA p l e R s m args below meth c nL Q (pc + 3) lv (.ref (ad 27) :: st) σ) : ZC D ad cA p l e R s m args below meth c nL Q pc lv (.ref (ad 3) :: st) σ :=
  z_get C 4 mC_37 i_Ki rfl oC_3 (Nat.le_of_ble_eq_true rfl) rfl rfl hd k
set_option maxHeartbeats 4000000 in
set_option maxRecDepth 100000 in
theorem alC_27 {D : va_G} {ad : Nat → Nat} {cA : Nat → ClassId} {X : State → Prop} {p : Program} {l : Launch} {e : Env} {R : Room} {s : State} {m : MethodId} {args : Array Value} {below : List Frame} {meth : Method} {c : Code} {cc : ByteArray} {nL : Nat} {Q : State → Prop} {pc : Nat} {lv : List (Nat × Value)} {st : List Value} {σ : zS} {own : String} (C : CC D ad cA X p s m args meth c cc own nL) {i : Int32} {v : Int32} (hv : ga σ 27 i.toNatClampNeg = v) (hin : inb i 1713 = true) (hd : decode cc pc = .ok (.iaload, 1)) (k : ZC D ad cA p l e R s m args below meth c nL Q (pc + 1) lv (.int v :: st) σ) : ZC D ad cA p l e R s m args below meth c nL Q pc lv (.int i :: .ref (ad 27) :: st) σ := by
  subst hv
  exact z_iald C (t0 := 8) (q0 := 27) rfl rfl hin hd k
set_option maxHeartbeats 4000000 in
set_option maxRecDepth 100000 in
theorem asC_27 {D : va_G} {ad : Nat → Nat} {cA : Nat → ClassId} {X : State → Prop} {p : Program} {l : Launch} {e : Env} {R : Room} {s : State} {m : MethodId} {args : Array Value} {below : List Frame} {meth : Method} {c : Code} {cc : ByteArray} {nL : Nat} {Q : State → Prop} {pc : Nat} {lv : List (Nat × Value)} {st : List Value} {σ : zS} {own : String} (C : CC D ad cA X p s m args meth c cc own nL) {i : Int32} {v : Int32} (hin : inb i 1713 = true) (hd : decode cc pc = .ok (.iastore, 1)) (k : ZC D ad cA p l e R s m args below meth c nL Q (pc + 1) lv st (sa σ 27 i.toNatClampNeg v)) : ZC D ad cA p l e R s m args below meth c nL Q pc lv (.int v :: .int i :: .ref (ad 27) :: st) σ :=
  z_iast C (t0 := 8) (q0 := 27) rfl rfl hin rfl hd k
set_option maxHeartbeats 4000000 in
set_option maxRecDepth 100000 in
theorem pC_Ki_40 {D : va_G} {ad : Nat → Nat} {cA : Nat → ClassId} {X : State → Prop} {p : Program} {l : Launch} {e : Env} {R : Room} {s : State} {m : MethodId} {args : Array Value} {below : List Frame} {meth : Method} {c : Code} {cc : ByteArray} {nL : Nat} {Q : State → Prop} {pc : Nat} {lv : List (Nat × Value)} {st : List Value} {σ : zS} (C : CC D ad cA X p s m args meth c cc "KindRounds$Kinds" nL) {v : Int32} (hd : decode cc pc = .ok (.putfield 40, 3)) (k : ZC D ad cA p l e R s m args below meth c nL Q (pc + 3) lv st (si σ 308 v)) : ZC D ad cA p l e R s m args below meth c nL Q pc lv (.int v :: .ref (ad 3) :: st) σ :=
  z_put C 8 (ty := .int) mC_36 i_Ki t_Ki t_Ki_ok n_Ki rfl oC_3 (Nat.le_of_ble_eq_true rfl) rfl rfl rfl rfl rfl (Nat.le_of_ble_eq_true rfl) rfl hd k
set_option maxHeartbeats 4000000 in
set_option maxRecDepth 100000 in
theorem gC_Ki_21 {D : va_G} {ad : Nat → Nat} {cA : Nat → ClassId} {X : State → Prop} {p : Program} {l : Launch} {e : Env} {R : Room} {s : State} {m : MethodId} {args : Array Value} {below : List Frame} {meth : Method} {c : Code} {cc : ByteArray} {nL : Nat} {Q : State → Prop} {pc : Nat} {lv : List (Nat × Value)} {st : List Value} {σ : zS} (C : CC D ad cA X p s m args meth c cc "KindRounds$Kinds" nL) (hd : decode cc pc = .ok (.getfield 21, 3)) (k : ZC D ad cA p l e R s m args below meth c nL Q (pc + 3) lv (.ref (ad 26) :: st) σ) : ZC D ad cA p l e R s m args below meth c nL Q pc lv (.ref (ad 3) :: st) σ :=
  z_get C 3 mC_54 i_Ki rfl oC_3 (Nat.le_of_ble_eq_true rfl) rfl rfl hd k
set_option maxHeartbeats 4000000 in
set_option maxRecDepth 100000 in
theorem alC_26 {D : va_G} {ad : Nat → Nat} {cA : Nat → ClassId} {X : State → Prop} {p : Program} {l : Launch} {e : Env} {R : Room} {s : State} {m : MethodId} {args : Array Value} {below : List Frame} {meth : Method} {c : Code} {cc : ByteArray} {nL : Nat} {Q : State → Prop} {pc : Nat} {lv : List (Nat × Value)} {st : List Value} {σ : zS} {own : String} (C : CC D ad cA X p s m args meth c cc own nL) {i : Int32} {v : Int32} (hv : ga σ 26 i.toNatClampNeg = v) (hin : inb i 1713 = true) (hd : decode cc pc = .ok (.iaload, 1)) (k : ZC D ad cA p l e R s m args below meth c nL Q (pc + 1) lv (.int v :: st) σ) : ZC D ad cA p l e R s m args below meth c nL Q pc lv (.int i :: .ref (ad 26) :: st) σ := by
  subst hv
  exact z_iald C (t0 := 7) (q0 := 26) rfl rfl hin hd k
set_option maxHeartbeats 4000000 in
set_option maxRecDepth 100000 in
theorem asC_26 {D : va_G} {ad : Nat → Nat} {cA : Nat → ClassId} {X : State → Prop} {p : Program} {l : Launch} {e : Env} {R : Room} {s : State} {m : MethodId} {args : Array Value} {below : List Frame} {meth : Method} {c : Code} {cc : ByteArray} {nL : Nat} {Q : State → Prop} {pc : Nat} {lv : List (Nat × Value)} {st : List Value} {σ : zS} {own : String} (C : CC D ad cA X p s m args meth c cc own nL) {i : Int32} {v : Int32} (hin : inb i 1713 = true) (hd : decode cc pc = .ok (.iastore, 1)) (k : ZC D ad cA p l e R s m args below meth c nL Q (pc + 1) lv st (sa σ 26 i.toNatClampNeg v)) : ZC D ad cA p l e R s m args below meth c nL Q pc lv (.int v :: .int i :: .ref (ad 26) :: st) σ :=
  z_iast C (t0 := 7) (q0 := 26) rfl rfl hin rfl hd k
set_option maxHeartbeats 4000000 in
set_option maxRecDepth 100000 in
theorem gC_Ki_92 {D : va_G} {ad : Nat → Nat} {cA : Nat → ClassId} {X : State → Prop} {p : Program} {l : Launch} {e : Env} {R : Room} {s : State} {m : MethodId} {args : Array Value} {below : List Frame} {meth : Method} {c : Code} {cc : ByteArray} {nL : Nat} {Q : State → Prop} {pc : Nat} {lv : List (Nat × Value)} {st : List Value} {σ : zS} (C : CC D ad cA X p s m args meth c cc "KindRounds$Kinds" nL) {v : Int32} (hv : gi σ 310 = v) (hd : decode cc pc = .ok (.getfield 92, 3)) (k : ZC D ad cA p l e R s m args below meth c nL Q (pc + 3) lv (.int v :: st) σ) : ZC D ad cA p l e R s m args below meth c nL Q pc lv (.ref (ad 3) :: st) σ := by
  subst hv
  exact z_get C 10 mC_57 i_Ki rfl oC_3 (Nat.le_of_ble_eq_true rfl) rfl rfl hd k
set_option maxHeartbeats 4000000 in
set_option maxRecDepth 100000 in
theorem pC_Ki_92 {D : va_G} {ad : Nat → Nat} {cA : Nat → ClassId} {X : State → Prop} {p : Program} {l : Launch} {e : Env} {R : Room} {s : State} {m : MethodId} {args : Array Value} {below : List Frame} {meth : Method} {c : Code} {cc : ByteArray} {nL : Nat} {Q : State → Prop} {pc : Nat} {lv : List (Nat × Value)} {st : List Value} {σ : zS} (C : CC D ad cA X p s m args meth c cc "KindRounds$Kinds" nL) {v : Int32} (hd : decode cc pc = .ok (.putfield 92, 3)) (k : ZC D ad cA p l e R s m args below meth c nL Q (pc + 3) lv st (si σ 310 v)) : ZC D ad cA p l e R s m args below meth c nL Q pc lv (.int v :: .ref (ad 3) :: st) σ :=
  z_put C 10 (ty := .int) mC_57 i_Ki t_Ki t_Ki_ok n_Ki rfl oC_3 (Nat.le_of_ble_eq_true rfl) rfl rfl rfl rfl rfl (Nat.le_of_ble_eq_true rfl) rfl hd k
set_option maxHeartbeats 4000000 in
set_option maxRecDepth 100000 in
theorem gC_Ki_98 {D : va_G} {ad : Nat → Nat} {cA : Nat → ClassId} {X : State → Prop} {p : Program} {l : Launch} {e : Env} {R : Room} {s : State} {m : MethodId} {args : Array Value} {below : List Frame} {meth : Method} {c : Code} {cc : ByteArray} {nL : Nat} {Q : State → Prop} {pc : Nat} {lv : List (Nat × Value)} {st : List Value} {σ : zS} (C : CC D ad cA X p s m args meth c cc "KindRounds$Kinds" nL) (hd : decode cc pc = .ok (.getfield 98, 3)) (k : ZC D ad cA p l e R s m args below meth c nL Q (pc + 3) lv (.ref (ad 15) :: st) σ) : ZC D ad cA p l e R s m args below meth c nL Q pc lv (.ref (ad 2) :: st) σ :=
  z_getN C 2 mC_59 i_Fa rfl oC_2 (Nat.le_of_ble_eq_true rfl) rfl rfl hd k
set_option maxHeartbeats 4000000 in
set_option maxRecDepth 100000 in
theorem gC_Ki_108 {D : va_G} {ad : Nat → Nat} {cA : Nat → ClassId} {X : State → Prop} {p : Program} {l : Launch} {e : Env} {R : Room} {s : State} {m : MethodId} {args : Array Value} {below : List Frame} {meth : Method} {c : Code} {cc : ByteArray} {nL : Nat} {Q : State → Prop} {pc : Nat} {lv : List (Nat × Value)} {st : List Value} {σ : zS} (C : CC D ad cA X p s m args meth c cc "KindRounds$Kinds" nL) (hd : decode cc pc = .ok (.getfield 108, 3)) (k : ZC D ad cA p l e R s m args below meth c nL Q (pc + 3) lv (.ref (ad 16) :: st) σ) : ZC D ad cA p l e R s m args below meth c nL Q pc lv (.ref (ad 2) :: st) σ :=
  z_getN C 3 mC_61 i_Fa rfl oC_2 (Nat.le_of_ble_eq_true rfl) rfl rfl hd k
set_option maxHeartbeats 4000000 in
set_option maxRecDepth 100000 in
theorem gC_Ki_114 {D : va_G} {ad : Nat → Nat} {cA : Nat → ClassId} {X : State → Prop} {p : Program} {l : Launch} {e : Env} {R : Room} {s : State} {m : MethodId} {args : Array Value} {below : List Frame} {meth : Method} {c : Code} {cc : ByteArray} {nL : Nat} {Q : State → Prop} {pc : Nat} {lv : List (Nat × Value)} {st : List Value} {σ : zS} (C : CC D ad cA X p s m args meth c cc "KindRounds$Kinds" nL) {x : Nat} (hx : isLine x = true) {v : Int32} (hv : mi σ (100 * x + 1) = v) (hd : decode cc pc = .ok (.getfield 114, 3)) (k : ZC D ad cA p l e R s m args below meth c nL Q (pc + 3) lv (.int v :: st) σ) : ZC D ad cA p l e R s m args below meth c nL Q pc lv (.ref (ad x) :: st) σ := by
  subst hv
  exact z_getN C 1 mC_65 i_Li rfl (oC_Li hx) (Nat.le_of_ble_eq_true rfl) rfl rfl hd k
set_option maxHeartbeats 4000000 in
set_option maxRecDepth 100000 in
theorem gC_Ki_34 {D : va_G} {ad : Nat → Nat} {cA : Nat → ClassId} {X : State → Prop} {p : Program} {l : Launch} {e : Env} {R : Room} {s : State} {m : MethodId} {args : Array Value} {below : List Frame} {meth : Method} {c : Code} {cc : ByteArray} {nL : Nat} {Q : State → Prop} {pc : Nat} {lv : List (Nat × Value)} {st : List Value} {σ : zS} (C : CC D ad cA X p s m args meth c cc "KindRounds$Kinds" nL) {v : Int32} (hv : gi σ 307 = v) (hd : decode cc pc = .ok (.getfield 34, 3)) (k : ZC D ad cA p l e R s m args below meth c nL Q (pc + 3) lv (.int v :: st) σ) : ZC D ad cA p l e R s m args below meth c nL Q pc lv (.ref (ad 3) :: st) σ := by
  subst hv
  exact z_get C 7 mC_30 i_Ki rfl oC_3 (Nat.le_of_ble_eq_true rfl) rfl rfl hd k
set_option maxHeartbeats 4000000 in
set_option maxRecDepth 100000 in
theorem oC_Ro {ad : Nat → Nat} {cA : Nat → ClassId} {σ : zS} {x : Nat} (h : isRow x = true) : (wdC ad cA σ)[x]? = some (ad x, .inr (10, fs_Ro ad σ x)) := by
  rcases isRow_or h with rfl | rfl | rfl | rfl | rfl <;> rfl
set_option maxHeartbeats 4000000 in
set_option maxRecDepth 100000 in
theorem pC_Ro_31 {D : va_G} {ad : Nat → Nat} {cA : Nat → ClassId} {X : State → Prop} {p : Program} {l : Launch} {e : Env} {R : Room} {s : State} {m : MethodId} {args : Array Value} {below : List Frame} {meth : Method} {c : Code} {cc : ByteArray} {nL : Nat} {Q : State → Prop} {pc : Nat} {lv : List (Nat × Value)} {st : List Value} {σ : zS} (C : CC D ad cA X p s m args meth c cc "KindRounds$Row" nL) {x : Nat} (hx : isRow x = true) {v : Int32} (hd : decode cc pc = .ok (.putfield 31, 3)) (k : ZC D ad cA p l e R s m args below meth c nL Q (pc + 3) lv st (ti σ (100 * x + 4) v)) : ZC D ad cA p l e R s m args below meth c nL Q pc lv (.int v :: .ref (ad x) :: st) σ :=
  z_put C 4 (ty := .int) mC_66 i_Ro t_Ro t_Ro_ok n_Ro rfl (oC_Ro hx) (Nat.le_of_ble_eq_true rfl) rfl rfl rfl rfl rfl (Nat.le_of_ble_eq_true rfl) (by rcases isRow_or hx with rfl | rfl | rfl | rfl | rfl <;> rfl) hd k
set_option maxHeartbeats 4000000 in
set_option maxRecDepth 100000 in
theorem pC_Ro_35 {D : va_G} {ad : Nat → Nat} {cA : Nat → ClassId} {X : State → Prop} {p : Program} {l : Launch} {e : Env} {R : Room} {s : State} {m : MethodId} {args : Array Value} {below : List Frame} {meth : Method} {c : Code} {cc : ByteArray} {nL : Nat} {Q : State → Prop} {pc : Nat} {lv : List (Nat × Value)} {st : List Value} {σ : zS} (C : CC D ad cA X p s m args meth c cc "KindRounds$Row" nL) {x : Nat} (hx : isRow x = true) {v : Int32} (hd : decode cc pc = .ok (.putfield 35, 3)) (k : ZC D ad cA p l e R s m args below meth c nL Q (pc + 3) lv st (ti σ (100 * x + 7) v)) : ZC D ad cA p l e R s m args below meth c nL Q pc lv (.int v :: .ref (ad x) :: st) σ :=
  z_put C 7 (ty := .int) mC_67 i_Ro t_Ro t_Ro_ok n_Ro rfl (oC_Ro hx) (Nat.le_of_ble_eq_true rfl) rfl rfl rfl rfl rfl (Nat.le_of_ble_eq_true rfl) (by rcases isRow_or hx with rfl | rfl | rfl | rfl | rfl <;> rfl) hd k
set_option maxHeartbeats 4000000 in
set_option maxRecDepth 100000 in
theorem gC_Ro_31 {D : va_G} {ad : Nat → Nat} {cA : Nat → ClassId} {X : State → Prop} {p : Program} {l : Launch} {e : Env} {R : Room} {s : State} {m : MethodId} {args : Array Value} {below : List Frame} {meth : Method} {c : Code} {cc : ByteArray} {nL : Nat} {Q : State → Prop} {pc : Nat} {lv : List (Nat × Value)} {st : List Value} {σ : zS} (C : CC D ad cA X p s m args meth c cc "KindRounds$Row" nL) {x : Nat} (hx : isRow x = true) {v : Int32} (hv : mi σ (100 * x + 4) = v) (hd : decode cc pc = .ok (.getfield 31, 3)) (k : ZC D ad cA p l e R s m args below meth c nL Q (pc + 3) lv (.int v :: st) σ) : ZC D ad cA p l e R s m args below meth c nL Q pc lv (.ref (ad x) :: st) σ := by
  subst hv
  exact z_get C 4 mC_66 i_Ro rfl (oC_Ro hx) (Nat.le_of_ble_eq_true rfl) rfl rfl hd k
set_option maxHeartbeats 4000000 in
set_option maxRecDepth 100000 in
theorem gC_Ro_35 {D : va_G} {ad : Nat → Nat} {cA : Nat → ClassId} {X : State → Prop} {p : Program} {l : Launch} {e : Env} {R : Room} {s : State} {m : MethodId} {args : Array Value} {below : List Frame} {meth : Method} {c : Code} {cc : ByteArray} {nL : Nat} {Q : State → Prop} {pc : Nat} {lv : List (Nat × Value)} {st : List Value} {σ : zS} (C : CC D ad cA X p s m args meth c cc "KindRounds$Row" nL) {x : Nat} (hx : isRow x = true) {v : Int32} (hv : mi σ (100 * x + 7) = v) (hd : decode cc pc = .ok (.getfield 35, 3)) (k : ZC D ad cA p l e R s m args below meth c nL Q (pc + 3) lv (.int v :: st) σ) : ZC D ad cA p l e R s m args below meth c nL Q pc lv (.ref (ad x) :: st) σ := by
  subst hv
  exact z_get C 7 mC_67 i_Ro rfl (oC_Ro hx) (Nat.le_of_ble_eq_true rfl) rfl rfl hd k
set_option maxHeartbeats 4000000 in
set_option maxRecDepth 100000 in
theorem gC_Ro_25 {D : va_G} {ad : Nat → Nat} {cA : Nat → ClassId} {X : State → Prop} {p : Program} {l : Launch} {e : Env} {R : Room} {s : State} {m : MethodId} {args : Array Value} {below : List Frame} {meth : Method} {c : Code} {cc : ByteArray} {nL : Nat} {Q : State → Prop} {pc : Nat} {lv : List (Nat × Value)} {st : List Value} {σ : zS} (C : CC D ad cA X p s m args meth c cc "KindRounds$Row" nL) {x : Nat} (hx : isRow x = true) (hd : decode cc pc = .ok (.getfield 25, 3)) (k : ZC D ad cA p l e R s m args below meth c nL Q (pc + 3) lv (.ref (ad (rA x 4)) :: st) σ) : ZC D ad cA p l e R s m args below meth c nL Q pc lv (.ref (ad x) :: st) σ :=
  z_get C 5 mC_68 i_Ro rfl (oC_Ro hx) (Nat.le_of_ble_eq_true rfl) rfl rfl hd k
set_option maxHeartbeats 4000000 in
set_option maxRecDepth 100000 in
theorem arC_Ro_4 {ad : Nat → Nat} {cA : Nat → ClassId} {σ : zS} {x : Nat} (h : isRow x = true) : (wdC ad cA σ)[(rA x 4)]? = some (ad (rA x 4), .inl (cA (rA x 4), 201, .inl (ma σ (rA x 4)))) := by
  rcases isRow_or h with rfl | rfl | rfl | rfl | rfl <;> rfl
set_option maxHeartbeats 4000000 in
set_option maxRecDepth 100000 in
theorem atC_Ro_4 {cA : Nat → ClassId} {x : Nat} (h : isRow x = true) : (tysC cA)[(rA x 4) - 19]? = some (cA (rA x 4), .int) := by
  rcases isRow_or h with rfl | rfl | rfl | rfl | rfl <;> rfl
set_option maxHeartbeats 4000000 in
set_option maxRecDepth 100000 in
theorem aSC_Ro_4 {ad : Nat → Nat} {cA : Nat → ClassId} {σ : zS} {x : Nat} (h : isRow x = true) {f : Nat → Int32} : (wdC ad cA σ).set (rA x 4) (ad (rA x 4), .inl (cA (rA x 4), 201, .inl (f))) = wdC ad cA (tA σ (rA x 4) f) := by
  rcases isRow_or h with rfl | rfl | rfl | rfl | rfl <;> rfl
set_option maxHeartbeats 4000000 in
set_option maxRecDepth 100000 in
theorem alC_Ro_4 {D : va_G} {ad : Nat → Nat} {cA : Nat → ClassId} {X : State → Prop} {p : Program} {l : Launch} {e : Env} {R : Room} {s : State} {m : MethodId} {args : Array Value} {below : List Frame} {meth : Method} {c : Code} {cc : ByteArray} {nL : Nat} {Q : State → Prop} {pc : Nat} {lv : List (Nat × Value)} {st : List Value} {σ : zS} {own : String} (C : CC D ad cA X p s m args meth c cc own nL) {x : Nat} (hx : isRow x = true) {i : Int32} {v : Int32} (hv : ma σ (rA x 4) i.toNatClampNeg = v) (hin : inb i 201 = true) (hd : decode cc pc = .ok (.iaload, 1)) (k : ZC D ad cA p l e R s m args below meth c nL Q (pc + 1) lv (.int v :: st) σ) : ZC D ad cA p l e R s m args below meth c nL Q pc lv (.int i :: .ref (ad (rA x 4)) :: st) σ := by
  subst hv
  exact z_iald C (t0 := (rA x 4) - 19) (arC_Ro_4 hx) (atC_Ro_4 hx) hin hd k
set_option maxHeartbeats 4000000 in
set_option maxRecDepth 100000 in
theorem asC_Ro_4 {D : va_G} {ad : Nat → Nat} {cA : Nat → ClassId} {X : State → Prop} {p : Program} {l : Launch} {e : Env} {R : Room} {s : State} {m : MethodId} {args : Array Value} {below : List Frame} {meth : Method} {c : Code} {cc : ByteArray} {nL : Nat} {Q : State → Prop} {pc : Nat} {lv : List (Nat × Value)} {st : List Value} {σ : zS} {own : String} (C : CC D ad cA X p s m args meth c cc own nL) {x : Nat} (hx : isRow x = true) {i : Int32} {v : Int32} (hin : inb i 201 = true) (hd : decode cc pc = .ok (.iastore, 1)) (k : ZC D ad cA p l e R s m args below meth c nL Q (pc + 1) lv st (ta σ (rA x 4) i.toNatClampNeg v)) : ZC D ad cA p l e R s m args below meth c nL Q pc lv (.int v :: .int i :: .ref (ad (rA x 4)) :: st) σ :=
  z_iast C (t0 := (rA x 4) - 19) (arC_Ro_4 hx) (atC_Ro_4 hx) hin (aSC_Ro_4 hx) hd k
set_option maxHeartbeats 4000000 in
set_option maxRecDepth 100000 in
theorem gC_Ro_28 {D : va_G} {ad : Nat → Nat} {cA : Nat → ClassId} {X : State → Prop} {p : Program} {l : Launch} {e : Env} {R : Room} {s : State} {m : MethodId} {args : Array Value} {below : List Frame} {meth : Method} {c : Code} {cc : ByteArray} {nL : Nat} {Q : State → Prop} {pc : Nat} {lv : List (Nat × Value)} {st : List Value} {σ : zS} (C : CC D ad cA X p s m args meth c cc "KindRounds$Row" nL) {x : Nat} (hx : isRow x = true) (hd : decode cc pc = .ok (.getfield 28, 3)) (k : ZC D ad cA p l e R s m args below meth c nL Q (pc + 3) lv (.ref (ad (rA x 5)) :: st) σ) : ZC D ad cA p l e R s m args below meth c nL Q pc lv (.ref (ad x) :: st) σ :=
  z_get C 6 mC_69 i_Ro rfl (oC_Ro hx) (Nat.le_of_ble_eq_true rfl) rfl rfl hd k
set_option maxHeartbeats 4000000 in
set_option maxRecDepth 100000 in
theorem arC_Ro_5 {ad : Nat → Nat} {cA : Nat → ClassId} {σ : zS} {x : Nat} (h : isRow x = true) : (wdC ad cA σ)[(rA x 5)]? = some (ad (rA x 5), .inl (cA (rA x 5), 201, .inl (ma σ (rA x 5)))) := by
  rcases isRow_or h with rfl | rfl | rfl | rfl | rfl <;> rfl
set_option maxHeartbeats 4000000 in
set_option maxRecDepth 100000 in
theorem atC_Ro_5 {cA : Nat → ClassId} {x : Nat} (h : isRow x = true) : (tysC cA)[(rA x 5) - 19]? = some (cA (rA x 5), .int) := by
  rcases isRow_or h with rfl | rfl | rfl | rfl | rfl <;> rfl
set_option maxHeartbeats 4000000 in
set_option maxRecDepth 100000 in
theorem aSC_Ro_5 {ad : Nat → Nat} {cA : Nat → ClassId} {σ : zS} {x : Nat} (h : isRow x = true) {f : Nat → Int32} : (wdC ad cA σ).set (rA x 5) (ad (rA x 5), .inl (cA (rA x 5), 201, .inl (f))) = wdC ad cA (tA σ (rA x 5) f) := by
  rcases isRow_or h with rfl | rfl | rfl | rfl | rfl <;> rfl
set_option maxHeartbeats 4000000 in
set_option maxRecDepth 100000 in
theorem alC_Ro_5 {D : va_G} {ad : Nat → Nat} {cA : Nat → ClassId} {X : State → Prop} {p : Program} {l : Launch} {e : Env} {R : Room} {s : State} {m : MethodId} {args : Array Value} {below : List Frame} {meth : Method} {c : Code} {cc : ByteArray} {nL : Nat} {Q : State → Prop} {pc : Nat} {lv : List (Nat × Value)} {st : List Value} {σ : zS} {own : String} (C : CC D ad cA X p s m args meth c cc own nL) {x : Nat} (hx : isRow x = true) {i : Int32} {v : Int32} (hv : ma σ (rA x 5) i.toNatClampNeg = v) (hin : inb i 201 = true) (hd : decode cc pc = .ok (.iaload, 1)) (k : ZC D ad cA p l e R s m args below meth c nL Q (pc + 1) lv (.int v :: st) σ) : ZC D ad cA p l e R s m args below meth c nL Q pc lv (.int i :: .ref (ad (rA x 5)) :: st) σ := by
  subst hv
  exact z_iald C (t0 := (rA x 5) - 19) (arC_Ro_5 hx) (atC_Ro_5 hx) hin hd k
set_option maxHeartbeats 4000000 in
set_option maxRecDepth 100000 in
theorem asC_Ro_5 {D : va_G} {ad : Nat → Nat} {cA : Nat → ClassId} {X : State → Prop} {p : Program} {l : Launch} {e : Env} {R : Room} {s : State} {m : MethodId} {args : Array Value} {below : List Frame} {meth : Method} {c : Code} {cc : ByteArray} {nL : Nat} {Q : State → Prop} {pc : Nat} {lv : List (Nat × Value)} {st : List Value} {σ : zS} {own : String} (C : CC D ad cA X p s m args meth c cc own nL) {x : Nat} (hx : isRow x = true) {i : Int32} {v : Int32} (hin : inb i 201 = true) (hd : decode cc pc = .ok (.iastore, 1)) (k : ZC D ad cA p l e R s m args below meth c nL Q (pc + 1) lv st (ta σ (rA x 5) i.toNatClampNeg v)) : ZC D ad cA p l e R s m args below meth c nL Q pc lv (.int v :: .int i :: .ref (ad (rA x 5)) :: st) σ :=
  z_iast C (t0 := (rA x 5) - 19) (arC_Ro_5 hx) (atC_Ro_5 hx) hin (aSC_Ro_5 hx) hd k
set_option maxHeartbeats 4000000 in
set_option maxRecDepth 100000 in
theorem gC_Ro_9 {D : va_G} {ad : Nat → Nat} {cA : Nat → ClassId} {X : State → Prop} {p : Program} {l : Launch} {e : Env} {R : Room} {s : State} {m : MethodId} {args : Array Value} {below : List Frame} {meth : Method} {c : Code} {cc : ByteArray} {nL : Nat} {Q : State → Prop} {pc : Nat} {lv : List (Nat × Value)} {st : List Value} {σ : zS} (C : CC D ad cA X p s m args meth c cc "KindRounds$Row" nL) {x : Nat} (hx : isRow x = true) (hd : decode cc pc = .ok (.getfield 9, 3)) (k : ZC D ad cA p l e R s m args below meth c nL Q (pc + 3) lv (.ref (ad (rA x 0)) :: st) σ) : ZC D ad cA p l e R s m args below meth c nL Q pc lv (.ref (ad x) :: st) σ :=
  z_get C 0 mC_70 i_Ro rfl (oC_Ro hx) (Nat.le_of_ble_eq_true rfl) rfl rfl hd k
set_option maxHeartbeats 4000000 in
set_option maxRecDepth 100000 in
theorem arC_Ro_0 {ad : Nat → Nat} {cA : Nat → ClassId} {σ : zS} {x : Nat} (h : isRow x = true) : (wdC ad cA σ)[(rA x 0)]? = some (ad (rA x 0), .inl (cA (rA x 0), 200, .inl (ma σ (rA x 0)))) := by
  rcases isRow_or h with rfl | rfl | rfl | rfl | rfl <;> rfl
set_option maxHeartbeats 4000000 in
set_option maxRecDepth 100000 in
theorem atC_Ro_0 {cA : Nat → ClassId} {x : Nat} (h : isRow x = true) : (tysC cA)[(rA x 0) - 19]? = some (cA (rA x 0), .int) := by
  rcases isRow_or h with rfl | rfl | rfl | rfl | rfl <;> rfl
set_option maxHeartbeats 4000000 in
set_option maxRecDepth 100000 in
theorem aSC_Ro_0 {ad : Nat → Nat} {cA : Nat → ClassId} {σ : zS} {x : Nat} (h : isRow x = true) {f : Nat → Int32} : (wdC ad cA σ).set (rA x 0) (ad (rA x 0), .inl (cA (rA x 0), 200, .inl (f))) = wdC ad cA (tA σ (rA x 0) f) := by
  rcases isRow_or h with rfl | rfl | rfl | rfl | rfl <;> rfl
set_option maxHeartbeats 4000000 in
set_option maxRecDepth 100000 in
theorem alC_Ro_0 {D : va_G} {ad : Nat → Nat} {cA : Nat → ClassId} {X : State → Prop} {p : Program} {l : Launch} {e : Env} {R : Room} {s : State} {m : MethodId} {args : Array Value} {below : List Frame} {meth : Method} {c : Code} {cc : ByteArray} {nL : Nat} {Q : State → Prop} {pc : Nat} {lv : List (Nat × Value)} {st : List Value} {σ : zS} {own : String} (C : CC D ad cA X p s m args meth c cc own nL) {x : Nat} (hx : isRow x = true) {i : Int32} {v : Int32} (hv : ma σ (rA x 0) i.toNatClampNeg = v) (hin : inb i 200 = true) (hd : decode cc pc = .ok (.iaload, 1)) (k : ZC D ad cA p l e R s m args below meth c nL Q (pc + 1) lv (.int v :: st) σ) : ZC D ad cA p l e R s m args below meth c nL Q pc lv (.int i :: .ref (ad (rA x 0)) :: st) σ := by
  subst hv
  exact z_iald C (t0 := (rA x 0) - 19) (arC_Ro_0 hx) (atC_Ro_0 hx) hin hd k
set_option maxHeartbeats 4000000 in
set_option maxRecDepth 100000 in
theorem asC_Ro_0 {D : va_G} {ad : Nat → Nat} {cA : Nat → ClassId} {X : State → Prop} {p : Program} {l : Launch} {e : Env} {R : Room} {s : State} {m : MethodId} {args : Array Value} {below : List Frame} {meth : Method} {c : Code} {cc : ByteArray} {nL : Nat} {Q : State → Prop} {pc : Nat} {lv : List (Nat × Value)} {st : List Value} {σ : zS} {own : String} (C : CC D ad cA X p s m args meth c cc own nL) {x : Nat} (hx : isRow x = true) {i : Int32} {v : Int32} (hin : inb i 200 = true) (hd : decode cc pc = .ok (.iastore, 1)) (k : ZC D ad cA p l e R s m args below meth c nL Q (pc + 1) lv st (ta σ (rA x 0) i.toNatClampNeg v)) : ZC D ad cA p l e R s m args below meth c nL Q pc lv (.int v :: .int i :: .ref (ad (rA x 0)) :: st) σ :=
  z_iast C (t0 := (rA x 0) - 19) (arC_Ro_0 hx) (atC_Ro_0 hx) hin (aSC_Ro_0 hx) hd k
set_option maxHeartbeats 4000000 in
set_option maxRecDepth 100000 in
theorem gC_Ro_15 {D : va_G} {ad : Nat → Nat} {cA : Nat → ClassId} {X : State → Prop} {p : Program} {l : Launch} {e : Env} {R : Room} {s : State} {m : MethodId} {args : Array Value} {below : List Frame} {meth : Method} {c : Code} {cc : ByteArray} {nL : Nat} {Q : State → Prop} {pc : Nat} {lv : List (Nat × Value)} {st : List Value} {σ : zS} (C : CC D ad cA X p s m args meth c cc "KindRounds$Row" nL) {x : Nat} (hx : isRow x = true) (hd : decode cc pc = .ok (.getfield 15, 3)) (k : ZC D ad cA p l e R s m args below meth c nL Q (pc + 3) lv (.ref (ad (rA x 1)) :: st) σ) : ZC D ad cA p l e R s m args below meth c nL Q pc lv (.ref (ad x) :: st) σ :=
  z_get C 1 mC_71 i_Ro rfl (oC_Ro hx) (Nat.le_of_ble_eq_true rfl) rfl rfl hd k
set_option maxHeartbeats 4000000 in
set_option maxRecDepth 100000 in
theorem arC_Ro_1 {ad : Nat → Nat} {cA : Nat → ClassId} {σ : zS} {x : Nat} (h : isRow x = true) : (wdC ad cA σ)[(rA x 1)]? = some (ad (rA x 1), .inl (cA (rA x 1), 200, .inr (.inl (mb σ (rA x 1))))) := by
  rcases isRow_or h with rfl | rfl | rfl | rfl | rfl <;> rfl
set_option maxHeartbeats 4000000 in
set_option maxRecDepth 100000 in
theorem atC_Ro_1 {cA : Nat → ClassId} {x : Nat} (h : isRow x = true) : (tysC cA)[(rA x 1) - 19]? = some (cA (rA x 1), .long) := by
  rcases isRow_or h with rfl | rfl | rfl | rfl | rfl <;> rfl
set_option maxHeartbeats 4000000 in
set_option maxRecDepth 100000 in
theorem aSC_Ro_1 {ad : Nat → Nat} {cA : Nat → ClassId} {σ : zS} {x : Nat} (h : isRow x = true) {f : Nat → Int64} : (wdC ad cA σ).set (rA x 1) (ad (rA x 1), .inl (cA (rA x 1), 200, .inr (.inl (f)))) = wdC ad cA (tB σ (rA x 1) f) := by
  rcases isRow_or h with rfl | rfl | rfl | rfl | rfl <;> rfl
set_option maxHeartbeats 4000000 in
set_option maxRecDepth 100000 in
theorem alC_Ro_1 {D : va_G} {ad : Nat → Nat} {cA : Nat → ClassId} {X : State → Prop} {p : Program} {l : Launch} {e : Env} {R : Room} {s : State} {m : MethodId} {args : Array Value} {below : List Frame} {meth : Method} {c : Code} {cc : ByteArray} {nL : Nat} {Q : State → Prop} {pc : Nat} {lv : List (Nat × Value)} {st : List Value} {σ : zS} {own : String} (C : CC D ad cA X p s m args meth c cc own nL) {x : Nat} (hx : isRow x = true) {i : Int32} {v : Int64} (hv : mb σ (rA x 1) i.toNatClampNeg = v) (hin : inb i 200 = true) (hd : decode cc pc = .ok (.laload, 1)) (k : ZC D ad cA p l e R s m args below meth c nL Q (pc + 1) lv (.long v :: st) σ) : ZC D ad cA p l e R s m args below meth c nL Q pc lv (.int i :: .ref (ad (rA x 1)) :: st) σ := by
  subst hv
  exact z_lald C (t0 := (rA x 1) - 19) (arC_Ro_1 hx) (atC_Ro_1 hx) hin hd k
set_option maxHeartbeats 4000000 in
set_option maxRecDepth 100000 in
theorem asC_Ro_1 {D : va_G} {ad : Nat → Nat} {cA : Nat → ClassId} {X : State → Prop} {p : Program} {l : Launch} {e : Env} {R : Room} {s : State} {m : MethodId} {args : Array Value} {below : List Frame} {meth : Method} {c : Code} {cc : ByteArray} {nL : Nat} {Q : State → Prop} {pc : Nat} {lv : List (Nat × Value)} {st : List Value} {σ : zS} {own : String} (C : CC D ad cA X p s m args meth c cc own nL) {x : Nat} (hx : isRow x = true) {i : Int32} {v : Int64} (hin : inb i 200 = true) (hd : decode cc pc = .ok (.lastore, 1)) (k : ZC D ad cA p l e R s m args below meth c nL Q (pc + 1) lv st (tb σ (rA x 1) i.toNatClampNeg v)) : ZC D ad cA p l e R s m args below meth c nL Q pc lv (.long v :: .int i :: .ref (ad (rA x 1)) :: st) σ :=
  z_last C (t0 := (rA x 1) - 19) (arC_Ro_1 hx) (atC_Ro_1 hx) hin (aSC_Ro_1 hx) hd k
set_option maxHeartbeats 4000000 in
set_option maxRecDepth 100000 in
theorem gC_Ro_19 {D : va_G} {ad : Nat → Nat} {cA : Nat → ClassId} {X : State → Prop} {p : Program} {l : Launch} {e : Env} {R : Room} {s : State} {m : MethodId} {args : Array Value} {below : List Frame} {meth : Method} {c : Code} {cc : ByteArray} {nL : Nat} {Q : State → Prop} {pc : Nat} {lv : List (Nat × Value)} {st : List Value} {σ : zS} (C : CC D ad cA X p s m args meth c cc "KindRounds$Row" nL) {x : Nat} (hx : isRow x = true) (hd : decode cc pc = .ok (.getfield 19, 3)) (k : ZC D ad cA p l e R s m args below meth c nL Q (pc + 3) lv (.ref (ad (rA x 2)) :: st) σ) : ZC D ad cA p l e R s m args below meth c nL Q pc lv (.ref (ad x) :: st) σ :=
  z_get C 2 mC_72 i_Ro rfl (oC_Ro hx) (Nat.le_of_ble_eq_true rfl) rfl rfl hd k
set_option maxHeartbeats 4000000 in
set_option maxRecDepth 100000 in
theorem arC_Ro_2 {ad : Nat → Nat} {cA : Nat → ClassId} {σ : zS} {x : Nat} (h : isRow x = true) : (wdC ad cA σ)[(rA x 2)]? = some (ad (rA x 2), .inl (cA (rA x 2), 200, .inl (ma σ (rA x 2)))) := by
  rcases isRow_or h with rfl | rfl | rfl | rfl | rfl <;> rfl
set_option maxHeartbeats 4000000 in
set_option maxRecDepth 100000 in
theorem atC_Ro_2 {cA : Nat → ClassId} {x : Nat} (h : isRow x = true) : (tysC cA)[(rA x 2) - 19]? = some (cA (rA x 2), .int) := by
  rcases isRow_or h with rfl | rfl | rfl | rfl | rfl <;> rfl
set_option maxHeartbeats 4000000 in
set_option maxRecDepth 100000 in
theorem aSC_Ro_2 {ad : Nat → Nat} {cA : Nat → ClassId} {σ : zS} {x : Nat} (h : isRow x = true) {f : Nat → Int32} : (wdC ad cA σ).set (rA x 2) (ad (rA x 2), .inl (cA (rA x 2), 200, .inl (f))) = wdC ad cA (tA σ (rA x 2) f) := by
  rcases isRow_or h with rfl | rfl | rfl | rfl | rfl <;> rfl
set_option maxHeartbeats 4000000 in
set_option maxRecDepth 100000 in
theorem alC_Ro_2 {D : va_G} {ad : Nat → Nat} {cA : Nat → ClassId} {X : State → Prop} {p : Program} {l : Launch} {e : Env} {R : Room} {s : State} {m : MethodId} {args : Array Value} {below : List Frame} {meth : Method} {c : Code} {cc : ByteArray} {nL : Nat} {Q : State → Prop} {pc : Nat} {lv : List (Nat × Value)} {st : List Value} {σ : zS} {own : String} (C : CC D ad cA X p s m args meth c cc own nL) {x : Nat} (hx : isRow x = true) {i : Int32} {v : Int32} (hv : ma σ (rA x 2) i.toNatClampNeg = v) (hin : inb i 200 = true) (hd : decode cc pc = .ok (.iaload, 1)) (k : ZC D ad cA p l e R s m args below meth c nL Q (pc + 1) lv (.int v :: st) σ) : ZC D ad cA p l e R s m args below meth c nL Q pc lv (.int i :: .ref (ad (rA x 2)) :: st) σ := by
  subst hv
  exact z_iald C (t0 := (rA x 2) - 19) (arC_Ro_2 hx) (atC_Ro_2 hx) hin hd k
set_option maxHeartbeats 4000000 in
set_option maxRecDepth 100000 in
theorem asC_Ro_2 {D : va_G} {ad : Nat → Nat} {cA : Nat → ClassId} {X : State → Prop} {p : Program} {l : Launch} {e : Env} {R : Room} {s : State} {m : MethodId} {args : Array Value} {below : List Frame} {meth : Method} {c : Code} {cc : ByteArray} {nL : Nat} {Q : State → Prop} {pc : Nat} {lv : List (Nat × Value)} {st : List Value} {σ : zS} {own : String} (C : CC D ad cA X p s m args meth c cc own nL) {x : Nat} (hx : isRow x = true) {i : Int32} {v : Int32} (hin : inb i 200 = true) (hd : decode cc pc = .ok (.iastore, 1)) (k : ZC D ad cA p l e R s m args below meth c nL Q (pc + 1) lv st (ta σ (rA x 2) i.toNatClampNeg v)) : ZC D ad cA p l e R s m args below meth c nL Q pc lv (.int v :: .int i :: .ref (ad (rA x 2)) :: st) σ :=
  z_iast C (t0 := (rA x 2) - 19) (arC_Ro_2 hx) (atC_Ro_2 hx) hin (aSC_Ro_2 hx) hd k
set_option maxHeartbeats 4000000 in
set_option maxRecDepth 100000 in
theorem gC_Ro_22 {D : va_G} {ad : Nat → Nat} {cA : Nat → ClassId} {X : State → Prop} {p : Program} {l : Launch} {e : Env} {R : Room} {s : State} {m : MethodId} {args : Array Value} {below : List Frame} {meth : Method} {c : Code} {cc : ByteArray} {nL : Nat} {Q : State → Prop} {pc : Nat} {lv : List (Nat × Value)} {st : List Value} {σ : zS} (C : CC D ad cA X p s m args meth c cc "KindRounds$Row" nL) {x : Nat} (hx : isRow x = true) (hd : decode cc pc = .ok (.getfield 22, 3)) (k : ZC D ad cA p l e R s m args below meth c nL Q (pc + 3) lv (.ref (ad (rA x 3)) :: st) σ) : ZC D ad cA p l e R s m args below meth c nL Q pc lv (.ref (ad x) :: st) σ :=
  z_get C 3 mC_73 i_Ro rfl (oC_Ro hx) (Nat.le_of_ble_eq_true rfl) rfl rfl hd k
set_option maxHeartbeats 4000000 in
set_option maxRecDepth 100000 in
theorem arC_Ro_3 {ad : Nat → Nat} {cA : Nat → ClassId} {σ : zS} {x : Nat} (h : isRow x = true) : (wdC ad cA σ)[(rA x 3)]? = some (ad (rA x 3), .inl (cA (rA x 3), 200, .inl (ma σ (rA x 3)))) := by
  rcases isRow_or h with rfl | rfl | rfl | rfl | rfl <;> rfl
set_option maxHeartbeats 4000000 in
set_option maxRecDepth 100000 in
theorem atC_Ro_3 {cA : Nat → ClassId} {x : Nat} (h : isRow x = true) : (tysC cA)[(rA x 3) - 19]? = some (cA (rA x 3), .int) := by
  rcases isRow_or h with rfl | rfl | rfl | rfl | rfl <;> rfl
set_option maxHeartbeats 4000000 in
set_option maxRecDepth 100000 in
theorem aSC_Ro_3 {ad : Nat → Nat} {cA : Nat → ClassId} {σ : zS} {x : Nat} (h : isRow x = true) {f : Nat → Int32} : (wdC ad cA σ).set (rA x 3) (ad (rA x 3), .inl (cA (rA x 3), 200, .inl (f))) = wdC ad cA (tA σ (rA x 3) f) := by
  rcases isRow_or h with rfl | rfl | rfl | rfl | rfl <;> rfl
set_option maxHeartbeats 4000000 in
set_option maxRecDepth 100000 in
theorem alC_Ro_3 {D : va_G} {ad : Nat → Nat} {cA : Nat → ClassId} {X : State → Prop} {p : Program} {l : Launch} {e : Env} {R : Room} {s : State} {m : MethodId} {args : Array Value} {below : List Frame} {meth : Method} {c : Code} {cc : ByteArray} {nL : Nat} {Q : State → Prop} {pc : Nat} {lv : List (Nat × Value)} {st : List Value} {σ : zS} {own : String} (C : CC D ad cA X p s m args meth c cc own nL) {x : Nat} (hx : isRow x = true) {i : Int32} {v : Int32} (hv : ma σ (rA x 3) i.toNatClampNeg = v) (hin : inb i 200 = true) (hd : decode cc pc = .ok (.iaload, 1)) (k : ZC D ad cA p l e R s m args below meth c nL Q (pc + 1) lv (.int v :: st) σ) : ZC D ad cA p l e R s m args below meth c nL Q pc lv (.int i :: .ref (ad (rA x 3)) :: st) σ := by
  subst hv
  exact z_iald C (t0 := (rA x 3) - 19) (arC_Ro_3 hx) (atC_Ro_3 hx) hin hd k
set_option maxHeartbeats 4000000 in
set_option maxRecDepth 100000 in
theorem asC_Ro_3 {D : va_G} {ad : Nat → Nat} {cA : Nat → ClassId} {X : State → Prop} {p : Program} {l : Launch} {e : Env} {R : Room} {s : State} {m : MethodId} {args : Array Value} {below : List Frame} {meth : Method} {c : Code} {cc : ByteArray} {nL : Nat} {Q : State → Prop} {pc : Nat} {lv : List (Nat × Value)} {st : List Value} {σ : zS} {own : String} (C : CC D ad cA X p s m args meth c cc own nL) {x : Nat} (hx : isRow x = true) {i : Int32} {v : Int32} (hin : inb i 200 = true) (hd : decode cc pc = .ok (.iastore, 1)) (k : ZC D ad cA p l e R s m args below meth c nL Q (pc + 1) lv st (ta σ (rA x 3) i.toNatClampNeg v)) : ZC D ad cA p l e R s m args below meth c nL Q pc lv (.int v :: .int i :: .ref (ad (rA x 3)) :: st) σ :=
  z_iast C (t0 := (rA x 3) - 19) (arC_Ro_3 hx) (atC_Ro_3 hx) hin (aSC_Ro_3 hx) hd k
set_option maxHeartbeats 4000000 in
set_option maxRecDepth 100000 in
theorem oC_5 {ad : Nat → Nat} {cA : Nat → ClassId} {σ : zS} : (wdC ad cA σ)[5]? = some (ad 5, .inr (5, [.ref (ad 43), .ref (ad 44), .ref (ad 45), .ref (ad 46), .ref (ad 47), .int (gi σ 505)])) := rfl
set_option maxHeartbeats 4000000 in
set_option maxRecDepth 100000 in
theorem pC_Me_26 {D : va_G} {ad : Nat → Nat} {cA : Nat → ClassId} {X : State → Prop} {p : Program} {l : Launch} {e : Env} {R : Room} {s : State} {m : MethodId} {args : Array Value} {below : List Frame} {meth : Method} {c : Code} {cc : ByteArray} {nL : Nat} {Q : State → Prop} {pc : Nat} {lv : List (Nat × Value)} {st : List Value} {σ : zS} (C : CC D ad cA X p s m args meth c cc "KindRounds$Mentions" nL) {v : Int32} (hd : decode cc pc = .ok (.putfield 26, 3)) (k : ZC D ad cA p l e R s m args below meth c nL Q (pc + 3) lv st (si σ 505 v)) : ZC D ad cA p l e R s m args below meth c nL Q pc lv (.int v :: .ref (ad 5) :: st) σ :=
  z_put C 5 (ty := .int) mC_76 i_Me t_Me t_Me_ok n_Me rfl oC_5 (Nat.le_of_ble_eq_true rfl) rfl rfl rfl rfl rfl (Nat.le_of_ble_eq_true rfl) rfl hd k
set_option maxHeartbeats 4000000 in
set_option maxRecDepth 100000 in
theorem gC_Me_26 {D : va_G} {ad : Nat → Nat} {cA : Nat → ClassId} {X : State → Prop} {p : Program} {l : Launch} {e : Env} {R : Room} {s : State} {m : MethodId} {args : Array Value} {below : List Frame} {meth : Method} {c : Code} {cc : ByteArray} {nL : Nat} {Q : State → Prop} {pc : Nat} {lv : List (Nat × Value)} {st : List Value} {σ : zS} (C : CC D ad cA X p s m args meth c cc "KindRounds$Mentions" nL) {v : Int32} (hv : gi σ 505 = v) (hd : decode cc pc = .ok (.getfield 26, 3)) (k : ZC D ad cA p l e R s m args below meth c nL Q (pc + 3) lv (.int v :: st) σ) : ZC D ad cA p l e R s m args below meth c nL Q pc lv (.ref (ad 5) :: st) σ := by
  subst hv
  exact z_get C 5 mC_76 i_Me rfl oC_5 (Nat.le_of_ble_eq_true rfl) rfl rfl hd k
set_option maxHeartbeats 4000000 in
set_option maxRecDepth 100000 in
theorem gC_Me_9 {D : va_G} {ad : Nat → Nat} {cA : Nat → ClassId} {X : State → Prop} {p : Program} {l : Launch} {e : Env} {R : Room} {s : State} {m : MethodId} {args : Array Value} {below : List Frame} {meth : Method} {c : Code} {cc : ByteArray} {nL : Nat} {Q : State → Prop} {pc : Nat} {lv : List (Nat × Value)} {st : List Value} {σ : zS} (C : CC D ad cA X p s m args meth c cc "KindRounds$Mentions" nL) (hd : decode cc pc = .ok (.getfield 9, 3)) (k : ZC D ad cA p l e R s m args below meth c nL Q (pc + 3) lv (.ref (ad 43) :: st) σ) : ZC D ad cA p l e R s m args below meth c nL Q pc lv (.ref (ad 5) :: st) σ :=
  z_get C 0 mC_77 i_Me rfl oC_5 (Nat.le_of_ble_eq_true rfl) rfl rfl hd k
set_option maxHeartbeats 4000000 in
set_option maxRecDepth 100000 in
theorem alC_43 {D : va_G} {ad : Nat → Nat} {cA : Nat → ClassId} {X : State → Prop} {p : Program} {l : Launch} {e : Env} {R : Room} {s : State} {m : MethodId} {args : Array Value} {below : List Frame} {meth : Method} {c : Code} {cc : ByteArray} {nL : Nat} {Q : State → Prop} {pc : Nat} {lv : List (Nat × Value)} {st : List Value} {σ : zS} {own : String} (C : CC D ad cA X p s m args meth c cc own nL) {i : Int32} {v : Int32} (hv : ga σ 43 i.toNatClampNeg = v) (hin : inb i 600 = true) (hd : decode cc pc = .ok (.iaload, 1)) (k : ZC D ad cA p l e R s m args below meth c nL Q (pc + 1) lv (.int v :: st) σ) : ZC D ad cA p l e R s m args below meth c nL Q pc lv (.int i :: .ref (ad 43) :: st) σ := by
  subst hv
  exact z_iald C (t0 := 24) (q0 := 43) rfl rfl hin hd k
set_option maxHeartbeats 4000000 in
set_option maxRecDepth 100000 in
theorem asC_43 {D : va_G} {ad : Nat → Nat} {cA : Nat → ClassId} {X : State → Prop} {p : Program} {l : Launch} {e : Env} {R : Room} {s : State} {m : MethodId} {args : Array Value} {below : List Frame} {meth : Method} {c : Code} {cc : ByteArray} {nL : Nat} {Q : State → Prop} {pc : Nat} {lv : List (Nat × Value)} {st : List Value} {σ : zS} {own : String} (C : CC D ad cA X p s m args meth c cc own nL) {i : Int32} {v : Int32} (hin : inb i 600 = true) (hd : decode cc pc = .ok (.iastore, 1)) (k : ZC D ad cA p l e R s m args below meth c nL Q (pc + 1) lv st (sa σ 43 i.toNatClampNeg v)) : ZC D ad cA p l e R s m args below meth c nL Q pc lv (.int v :: .int i :: .ref (ad 43) :: st) σ :=
  z_iast C (t0 := 24) (q0 := 43) rfl rfl hin rfl hd k
set_option maxHeartbeats 4000000 in
set_option maxRecDepth 100000 in
theorem gC_Me_13 {D : va_G} {ad : Nat → Nat} {cA : Nat → ClassId} {X : State → Prop} {p : Program} {l : Launch} {e : Env} {R : Room} {s : State} {m : MethodId} {args : Array Value} {below : List Frame} {meth : Method} {c : Code} {cc : ByteArray} {nL : Nat} {Q : State → Prop} {pc : Nat} {lv : List (Nat × Value)} {st : List Value} {σ : zS} (C : CC D ad cA X p s m args meth c cc "KindRounds$Mentions" nL) (hd : decode cc pc = .ok (.getfield 13, 3)) (k : ZC D ad cA p l e R s m args below meth c nL Q (pc + 3) lv (.ref (ad 44) :: st) σ) : ZC D ad cA p l e R s m args below meth c nL Q pc lv (.ref (ad 5) :: st) σ :=
  z_get C 1 mC_78 i_Me rfl oC_5 (Nat.le_of_ble_eq_true rfl) rfl rfl hd k
set_option maxHeartbeats 4000000 in
set_option maxRecDepth 100000 in
theorem alC_44 {D : va_G} {ad : Nat → Nat} {cA : Nat → ClassId} {X : State → Prop} {p : Program} {l : Launch} {e : Env} {R : Room} {s : State} {m : MethodId} {args : Array Value} {below : List Frame} {meth : Method} {c : Code} {cc : ByteArray} {nL : Nat} {Q : State → Prop} {pc : Nat} {lv : List (Nat × Value)} {st : List Value} {σ : zS} {own : String} (C : CC D ad cA X p s m args meth c cc own nL) {i : Int32} {v : Int64} (hv : gb σ 44 i.toNatClampNeg = v) (hin : inb i 600 = true) (hd : decode cc pc = .ok (.laload, 1)) (k : ZC D ad cA p l e R s m args below meth c nL Q (pc + 1) lv (.long v :: st) σ) : ZC D ad cA p l e R s m args below meth c nL Q pc lv (.int i :: .ref (ad 44) :: st) σ := by
  subst hv
  exact z_lald C (t0 := 25) (q0 := 44) rfl rfl hin hd k
set_option maxHeartbeats 4000000 in
set_option maxRecDepth 100000 in
theorem asC_44 {D : va_G} {ad : Nat → Nat} {cA : Nat → ClassId} {X : State → Prop} {p : Program} {l : Launch} {e : Env} {R : Room} {s : State} {m : MethodId} {args : Array Value} {below : List Frame} {meth : Method} {c : Code} {cc : ByteArray} {nL : Nat} {Q : State → Prop} {pc : Nat} {lv : List (Nat × Value)} {st : List Value} {σ : zS} {own : String} (C : CC D ad cA X p s m args meth c cc own nL) {i : Int32} {v : Int64} (hin : inb i 600 = true) (hd : decode cc pc = .ok (.lastore, 1)) (k : ZC D ad cA p l e R s m args below meth c nL Q (pc + 1) lv st (sb σ 44 i.toNatClampNeg v)) : ZC D ad cA p l e R s m args below meth c nL Q pc lv (.long v :: .int i :: .ref (ad 44) :: st) σ :=
  z_last C (t0 := 25) (q0 := 44) rfl rfl hin rfl hd k
set_option maxHeartbeats 4000000 in
set_option maxRecDepth 100000 in
theorem gC_Me_17 {D : va_G} {ad : Nat → Nat} {cA : Nat → ClassId} {X : State → Prop} {p : Program} {l : Launch} {e : Env} {R : Room} {s : State} {m : MethodId} {args : Array Value} {below : List Frame} {meth : Method} {c : Code} {cc : ByteArray} {nL : Nat} {Q : State → Prop} {pc : Nat} {lv : List (Nat × Value)} {st : List Value} {σ : zS} (C : CC D ad cA X p s m args meth c cc "KindRounds$Mentions" nL) (hd : decode cc pc = .ok (.getfield 17, 3)) (k : ZC D ad cA p l e R s m args below meth c nL Q (pc + 3) lv (.ref (ad 45) :: st) σ) : ZC D ad cA p l e R s m args below meth c nL Q pc lv (.ref (ad 5) :: st) σ :=
  z_get C 2 mC_80 i_Me rfl oC_5 (Nat.le_of_ble_eq_true rfl) rfl rfl hd k
set_option maxHeartbeats 4000000 in
set_option maxRecDepth 100000 in
theorem alC_45 {D : va_G} {ad : Nat → Nat} {cA : Nat → ClassId} {X : State → Prop} {p : Program} {l : Launch} {e : Env} {R : Room} {s : State} {m : MethodId} {args : Array Value} {below : List Frame} {meth : Method} {c : Code} {cc : ByteArray} {nL : Nat} {Q : State → Prop} {pc : Nat} {lv : List (Nat × Value)} {st : List Value} {σ : zS} {own : String} (C : CC D ad cA X p s m args meth c cc own nL) {i : Int32} {v : Int32} (hv : ga σ 45 i.toNatClampNeg = v) (hin : inb i 600 = true) (hd : decode cc pc = .ok (.iaload, 1)) (k : ZC D ad cA p l e R s m args below meth c nL Q (pc + 1) lv (.int v :: st) σ) : ZC D ad cA p l e R s m args below meth c nL Q pc lv (.int i :: .ref (ad 45) :: st) σ := by
  subst hv
  exact z_iald C (t0 := 26) (q0 := 45) rfl rfl hin hd k
set_option maxHeartbeats 4000000 in
set_option maxRecDepth 100000 in
theorem asC_45 {D : va_G} {ad : Nat → Nat} {cA : Nat → ClassId} {X : State → Prop} {p : Program} {l : Launch} {e : Env} {R : Room} {s : State} {m : MethodId} {args : Array Value} {below : List Frame} {meth : Method} {c : Code} {cc : ByteArray} {nL : Nat} {Q : State → Prop} {pc : Nat} {lv : List (Nat × Value)} {st : List Value} {σ : zS} {own : String} (C : CC D ad cA X p s m args meth c cc own nL) {i : Int32} {v : Int32} (hin : inb i 600 = true) (hd : decode cc pc = .ok (.iastore, 1)) (k : ZC D ad cA p l e R s m args below meth c nL Q (pc + 1) lv st (sa σ 45 i.toNatClampNeg v)) : ZC D ad cA p l e R s m args below meth c nL Q pc lv (.int v :: .int i :: .ref (ad 45) :: st) σ :=
  z_iast C (t0 := 26) (q0 := 45) rfl rfl hin rfl hd k
set_option maxHeartbeats 4000000 in
set_option maxRecDepth 100000 in
theorem gC_Me_20 {D : va_G} {ad : Nat → Nat} {cA : Nat → ClassId} {X : State → Prop} {p : Program} {l : Launch} {e : Env} {R : Room} {s : State} {m : MethodId} {args : Array Value} {below : List Frame} {meth : Method} {c : Code} {cc : ByteArray} {nL : Nat} {Q : State → Prop} {pc : Nat} {lv : List (Nat × Value)} {st : List Value} {σ : zS} (C : CC D ad cA X p s m args meth c cc "KindRounds$Mentions" nL) (hd : decode cc pc = .ok (.getfield 20, 3)) (k : ZC D ad cA p l e R s m args below meth c nL Q (pc + 3) lv (.ref (ad 46) :: st) σ) : ZC D ad cA p l e R s m args below meth c nL Q pc lv (.ref (ad 5) :: st) σ :=
  z_get C 3 mC_82 i_Me rfl oC_5 (Nat.le_of_ble_eq_true rfl) rfl rfl hd k
set_option maxHeartbeats 4000000 in
set_option maxRecDepth 100000 in
theorem alC_46 {D : va_G} {ad : Nat → Nat} {cA : Nat → ClassId} {X : State → Prop} {p : Program} {l : Launch} {e : Env} {R : Room} {s : State} {m : MethodId} {args : Array Value} {below : List Frame} {meth : Method} {c : Code} {cc : ByteArray} {nL : Nat} {Q : State → Prop} {pc : Nat} {lv : List (Nat × Value)} {st : List Value} {σ : zS} {own : String} (C : CC D ad cA X p s m args meth c cc own nL) {i : Int32} {v : Int32} (hv : ga σ 46 i.toNatClampNeg = v) (hin : inb i 600 = true) (hd : decode cc pc = .ok (.iaload, 1)) (k : ZC D ad cA p l e R s m args below meth c nL Q (pc + 1) lv (.int v :: st) σ) : ZC D ad cA p l e R s m args below meth c nL Q pc lv (.int i :: .ref (ad 46) :: st) σ := by
  subst hv
  exact z_iald C (t0 := 27) (q0 := 46) rfl rfl hin hd k
set_option maxHeartbeats 4000000 in
set_option maxRecDepth 100000 in
theorem asC_46 {D : va_G} {ad : Nat → Nat} {cA : Nat → ClassId} {X : State → Prop} {p : Program} {l : Launch} {e : Env} {R : Room} {s : State} {m : MethodId} {args : Array Value} {below : List Frame} {meth : Method} {c : Code} {cc : ByteArray} {nL : Nat} {Q : State → Prop} {pc : Nat} {lv : List (Nat × Value)} {st : List Value} {σ : zS} {own : String} (C : CC D ad cA X p s m args meth c cc own nL) {i : Int32} {v : Int32} (hin : inb i 600 = true) (hd : decode cc pc = .ok (.iastore, 1)) (k : ZC D ad cA p l e R s m args below meth c nL Q (pc + 1) lv st (sa σ 46 i.toNatClampNeg v)) : ZC D ad cA p l e R s m args below meth c nL Q pc lv (.int v :: .int i :: .ref (ad 46) :: st) σ :=
  z_iast C (t0 := 27) (q0 := 46) rfl rfl hin rfl hd k
set_option maxHeartbeats 4000000 in
set_option maxRecDepth 100000 in
theorem gC_Me_23 {D : va_G} {ad : Nat → Nat} {cA : Nat → ClassId} {X : State → Prop} {p : Program} {l : Launch} {e : Env} {R : Room} {s : State} {m : MethodId} {args : Array Value} {below : List Frame} {meth : Method} {c : Code} {cc : ByteArray} {nL : Nat} {Q : State → Prop} {pc : Nat} {lv : List (Nat × Value)} {st : List Value} {σ : zS} (C : CC D ad cA X p s m args meth c cc "KindRounds$Mentions" nL) (hd : decode cc pc = .ok (.getfield 23, 3)) (k : ZC D ad cA p l e R s m args below meth c nL Q (pc + 3) lv (.ref (ad 47) :: st) σ) : ZC D ad cA p l e R s m args below meth c nL Q pc lv (.ref (ad 5) :: st) σ :=
  z_get C 4 mC_83 i_Me rfl oC_5 (Nat.le_of_ble_eq_true rfl) rfl rfl hd k
set_option maxHeartbeats 4000000 in
set_option maxRecDepth 100000 in
theorem alC_47 {D : va_G} {ad : Nat → Nat} {cA : Nat → ClassId} {X : State → Prop} {p : Program} {l : Launch} {e : Env} {R : Room} {s : State} {m : MethodId} {args : Array Value} {below : List Frame} {meth : Method} {c : Code} {cc : ByteArray} {nL : Nat} {Q : State → Prop} {pc : Nat} {lv : List (Nat × Value)} {st : List Value} {σ : zS} {own : String} (C : CC D ad cA X p s m args meth c cc own nL) {i : Int32} {v : Int32} (hv : ga σ 47 i.toNatClampNeg = v) (hin : inb i 600 = true) (hd : decode cc pc = .ok (.iaload, 1)) (k : ZC D ad cA p l e R s m args below meth c nL Q (pc + 1) lv (.int v :: st) σ) : ZC D ad cA p l e R s m args below meth c nL Q pc lv (.int i :: .ref (ad 47) :: st) σ := by
  subst hv
  exact z_iald C (t0 := 28) (q0 := 47) rfl rfl hin hd k
set_option maxHeartbeats 4000000 in
set_option maxRecDepth 100000 in
theorem asC_47 {D : va_G} {ad : Nat → Nat} {cA : Nat → ClassId} {X : State → Prop} {p : Program} {l : Launch} {e : Env} {R : Room} {s : State} {m : MethodId} {args : Array Value} {below : List Frame} {meth : Method} {c : Code} {cc : ByteArray} {nL : Nat} {Q : State → Prop} {pc : Nat} {lv : List (Nat × Value)} {st : List Value} {σ : zS} {own : String} (C : CC D ad cA X p s m args meth c cc own nL) {i : Int32} {v : Int32} (hin : inb i 600 = true) (hd : decode cc pc = .ok (.iastore, 1)) (k : ZC D ad cA p l e R s m args below meth c nL Q (pc + 1) lv st (sa σ 47 i.toNatClampNeg v)) : ZC D ad cA p l e R s m args below meth c nL Q pc lv (.int v :: .int i :: .ref (ad 47) :: st) σ :=
  z_iast C (t0 := 28) (q0 := 47) rfl rfl hin rfl hd k
set_option maxHeartbeats 4000000 in
set_option maxRecDepth 100000 in
theorem oC_4 {ad : Nat → Nat} {cA : Nat → ClassId} {σ : zS} : (wdC ad cA σ)[4]? = some (ad 4, .inr (4, [.int (gi σ 400), .ref (ad 29), .ref (ad 30), .ref (ad 31), .ref (ad 32), .ref (ad 33), .ref (ad 34), .ref (ad 35), .ref (ad 36), .ref (ad 37), .ref (ad 38), .ref (ad 39), .int (gi σ 412), .ref (ad 40), .ref (ad 41), .ref (ad 42), .ref (ad 10)])) := rfl
set_option maxHeartbeats 4000000 in
set_option maxRecDepth 100000 in
theorem pC_Te_62 {D : va_G} {ad : Nat → Nat} {cA : Nat → ClassId} {X : State → Prop} {p : Program} {l : Launch} {e : Env} {R : Room} {s : State} {m : MethodId} {args : Array Value} {below : List Frame} {meth : Method} {c : Code} {cc : ByteArray} {nL : Nat} {Q : State → Prop} {pc : Nat} {lv : List (Nat × Value)} {st : List Value} {σ : zS} (C : CC D ad cA X p s m args meth c cc "KindRounds$Text" nL) {v : Int32} (hd : decode cc pc = .ok (.putfield 62, 3)) (k : ZC D ad cA p l e R s m args below meth c nL Q (pc + 3) lv st (si σ 400 v)) : ZC D ad cA p l e R s m args below meth c nL Q pc lv (.int v :: .ref (ad 4) :: st) σ :=
  z_put C 0 (ty := .int) mC_84 i_Te t_Te t_Te_ok n_Te rfl oC_4 (Nat.le_of_ble_eq_true rfl) rfl rfl rfl rfl rfl (Nat.le_of_ble_eq_true rfl) rfl hd k
set_option maxHeartbeats 4000000 in
set_option maxRecDepth 100000 in
theorem pC_Te_66 {D : va_G} {ad : Nat → Nat} {cA : Nat → ClassId} {X : State → Prop} {p : Program} {l : Launch} {e : Env} {R : Room} {s : State} {m : MethodId} {args : Array Value} {below : List Frame} {meth : Method} {c : Code} {cc : ByteArray} {nL : Nat} {Q : State → Prop} {pc : Nat} {lv : List (Nat × Value)} {st : List Value} {σ : zS} (C : CC D ad cA X p s m args meth c cc "KindRounds$Text" nL) {v : Int32} (hd : decode cc pc = .ok (.putfield 66, 3)) (k : ZC D ad cA p l e R s m args below meth c nL Q (pc + 3) lv st (si σ 412 v)) : ZC D ad cA p l e R s m args below meth c nL Q pc lv (.int v :: .ref (ad 4) :: st) σ :=
  z_put C 12 (ty := .int) mC_85 i_Te t_Te t_Te_ok n_Te rfl oC_4 (Nat.le_of_ble_eq_true rfl) rfl rfl rfl rfl rfl (Nat.le_of_ble_eq_true rfl) rfl hd k
set_option maxHeartbeats 4000000 in
set_option maxRecDepth 100000 in
theorem gC_Te_58 {D : va_G} {ad : Nat → Nat} {cA : Nat → ClassId} {X : State → Prop} {p : Program} {l : Launch} {e : Env} {R : Room} {s : State} {m : MethodId} {args : Array Value} {below : List Frame} {meth : Method} {c : Code} {cc : ByteArray} {nL : Nat} {Q : State → Prop} {pc : Nat} {lv : List (Nat × Value)} {st : List Value} {σ : zS} (C : CC D ad cA X p s m args meth c cc "KindRounds$Text" nL) (hd : decode cc pc = .ok (.getfield 58, 3)) (k : ZC D ad cA p l e R s m args below meth c nL Q (pc + 3) lv (.ref (ad 10) :: st) σ) : ZC D ad cA p l e R s m args below meth c nL Q pc lv (.ref (ad 4) :: st) σ :=
  z_get C 16 mC_86 i_Te rfl oC_4 (Nat.le_of_ble_eq_true rfl) rfl rfl hd k
set_option maxHeartbeats 4000000 in
set_option maxRecDepth 100000 in
theorem gC_Te_62 {D : va_G} {ad : Nat → Nat} {cA : Nat → ClassId} {X : State → Prop} {p : Program} {l : Launch} {e : Env} {R : Room} {s : State} {m : MethodId} {args : Array Value} {below : List Frame} {meth : Method} {c : Code} {cc : ByteArray} {nL : Nat} {Q : State → Prop} {pc : Nat} {lv : List (Nat × Value)} {st : List Value} {σ : zS} (C : CC D ad cA X p s m args meth c cc "KindRounds$Text" nL) {v : Int32} (hv : gi σ 400 = v) (hd : decode cc pc = .ok (.getfield 62, 3)) (k : ZC D ad cA p l e R s m args below meth c nL Q (pc + 3) lv (.int v :: st) σ) : ZC D ad cA p l e R s m args below meth c nL Q pc lv (.ref (ad 4) :: st) σ := by
  subst hv
  exact z_get C 0 mC_84 i_Te rfl oC_4 (Nat.le_of_ble_eq_true rfl) rfl rfl hd k
set_option maxHeartbeats 4000000 in
set_option maxRecDepth 100000 in
theorem gC_Te_9 {D : va_G} {ad : Nat → Nat} {cA : Nat → ClassId} {X : State → Prop} {p : Program} {l : Launch} {e : Env} {R : Room} {s : State} {m : MethodId} {args : Array Value} {below : List Frame} {meth : Method} {c : Code} {cc : ByteArray} {nL : Nat} {Q : State → Prop} {pc : Nat} {lv : List (Nat × Value)} {st : List Value} {σ : zS} (C : CC D ad cA X p s m args meth c cc "KindRounds$Text" nL) (hd : decode cc pc = .ok (.getfield 9, 3)) (k : ZC D ad cA p l e R s m args below meth c nL Q (pc + 3) lv (.ref (ad 29) :: st) σ) : ZC D ad cA p l e R s m args below meth c nL Q pc lv (.ref (ad 4) :: st) σ :=
  z_get C 1 mC_88 i_Te rfl oC_4 (Nat.le_of_ble_eq_true rfl) rfl rfl hd k
set_option maxHeartbeats 4000000 in
set_option maxRecDepth 100000 in
theorem alC_29 {D : va_G} {ad : Nat → Nat} {cA : Nat → ClassId} {X : State → Prop} {p : Program} {l : Launch} {e : Env} {R : Room} {s : State} {m : MethodId} {args : Array Value} {below : List Frame} {meth : Method} {c : Code} {cc : ByteArray} {nL : Nat} {Q : State → Prop} {pc : Nat} {lv : List (Nat × Value)} {st : List Value} {σ : zS} {own : String} (C : CC D ad cA X p s m args meth c cc own nL) {i : Int32} {v : Int32} (hv : ga σ 29 i.toNatClampNeg = v) (hin : inb i 16 = true) (hd : decode cc pc = .ok (.iaload, 1)) (k : ZC D ad cA p l e R s m args below meth c nL Q (pc + 1) lv (.int v :: st) σ) : ZC D ad cA p l e R s m args below meth c nL Q pc lv (.int i :: .ref (ad 29) :: st) σ := by
  subst hv
  exact z_iald C (t0 := 10) (q0 := 29) rfl rfl hin hd k
set_option maxHeartbeats 4000000 in
set_option maxRecDepth 100000 in
theorem asC_29 {D : va_G} {ad : Nat → Nat} {cA : Nat → ClassId} {X : State → Prop} {p : Program} {l : Launch} {e : Env} {R : Room} {s : State} {m : MethodId} {args : Array Value} {below : List Frame} {meth : Method} {c : Code} {cc : ByteArray} {nL : Nat} {Q : State → Prop} {pc : Nat} {lv : List (Nat × Value)} {st : List Value} {σ : zS} {own : String} (C : CC D ad cA X p s m args meth c cc own nL) {i : Int32} {v : Int32} (hin : inb i 16 = true) (hd : decode cc pc = .ok (.iastore, 1)) (k : ZC D ad cA p l e R s m args below meth c nL Q (pc + 1) lv st (sa σ 29 i.toNatClampNeg v)) : ZC D ad cA p l e R s m args below meth c nL Q pc lv (.int v :: .int i :: .ref (ad 29) :: st) σ :=
  z_iast C (t0 := 10) (q0 := 29) rfl rfl hin rfl hd k
set_option maxHeartbeats 4000000 in
set_option maxRecDepth 100000 in
theorem gC_Te_15 {D : va_G} {ad : Nat → Nat} {cA : Nat → ClassId} {X : State → Prop} {p : Program} {l : Launch} {e : Env} {R : Room} {s : State} {m : MethodId} {args : Array Value} {below : List Frame} {meth : Method} {c : Code} {cc : ByteArray} {nL : Nat} {Q : State → Prop} {pc : Nat} {lv : List (Nat × Value)} {st : List Value} {σ : zS} (C : CC D ad cA X p s m args meth c cc "KindRounds$Text" nL) (hd : decode cc pc = .ok (.getfield 15, 3)) (k : ZC D ad cA p l e R s m args below meth c nL Q (pc + 3) lv (.ref (ad 30) :: st) σ) : ZC D ad cA p l e R s m args below meth c nL Q pc lv (.ref (ad 4) :: st) σ :=
  z_get C 2 mC_89 i_Te rfl oC_4 (Nat.le_of_ble_eq_true rfl) rfl rfl hd k
set_option maxHeartbeats 4000000 in
set_option maxRecDepth 100000 in
theorem alC_30 {D : va_G} {ad : Nat → Nat} {cA : Nat → ClassId} {X : State → Prop} {p : Program} {l : Launch} {e : Env} {R : Room} {s : State} {m : MethodId} {args : Array Value} {below : List Frame} {meth : Method} {c : Code} {cc : ByteArray} {nL : Nat} {Q : State → Prop} {pc : Nat} {lv : List (Nat × Value)} {st : List Value} {σ : zS} {own : String} (C : CC D ad cA X p s m args meth c cc own nL) {i : Int32} {v : Int64} (hv : gb σ 30 i.toNatClampNeg = v) (hin : inb i 16 = true) (hd : decode cc pc = .ok (.laload, 1)) (k : ZC D ad cA p l e R s m args below meth c nL Q (pc + 1) lv (.long v :: st) σ) : ZC D ad cA p l e R s m args below meth c nL Q pc lv (.int i :: .ref (ad 30) :: st) σ := by
  subst hv
  exact z_lald C (t0 := 11) (q0 := 30) rfl rfl hin hd k
set_option maxHeartbeats 4000000 in
set_option maxRecDepth 100000 in
theorem asC_30 {D : va_G} {ad : Nat → Nat} {cA : Nat → ClassId} {X : State → Prop} {p : Program} {l : Launch} {e : Env} {R : Room} {s : State} {m : MethodId} {args : Array Value} {below : List Frame} {meth : Method} {c : Code} {cc : ByteArray} {nL : Nat} {Q : State → Prop} {pc : Nat} {lv : List (Nat × Value)} {st : List Value} {σ : zS} {own : String} (C : CC D ad cA X p s m args meth c cc own nL) {i : Int32} {v : Int64} (hin : inb i 16 = true) (hd : decode cc pc = .ok (.lastore, 1)) (k : ZC D ad cA p l e R s m args below meth c nL Q (pc + 1) lv st (sb σ 30 i.toNatClampNeg v)) : ZC D ad cA p l e R s m args below meth c nL Q pc lv (.long v :: .int i :: .ref (ad 30) :: st) σ :=
  z_last C (t0 := 11) (q0 := 30) rfl rfl hin rfl hd k
set_option maxHeartbeats 4000000 in
set_option maxRecDepth 100000 in
theorem gC_Te_19 {D : va_G} {ad : Nat → Nat} {cA : Nat → ClassId} {X : State → Prop} {p : Program} {l : Launch} {e : Env} {R : Room} {s : State} {m : MethodId} {args : Array Value} {below : List Frame} {meth : Method} {c : Code} {cc : ByteArray} {nL : Nat} {Q : State → Prop} {pc : Nat} {lv : List (Nat × Value)} {st : List Value} {σ : zS} (C : CC D ad cA X p s m args meth c cc "KindRounds$Text" nL) (hd : decode cc pc = .ok (.getfield 19, 3)) (k : ZC D ad cA p l e R s m args below meth c nL Q (pc + 3) lv (.ref (ad 31) :: st) σ) : ZC D ad cA p l e R s m args below meth c nL Q pc lv (.ref (ad 4) :: st) σ :=
  z_get C 3 mC_90 i_Te rfl oC_4 (Nat.le_of_ble_eq_true rfl) rfl rfl hd k
set_option maxHeartbeats 4000000 in
set_option maxRecDepth 100000 in
theorem alC_31 {D : va_G} {ad : Nat → Nat} {cA : Nat → ClassId} {X : State → Prop} {p : Program} {l : Launch} {e : Env} {R : Room} {s : State} {m : MethodId} {args : Array Value} {below : List Frame} {meth : Method} {c : Code} {cc : ByteArray} {nL : Nat} {Q : State → Prop} {pc : Nat} {lv : List (Nat × Value)} {st : List Value} {σ : zS} {own : String} (C : CC D ad cA X p s m args meth c cc own nL) {i : Int32} {v : Int32} (hv : ga σ 31 i.toNatClampNeg = v) (hin : inb i 16 = true) (hd : decode cc pc = .ok (.iaload, 1)) (k : ZC D ad cA p l e R s m args below meth c nL Q (pc + 1) lv (.int v :: st) σ) : ZC D ad cA p l e R s m args below meth c nL Q pc lv (.int i :: .ref (ad 31) :: st) σ := by
  subst hv
  exact z_iald C (t0 := 12) (q0 := 31) rfl rfl hin hd k
set_option maxHeartbeats 4000000 in
set_option maxRecDepth 100000 in
theorem asC_31 {D : va_G} {ad : Nat → Nat} {cA : Nat → ClassId} {X : State → Prop} {p : Program} {l : Launch} {e : Env} {R : Room} {s : State} {m : MethodId} {args : Array Value} {below : List Frame} {meth : Method} {c : Code} {cc : ByteArray} {nL : Nat} {Q : State → Prop} {pc : Nat} {lv : List (Nat × Value)} {st : List Value} {σ : zS} {own : String} (C : CC D ad cA X p s m args meth c cc own nL) {i : Int32} {v : Int32} (hin : inb i 16 = true) (hd : decode cc pc = .ok (.iastore, 1)) (k : ZC D ad cA p l e R s m args below meth c nL Q (pc + 1) lv st (sa σ 31 i.toNatClampNeg v)) : ZC D ad cA p l e R s m args below meth c nL Q pc lv (.int v :: .int i :: .ref (ad 31) :: st) σ :=
  z_iast C (t0 := 12) (q0 := 31) rfl rfl hin rfl hd k
set_option maxHeartbeats 4000000 in
set_option maxRecDepth 100000 in
theorem gC_Te_22 {D : va_G} {ad : Nat → Nat} {cA : Nat → ClassId} {X : State → Prop} {p : Program} {l : Launch} {e : Env} {R : Room} {s : State} {m : MethodId} {args : Array Value} {below : List Frame} {meth : Method} {c : Code} {cc : ByteArray} {nL : Nat} {Q : State → Prop} {pc : Nat} {lv : List (Nat × Value)} {st : List Value} {σ : zS} (C : CC D ad cA X p s m args meth c cc "KindRounds$Text" nL) (hd : decode cc pc = .ok (.getfield 22, 3)) (k : ZC D ad cA p l e R s m args below meth c nL Q (pc + 3) lv (.ref (ad 32) :: st) σ) : ZC D ad cA p l e R s m args below meth c nL Q pc lv (.ref (ad 4) :: st) σ :=
  z_get C 4 mC_91 i_Te rfl oC_4 (Nat.le_of_ble_eq_true rfl) rfl rfl hd k
set_option maxHeartbeats 4000000 in
set_option maxRecDepth 100000 in
theorem alC_32 {D : va_G} {ad : Nat → Nat} {cA : Nat → ClassId} {X : State → Prop} {p : Program} {l : Launch} {e : Env} {R : Room} {s : State} {m : MethodId} {args : Array Value} {below : List Frame} {meth : Method} {c : Code} {cc : ByteArray} {nL : Nat} {Q : State → Prop} {pc : Nat} {lv : List (Nat × Value)} {st : List Value} {σ : zS} {own : String} (C : CC D ad cA X p s m args meth c cc own nL) {i : Int32} {v : Int32} (hv : ga σ 32 i.toNatClampNeg = v) (hin : inb i 16 = true) (hd : decode cc pc = .ok (.iaload, 1)) (k : ZC D ad cA p l e R s m args below meth c nL Q (pc + 1) lv (.int v :: st) σ) : ZC D ad cA p l e R s m args below meth c nL Q pc lv (.int i :: .ref (ad 32) :: st) σ := by
  subst hv
  exact z_iald C (t0 := 13) (q0 := 32) rfl rfl hin hd k
set_option maxHeartbeats 4000000 in
set_option maxRecDepth 100000 in
theorem asC_32 {D : va_G} {ad : Nat → Nat} {cA : Nat → ClassId} {X : State → Prop} {p : Program} {l : Launch} {e : Env} {R : Room} {s : State} {m : MethodId} {args : Array Value} {below : List Frame} {meth : Method} {c : Code} {cc : ByteArray} {nL : Nat} {Q : State → Prop} {pc : Nat} {lv : List (Nat × Value)} {st : List Value} {σ : zS} {own : String} (C : CC D ad cA X p s m args meth c cc own nL) {i : Int32} {v : Int32} (hin : inb i 16 = true) (hd : decode cc pc = .ok (.iastore, 1)) (k : ZC D ad cA p l e R s m args below meth c nL Q (pc + 1) lv st (sa σ 32 i.toNatClampNeg v)) : ZC D ad cA p l e R s m args below meth c nL Q pc lv (.int v :: .int i :: .ref (ad 32) :: st) σ :=
  z_iast C (t0 := 13) (q0 := 32) rfl rfl hin rfl hd k
set_option maxHeartbeats 4000000 in
set_option maxRecDepth 100000 in
theorem gC_Te_28 {D : va_G} {ad : Nat → Nat} {cA : Nat → ClassId} {X : State → Prop} {p : Program} {l : Launch} {e : Env} {R : Room} {s : State} {m : MethodId} {args : Array Value} {below : List Frame} {meth : Method} {c : Code} {cc : ByteArray} {nL : Nat} {Q : State → Prop} {pc : Nat} {lv : List (Nat × Value)} {st : List Value} {σ : zS} (C : CC D ad cA X p s m args meth c cc "KindRounds$Text" nL) (hd : decode cc pc = .ok (.getfield 28, 3)) (k : ZC D ad cA p l e R s m args below meth c nL Q (pc + 3) lv (.ref (ad 34) :: st) σ) : ZC D ad cA p l e R s m args below meth c nL Q pc lv (.ref (ad 4) :: st) σ :=
  z_get C 6 mC_92 i_Te rfl oC_4 (Nat.le_of_ble_eq_true rfl) rfl rfl hd k
set_option maxHeartbeats 4000000 in
set_option maxRecDepth 100000 in
theorem alC_34 {D : va_G} {ad : Nat → Nat} {cA : Nat → ClassId} {X : State → Prop} {p : Program} {l : Launch} {e : Env} {R : Room} {s : State} {m : MethodId} {args : Array Value} {below : List Frame} {meth : Method} {c : Code} {cc : ByteArray} {nL : Nat} {Q : State → Prop} {pc : Nat} {lv : List (Nat × Value)} {st : List Value} {σ : zS} {own : String} (C : CC D ad cA X p s m args meth c cc own nL) {i : Int32} {v : Int32} (hv : ga σ 34 i.toNatClampNeg = v) (hin : inb i 16 = true) (hd : decode cc pc = .ok (.iaload, 1)) (k : ZC D ad cA p l e R s m args below meth c nL Q (pc + 1) lv (.int v :: st) σ) : ZC D ad cA p l e R s m args below meth c nL Q pc lv (.int i :: .ref (ad 34) :: st) σ := by
  subst hv
  exact z_iald C (t0 := 15) (q0 := 34) rfl rfl hin hd k
set_option maxHeartbeats 4000000 in
set_option maxRecDepth 100000 in
theorem asC_34 {D : va_G} {ad : Nat → Nat} {cA : Nat → ClassId} {X : State → Prop} {p : Program} {l : Launch} {e : Env} {R : Room} {s : State} {m : MethodId} {args : Array Value} {below : List Frame} {meth : Method} {c : Code} {cc : ByteArray} {nL : Nat} {Q : State → Prop} {pc : Nat} {lv : List (Nat × Value)} {st : List Value} {σ : zS} {own : String} (C : CC D ad cA X p s m args meth c cc own nL) {i : Int32} {v : Int32} (hin : inb i 16 = true) (hd : decode cc pc = .ok (.iastore, 1)) (k : ZC D ad cA p l e R s m args below meth c nL Q (pc + 1) lv st (sa σ 34 i.toNatClampNeg v)) : ZC D ad cA p l e R s m args below meth c nL Q pc lv (.int v :: .int i :: .ref (ad 34) :: st) σ :=
  z_iast C (t0 := 15) (q0 := 34) rfl rfl hin rfl hd k
set_option maxHeartbeats 4000000 in
set_option maxRecDepth 100000 in
theorem gC_Te_31 {D : va_G} {ad : Nat → Nat} {cA : Nat → ClassId} {X : State → Prop} {p : Program} {l : Launch} {e : Env} {R : Room} {s : State} {m : MethodId} {args : Array Value} {below : List Frame} {meth : Method} {c : Code} {cc : ByteArray} {nL : Nat} {Q : State → Prop} {pc : Nat} {lv : List (Nat × Value)} {st : List Value} {σ : zS} (C : CC D ad cA X p s m args meth c cc "KindRounds$Text" nL) (hd : decode cc pc = .ok (.getfield 31, 3)) (k : ZC D ad cA p l e R s m args below meth c nL Q (pc + 3) lv (.ref (ad 35) :: st) σ) : ZC D ad cA p l e R s m args below meth c nL Q pc lv (.ref (ad 4) :: st) σ :=
  z_get C 7 mC_93 i_Te rfl oC_4 (Nat.le_of_ble_eq_true rfl) rfl rfl hd k
set_option maxHeartbeats 4000000 in
set_option maxRecDepth 100000 in
theorem alC_35 {D : va_G} {ad : Nat → Nat} {cA : Nat → ClassId} {X : State → Prop} {p : Program} {l : Launch} {e : Env} {R : Room} {s : State} {m : MethodId} {args : Array Value} {below : List Frame} {meth : Method} {c : Code} {cc : ByteArray} {nL : Nat} {Q : State → Prop} {pc : Nat} {lv : List (Nat × Value)} {st : List Value} {σ : zS} {own : String} (C : CC D ad cA X p s m args meth c cc own nL) {i : Int32} {v : Int32} (hv : ga σ 35 i.toNatClampNeg = v) (hin : inb i 16 = true) (hd : decode cc pc = .ok (.iaload, 1)) (k : ZC D ad cA p l e R s m args below meth c nL Q (pc + 1) lv (.int v :: st) σ) : ZC D ad cA p l e R s m args below meth c nL Q pc lv (.int i :: .ref (ad 35) :: st) σ := by
  subst hv
  exact z_iald C (t0 := 16) (q0 := 35) rfl rfl hin hd k
set_option maxHeartbeats 4000000 in
set_option maxRecDepth 100000 in
theorem asC_35 {D : va_G} {ad : Nat → Nat} {cA : Nat → ClassId} {X : State → Prop} {p : Program} {l : Launch} {e : Env} {R : Room} {s : State} {m : MethodId} {args : Array Value} {below : List Frame} {meth : Method} {c : Code} {cc : ByteArray} {nL : Nat} {Q : State → Prop} {pc : Nat} {lv : List (Nat × Value)} {st : List Value} {σ : zS} {own : String} (C : CC D ad cA X p s m args meth c cc own nL) {i : Int32} {v : Int32} (hin : inb i 16 = true) (hd : decode cc pc = .ok (.iastore, 1)) (k : ZC D ad cA p l e R s m args below meth c nL Q (pc + 1) lv st (sa σ 35 i.toNatClampNeg v)) : ZC D ad cA p l e R s m args below meth c nL Q pc lv (.int v :: .int i :: .ref (ad 35) :: st) σ :=
  z_iast C (t0 := 16) (q0 := 35) rfl rfl hin rfl hd k
set_option maxHeartbeats 4000000 in
set_option maxRecDepth 100000 in
theorem gC_Te_37 {D : va_G} {ad : Nat → Nat} {cA : Nat → ClassId} {X : State → Prop} {p : Program} {l : Launch} {e : Env} {R : Room} {s : State} {m : MethodId} {args : Array Value} {below : List Frame} {meth : Method} {c : Code} {cc : ByteArray} {nL : Nat} {Q : State → Prop} {pc : Nat} {lv : List (Nat × Value)} {st : List Value} {σ : zS} (C : CC D ad cA X p s m args meth c cc "KindRounds$Text" nL) (hd : decode cc pc = .ok (.getfield 37, 3)) (k : ZC D ad cA p l e R s m args below meth c nL Q (pc + 3) lv (.ref (ad 37) :: st) σ) : ZC D ad cA p l e R s m args below meth c nL Q pc lv (.ref (ad 4) :: st) σ :=
  z_get C 9 mC_94 i_Te rfl oC_4 (Nat.le_of_ble_eq_true rfl) rfl rfl hd k
set_option maxHeartbeats 4000000 in
set_option maxRecDepth 100000 in
theorem alC_37 {D : va_G} {ad : Nat → Nat} {cA : Nat → ClassId} {X : State → Prop} {p : Program} {l : Launch} {e : Env} {R : Room} {s : State} {m : MethodId} {args : Array Value} {below : List Frame} {meth : Method} {c : Code} {cc : ByteArray} {nL : Nat} {Q : State → Prop} {pc : Nat} {lv : List (Nat × Value)} {st : List Value} {σ : zS} {own : String} (C : CC D ad cA X p s m args meth c cc own nL) {i : Int32} {v : Int32} (hv : ga σ 37 i.toNatClampNeg = v) (hin : inb i 16 = true) (hd : decode cc pc = .ok (.iaload, 1)) (k : ZC D ad cA p l e R s m args below meth c nL Q (pc + 1) lv (.int v :: st) σ) : ZC D ad cA p l e R s m args below meth c nL Q pc lv (.int i :: .ref (ad 37) :: st) σ := by
  subst hv
  exact z_iald C (t0 := 18) (q0 := 37) rfl rfl hin hd k
set_option maxHeartbeats 4000000 in
set_option maxRecDepth 100000 in
theorem asC_37 {D : va_G} {ad : Nat → Nat} {cA : Nat → ClassId} {X : State → Prop} {p : Program} {l : Launch} {e : Env} {R : Room} {s : State} {m : MethodId} {args : Array Value} {below : List Frame} {meth : Method} {c : Code} {cc : ByteArray} {nL : Nat} {Q : State → Prop} {pc : Nat} {lv : List (Nat × Value)} {st : List Value} {σ : zS} {own : String} (C : CC D ad cA X p s m args meth c cc own nL) {i : Int32} {v : Int32} (hin : inb i 16 = true) (hd : decode cc pc = .ok (.iastore, 1)) (k : ZC D ad cA p l e R s m args below meth c nL Q (pc + 1) lv st (sa σ 37 i.toNatClampNeg v)) : ZC D ad cA p l e R s m args below meth c nL Q pc lv (.int v :: .int i :: .ref (ad 37) :: st) σ :=
  z_iast C (t0 := 18) (q0 := 37) rfl rfl hin rfl hd k
set_option maxHeartbeats 4000000 in
set_option maxRecDepth 100000 in
theorem gC_Te_25 {D : va_G} {ad : Nat → Nat} {cA : Nat → ClassId} {X : State → Prop} {p : Program} {l : Launch} {e : Env} {R : Room} {s : State} {m : MethodId} {args : Array Value} {below : List Frame} {meth : Method} {c : Code} {cc : ByteArray} {nL : Nat} {Q : State → Prop} {pc : Nat} {lv : List (Nat × Value)} {st : List Value} {σ : zS} (C : CC D ad cA X p s m args meth c cc "KindRounds$Text" nL) (hd : decode cc pc = .ok (.getfield 25, 3)) (k : ZC D ad cA p l e R s m args below meth c nL Q (pc + 3) lv (.ref (ad 33) :: st) σ) : ZC D ad cA p l e R s m args below meth c nL Q pc lv (.ref (ad 4) :: st) σ :=
  z_get C 5 mC_95 i_Te rfl oC_4 (Nat.le_of_ble_eq_true rfl) rfl rfl hd k
set_option maxHeartbeats 4000000 in
set_option maxRecDepth 100000 in
theorem alC_33 {D : va_G} {ad : Nat → Nat} {cA : Nat → ClassId} {X : State → Prop} {p : Program} {l : Launch} {e : Env} {R : Room} {s : State} {m : MethodId} {args : Array Value} {below : List Frame} {meth : Method} {c : Code} {cc : ByteArray} {nL : Nat} {Q : State → Prop} {pc : Nat} {lv : List (Nat × Value)} {st : List Value} {σ : zS} {own : String} (C : CC D ad cA X p s m args meth c cc own nL) {i : Int32} {v : Int64} (hv : gb σ 33 i.toNatClampNeg = v) (hin : inb i 48 = true) (hd : decode cc pc = .ok (.laload, 1)) (k : ZC D ad cA p l e R s m args below meth c nL Q (pc + 1) lv (.long v :: st) σ) : ZC D ad cA p l e R s m args below meth c nL Q pc lv (.int i :: .ref (ad 33) :: st) σ := by
  subst hv
  exact z_lald C (t0 := 14) (q0 := 33) rfl rfl hin hd k
set_option maxHeartbeats 4000000 in
set_option maxRecDepth 100000 in
theorem asC_33 {D : va_G} {ad : Nat → Nat} {cA : Nat → ClassId} {X : State → Prop} {p : Program} {l : Launch} {e : Env} {R : Room} {s : State} {m : MethodId} {args : Array Value} {below : List Frame} {meth : Method} {c : Code} {cc : ByteArray} {nL : Nat} {Q : State → Prop} {pc : Nat} {lv : List (Nat × Value)} {st : List Value} {σ : zS} {own : String} (C : CC D ad cA X p s m args meth c cc own nL) {i : Int32} {v : Int64} (hin : inb i 48 = true) (hd : decode cc pc = .ok (.lastore, 1)) (k : ZC D ad cA p l e R s m args below meth c nL Q (pc + 1) lv st (sb σ 33 i.toNatClampNeg v)) : ZC D ad cA p l e R s m args below meth c nL Q pc lv (.long v :: .int i :: .ref (ad 33) :: st) σ :=
  z_last C (t0 := 14) (q0 := 33) rfl rfl hin rfl hd k
set_option maxHeartbeats 4000000 in
set_option maxRecDepth 100000 in
theorem arC_isMk {ad : Nat → Nat} {cA : Nat → ClassId} {σ : zS} {x : Nat} (h : isMk x = true) : (wdC ad cA σ)[x]? = some (ad x, .inl (cA x, 16, .inl (ga σ x))) := by
  rcases isMk_or h with rfl | rfl <;> rfl
set_option maxHeartbeats 4000000 in
set_option maxRecDepth 100000 in
theorem atC_isMk {cA : Nat → ClassId} {x : Nat} (h : isMk x = true) : (tysC cA)[x - 19]? = some (cA x, .int) := by
  rcases isMk_or h with rfl | rfl <;> rfl
set_option maxHeartbeats 4000000 in
set_option maxRecDepth 100000 in
theorem aSC_isMk {ad : Nat → Nat} {cA : Nat → ClassId} {σ : zS} {x : Nat} (h : isMk x = true) {f : Nat → Int32} : (wdC ad cA σ).set x (ad x, .inl (cA x, 16, .inl f)) = wdC ad cA (sA σ x f) := by
  rcases isMk_or h with rfl | rfl <;> rfl
set_option maxHeartbeats 4000000 in
set_option maxRecDepth 100000 in
theorem alC_isMk {D : va_G} {ad : Nat → Nat} {cA : Nat → ClassId} {X : State → Prop} {p : Program} {l : Launch} {e : Env} {R : Room} {s : State} {m : MethodId} {args : Array Value} {below : List Frame} {meth : Method} {c : Code} {cc : ByteArray} {nL : Nat} {Q : State → Prop} {pc : Nat} {lv : List (Nat × Value)} {st : List Value} {σ : zS} {own : String} (C : CC D ad cA X p s m args meth c cc own nL) {x : Nat} (hx : isMk x = true) {i : Int32} {v : Int32} (hv : ga σ x i.toNatClampNeg = v) (hin : inb i 16 = true) (hd : decode cc pc = .ok (.iaload, 1)) (k : ZC D ad cA p l e R s m args below meth c nL Q (pc + 1) lv (.int v :: st) σ) : ZC D ad cA p l e R s m args below meth c nL Q pc lv (.int i :: .ref (ad x) :: st) σ := by
  subst hv
  exact z_iald C (t0 := x - 19) (arC_isMk hx) (atC_isMk hx) hin hd k
set_option maxHeartbeats 4000000 in
set_option maxRecDepth 100000 in
theorem asC_isMk {D : va_G} {ad : Nat → Nat} {cA : Nat → ClassId} {X : State → Prop} {p : Program} {l : Launch} {e : Env} {R : Room} {s : State} {m : MethodId} {args : Array Value} {below : List Frame} {meth : Method} {c : Code} {cc : ByteArray} {nL : Nat} {Q : State → Prop} {pc : Nat} {lv : List (Nat × Value)} {st : List Value} {σ : zS} {own : String} (C : CC D ad cA X p s m args meth c cc own nL) {x : Nat} (hx : isMk x = true) {i : Int32} {v : Int32} (hin : inb i 16 = true) (hd : decode cc pc = .ok (.iastore, 1)) (k : ZC D ad cA p l e R s m args below meth c nL Q (pc + 1) lv st (sa σ x i.toNatClampNeg v)) : ZC D ad cA p l e R s m args below meth c nL Q pc lv (.int v :: .int i :: .ref (ad x) :: st) σ :=
  z_iast C (t0 := x - 19) (arC_isMk hx) (atC_isMk hx) hin (aSC_isMk hx) hd k
set_option maxHeartbeats 4000000 in
set_option maxRecDepth 100000 in
theorem gC_Te_43 {D : va_G} {ad : Nat → Nat} {cA : Nat → ClassId} {X : State → Prop} {p : Program} {l : Launch} {e : Env} {R : Room} {s : State} {m : MethodId} {args : Array Value} {below : List Frame} {meth : Method} {c : Code} {cc : ByteArray} {nL : Nat} {Q : State → Prop} {pc : Nat} {lv : List (Nat × Value)} {st : List Value} {σ : zS} (C : CC D ad cA X p s m args meth c cc "KindRounds$Text" nL) (hd : decode cc pc = .ok (.getfield 43, 3)) (k : ZC D ad cA p l e R s m args below meth c nL Q (pc + 3) lv (.ref (ad 39) :: st) σ) : ZC D ad cA p l e R s m args below meth c nL Q pc lv (.ref (ad 4) :: st) σ :=
  z_get C 11 mC_97 i_Te rfl oC_4 (Nat.le_of_ble_eq_true rfl) rfl rfl hd k
set_option maxHeartbeats 4000000 in
set_option maxRecDepth 100000 in
theorem gC_Te_66 {D : va_G} {ad : Nat → Nat} {cA : Nat → ClassId} {X : State → Prop} {p : Program} {l : Launch} {e : Env} {R : Room} {s : State} {m : MethodId} {args : Array Value} {below : List Frame} {meth : Method} {c : Code} {cc : ByteArray} {nL : Nat} {Q : State → Prop} {pc : Nat} {lv : List (Nat × Value)} {st : List Value} {σ : zS} (C : CC D ad cA X p s m args meth c cc "KindRounds$Text" nL) {v : Int32} (hv : gi σ 412 = v) (hd : decode cc pc = .ok (.getfield 66, 3)) (k : ZC D ad cA p l e R s m args below meth c nL Q (pc + 3) lv (.int v :: st) σ) : ZC D ad cA p l e R s m args below meth c nL Q pc lv (.ref (ad 4) :: st) σ := by
  subst hv
  exact z_get C 12 mC_85 i_Te rfl oC_4 (Nat.le_of_ble_eq_true rfl) rfl rfl hd k
set_option maxHeartbeats 4000000 in
set_option maxRecDepth 100000 in
theorem alC_39 {D : va_G} {ad : Nat → Nat} {cA : Nat → ClassId} {X : State → Prop} {p : Program} {l : Launch} {e : Env} {R : Room} {s : State} {m : MethodId} {args : Array Value} {below : List Frame} {meth : Method} {c : Code} {cc : ByteArray} {nL : Nat} {Q : State → Prop} {pc : Nat} {lv : List (Nat × Value)} {st : List Value} {σ : zS} {own : String} (C : CC D ad cA X p s m args meth c cc own nL) {i : Int32} {v : Int32} (hv : ga σ 39 i.toNatClampNeg = v) (hin : inb i 16 = true) (hd : decode cc pc = .ok (.iaload, 1)) (k : ZC D ad cA p l e R s m args below meth c nL Q (pc + 1) lv (.int v :: st) σ) : ZC D ad cA p l e R s m args below meth c nL Q pc lv (.int i :: .ref (ad 39) :: st) σ := by
  subst hv
  exact z_iald C (t0 := 20) (q0 := 39) rfl rfl hin hd k
set_option maxHeartbeats 4000000 in
set_option maxRecDepth 100000 in
theorem asC_39 {D : va_G} {ad : Nat → Nat} {cA : Nat → ClassId} {X : State → Prop} {p : Program} {l : Launch} {e : Env} {R : Room} {s : State} {m : MethodId} {args : Array Value} {below : List Frame} {meth : Method} {c : Code} {cc : ByteArray} {nL : Nat} {Q : State → Prop} {pc : Nat} {lv : List (Nat × Value)} {st : List Value} {σ : zS} {own : String} (C : CC D ad cA X p s m args meth c cc own nL) {i : Int32} {v : Int32} (hin : inb i 16 = true) (hd : decode cc pc = .ok (.iastore, 1)) (k : ZC D ad cA p l e R s m args below meth c nL Q (pc + 1) lv st (sa σ 39 i.toNatClampNeg v)) : ZC D ad cA p l e R s m args below meth c nL Q pc lv (.int v :: .int i :: .ref (ad 39) :: st) σ :=
  z_iast C (t0 := 20) (q0 := 39) rfl rfl hin rfl hd k
set_option maxHeartbeats 4000000 in
set_option maxRecDepth 100000 in
theorem gC_Te_34 {D : va_G} {ad : Nat → Nat} {cA : Nat → ClassId} {X : State → Prop} {p : Program} {l : Launch} {e : Env} {R : Room} {s : State} {m : MethodId} {args : Array Value} {below : List Frame} {meth : Method} {c : Code} {cc : ByteArray} {nL : Nat} {Q : State → Prop} {pc : Nat} {lv : List (Nat × Value)} {st : List Value} {σ : zS} (C : CC D ad cA X p s m args meth c cc "KindRounds$Text" nL) (hd : decode cc pc = .ok (.getfield 34, 3)) (k : ZC D ad cA p l e R s m args below meth c nL Q (pc + 3) lv (.ref (ad 36) :: st) σ) : ZC D ad cA p l e R s m args below meth c nL Q pc lv (.ref (ad 4) :: st) σ :=
  z_get C 8 mC_98 i_Te rfl oC_4 (Nat.le_of_ble_eq_true rfl) rfl rfl hd k
set_option maxHeartbeats 4000000 in
set_option maxRecDepth 100000 in
theorem alC_36 {D : va_G} {ad : Nat → Nat} {cA : Nat → ClassId} {X : State → Prop} {p : Program} {l : Launch} {e : Env} {R : Room} {s : State} {m : MethodId} {args : Array Value} {below : List Frame} {meth : Method} {c : Code} {cc : ByteArray} {nL : Nat} {Q : State → Prop} {pc : Nat} {lv : List (Nat × Value)} {st : List Value} {σ : zS} {own : String} (C : CC D ad cA X p s m args meth c cc own nL) {i : Int32} {v : Int32} (hv : ga σ 36 i.toNatClampNeg = v) (hin : inb i 16 = true) (hd : decode cc pc = .ok (.iaload, 1)) (k : ZC D ad cA p l e R s m args below meth c nL Q (pc + 1) lv (.int v :: st) σ) : ZC D ad cA p l e R s m args below meth c nL Q pc lv (.int i :: .ref (ad 36) :: st) σ := by
  subst hv
  exact z_iald C (t0 := 17) (q0 := 36) rfl rfl hin hd k
set_option maxHeartbeats 4000000 in
set_option maxRecDepth 100000 in
theorem asC_36 {D : va_G} {ad : Nat → Nat} {cA : Nat → ClassId} {X : State → Prop} {p : Program} {l : Launch} {e : Env} {R : Room} {s : State} {m : MethodId} {args : Array Value} {below : List Frame} {meth : Method} {c : Code} {cc : ByteArray} {nL : Nat} {Q : State → Prop} {pc : Nat} {lv : List (Nat × Value)} {st : List Value} {σ : zS} {own : String} (C : CC D ad cA X p s m args meth c cc own nL) {i : Int32} {v : Int32} (hin : inb i 16 = true) (hd : decode cc pc = .ok (.iastore, 1)) (k : ZC D ad cA p l e R s m args below meth c nL Q (pc + 1) lv st (sa σ 36 i.toNatClampNeg v)) : ZC D ad cA p l e R s m args below meth c nL Q pc lv (.int v :: .int i :: .ref (ad 36) :: st) σ :=
  z_iast C (t0 := 17) (q0 := 36) rfl rfl hin rfl hd k
set_option maxHeartbeats 4000000 in
set_option maxRecDepth 100000 in
theorem gC_Te_40 {D : va_G} {ad : Nat → Nat} {cA : Nat → ClassId} {X : State → Prop} {p : Program} {l : Launch} {e : Env} {R : Room} {s : State} {m : MethodId} {args : Array Value} {below : List Frame} {meth : Method} {c : Code} {cc : ByteArray} {nL : Nat} {Q : State → Prop} {pc : Nat} {lv : List (Nat × Value)} {st : List Value} {σ : zS} (C : CC D ad cA X p s m args meth c cc "KindRounds$Text" nL) (hd : decode cc pc = .ok (.getfield 40, 3)) (k : ZC D ad cA p l e R s m args below meth c nL Q (pc + 3) lv (.ref (ad 38) :: st) σ) : ZC D ad cA p l e R s m args below meth c nL Q pc lv (.ref (ad 4) :: st) σ :=
  z_get C 10 mC_101 i_Te rfl oC_4 (Nat.le_of_ble_eq_true rfl) rfl rfl hd k
set_option maxHeartbeats 4000000 in
set_option maxRecDepth 100000 in
theorem alC_38 {D : va_G} {ad : Nat → Nat} {cA : Nat → ClassId} {X : State → Prop} {p : Program} {l : Launch} {e : Env} {R : Room} {s : State} {m : MethodId} {args : Array Value} {below : List Frame} {meth : Method} {c : Code} {cc : ByteArray} {nL : Nat} {Q : State → Prop} {pc : Nat} {lv : List (Nat × Value)} {st : List Value} {σ : zS} {own : String} (C : CC D ad cA X p s m args meth c cc own nL) {i : Int32} {v : Int32} (hv : ga σ 38 i.toNatClampNeg = v) (hin : inb i 16 = true) (hd : decode cc pc = .ok (.iaload, 1)) (k : ZC D ad cA p l e R s m args below meth c nL Q (pc + 1) lv (.int v :: st) σ) : ZC D ad cA p l e R s m args below meth c nL Q pc lv (.int i :: .ref (ad 38) :: st) σ := by
  subst hv
  exact z_iald C (t0 := 19) (q0 := 38) rfl rfl hin hd k
set_option maxHeartbeats 4000000 in
set_option maxRecDepth 100000 in
theorem asC_38 {D : va_G} {ad : Nat → Nat} {cA : Nat → ClassId} {X : State → Prop} {p : Program} {l : Launch} {e : Env} {R : Room} {s : State} {m : MethodId} {args : Array Value} {below : List Frame} {meth : Method} {c : Code} {cc : ByteArray} {nL : Nat} {Q : State → Prop} {pc : Nat} {lv : List (Nat × Value)} {st : List Value} {σ : zS} {own : String} (C : CC D ad cA X p s m args meth c cc own nL) {i : Int32} {v : Int32} (hin : inb i 16 = true) (hd : decode cc pc = .ok (.iastore, 1)) (k : ZC D ad cA p l e R s m args below meth c nL Q (pc + 1) lv st (sa σ 38 i.toNatClampNeg v)) : ZC D ad cA p l e R s m args below meth c nL Q pc lv (.int v :: .int i :: .ref (ad 38) :: st) σ :=
  z_iast C (t0 := 19) (q0 := 38) rfl rfl hin rfl hd k
set_option maxHeartbeats 4000000 in
set_option maxRecDepth 100000 in
theorem oC_6 {ad : Nat → Nat} {cA : Nat → ClassId} {σ : zS} : (wdC ad cA σ)[6]? = some (ad 6, .inr (6, [.ref (ad 1), .ref (ad 4), .ref (ad 5), .ref (ad 3), .ref (ad 2), .ref (ad (gr σ 605)), .int (gi σ 606)])) := rfl
set_option maxHeartbeats 4000000 in
set_option maxRecDepth 100000 in
theorem gC_Pa_9 {D : va_G} {ad : Nat → Nat} {cA : Nat → ClassId} {X : State → Prop} {p : Program} {l : Launch} {e : Env} {R : Room} {s : State} {m : MethodId} {args : Array Value} {below : List Frame} {meth : Method} {c : Code} {cc : ByteArray} {nL : Nat} {Q : State → Prop} {pc : Nat} {lv : List (Nat × Value)} {st : List Value} {σ : zS} (C : CC D ad cA X p s m args meth c cc "KindRounds$Parser" nL) (hd : decode cc pc = .ok (.getfield 9, 3)) (k : ZC D ad cA p l e R s m args below meth c nL Q (pc + 3) lv (.ref (ad 1) :: st) σ) : ZC D ad cA p l e R s m args below meth c nL Q pc lv (.ref (ad 6) :: st) σ :=
  z_get C 0 mC_105 i_Pa rfl oC_6 (Nat.le_of_ble_eq_true rfl) rfl rfl hd k
set_option maxHeartbeats 4000000 in
set_option maxRecDepth 100000 in
theorem gC_Pa_37 {D : va_G} {ad : Nat → Nat} {cA : Nat → ClassId} {X : State → Prop} {p : Program} {l : Launch} {e : Env} {R : Room} {s : State} {m : MethodId} {args : Array Value} {below : List Frame} {meth : Method} {c : Code} {cc : ByteArray} {nL : Nat} {Q : State → Prop} {pc : Nat} {lv : List (Nat × Value)} {st : List Value} {σ : zS} (C : CC D ad cA X p s m args meth c cc "KindRounds$Parser" nL) {v : Nat} (hv : gr σ 605 = v) (hd : decode cc pc = .ok (.getfield 37, 3)) (k : ZC D ad cA p l e R s m args below meth c nL Q (pc + 3) lv (.ref (ad v) :: st) σ) : ZC D ad cA p l e R s m args below meth c nL Q pc lv (.ref (ad 6) :: st) σ := by
  subst hv
  exact z_get C 5 mC_110 i_Pa rfl oC_6 (Nat.le_of_ble_eq_true rfl) rfl rfl hd k
set_option maxHeartbeats 4000000 in
set_option maxRecDepth 100000 in
theorem gC_Pa_58 {D : va_G} {ad : Nat → Nat} {cA : Nat → ClassId} {X : State → Prop} {p : Program} {l : Launch} {e : Env} {R : Room} {s : State} {m : MethodId} {args : Array Value} {below : List Frame} {meth : Method} {c : Code} {cc : ByteArray} {nL : Nat} {Q : State → Prop} {pc : Nat} {lv : List (Nat × Value)} {st : List Value} {σ : zS} (C : CC D ad cA X p s m args meth c cc "KindRounds$Parser" nL) {v : Int32} (hv : gi σ 606 = v) (hd : decode cc pc = .ok (.getfield 58, 3)) (k : ZC D ad cA p l e R s m args below meth c nL Q (pc + 3) lv (.int v :: st) σ) : ZC D ad cA p l e R s m args below meth c nL Q pc lv (.ref (ad 6) :: st) σ := by
  subst hv
  exact z_get C 6 mC_111 i_Pa rfl oC_6 (Nat.le_of_ble_eq_true rfl) rfl rfl hd k
set_option maxHeartbeats 4000000 in
set_option maxRecDepth 100000 in
theorem gC_Pa_15 {D : va_G} {ad : Nat → Nat} {cA : Nat → ClassId} {X : State → Prop} {p : Program} {l : Launch} {e : Env} {R : Room} {s : State} {m : MethodId} {args : Array Value} {below : List Frame} {meth : Method} {c : Code} {cc : ByteArray} {nL : Nat} {Q : State → Prop} {pc : Nat} {lv : List (Nat × Value)} {st : List Value} {σ : zS} (C : CC D ad cA X p s m args meth c cc "KindRounds$Parser" nL) (hd : decode cc pc = .ok (.getfield 15, 3)) (k : ZC D ad cA p l e R s m args below meth c nL Q (pc + 3) lv (.ref (ad 4) :: st) σ) : ZC D ad cA p l e R s m args below meth c nL Q pc lv (.ref (ad 6) :: st) σ :=
  z_get C 1 mC_118 i_Pa rfl oC_6 (Nat.le_of_ble_eq_true rfl) rfl rfl hd k
set_option maxHeartbeats 4000000 in
set_option maxRecDepth 100000 in
theorem gC_Pa_31 {D : va_G} {ad : Nat → Nat} {cA : Nat → ClassId} {X : State → Prop} {p : Program} {l : Launch} {e : Env} {R : Room} {s : State} {m : MethodId} {args : Array Value} {below : List Frame} {meth : Method} {c : Code} {cc : ByteArray} {nL : Nat} {Q : State → Prop} {pc : Nat} {lv : List (Nat × Value)} {st : List Value} {σ : zS} (C : CC D ad cA X p s m args meth c cc "KindRounds$Parser" nL) (hd : decode cc pc = .ok (.getfield 31, 3)) (k : ZC D ad cA p l e R s m args below meth c nL Q (pc + 3) lv (.ref (ad 10) :: st) σ) : ZC D ad cA p l e R s m args below meth c nL Q pc lv (.ref (ad 4) :: st) σ :=
  z_getN C 16 mC_119 i_Te rfl oC_4 (Nat.le_of_ble_eq_true rfl) rfl rfl hd k
set_option maxHeartbeats 4000000 in
set_option maxRecDepth 100000 in
theorem pC_Pa_37 {D : va_G} {ad : Nat → Nat} {cA : Nat → ClassId} {X : State → Prop} {p : Program} {l : Launch} {e : Env} {R : Room} {s : State} {m : MethodId} {args : Array Value} {below : List Frame} {meth : Method} {c : Code} {cc : ByteArray} {nL : Nat} {Q : State → Prop} {pc : Nat} {lv : List (Nat × Value)} {st : List Value} {σ : zS} (C : CC D ad cA X p s m args meth c cc "KindRounds$Parser" nL) {v : Nat} (hd : decode cc pc = .ok (.putfield 37, 3)) (k : ZC D ad cA p l e R s m args below meth c nL Q (pc + 3) lv st (sr σ 605 v)) : ZC D ad cA p l e R s m args below meth c nL Q pc lv (.ref (ad v) :: .ref (ad 6) :: st) σ :=
  z_put C 5 (ty := .object "KindRounds$Row") mC_110 i_Pa t_Pa t_Pa_ok n_Pa rfl oC_6 (Nat.le_of_ble_eq_true rfl) rfl rfl rfl rfl rfl (Nat.le_of_ble_eq_true rfl) rfl hd k
set_option maxHeartbeats 4000000 in
set_option maxRecDepth 100000 in
theorem pC_Pa_58 {D : va_G} {ad : Nat → Nat} {cA : Nat → ClassId} {X : State → Prop} {p : Program} {l : Launch} {e : Env} {R : Room} {s : State} {m : MethodId} {args : Array Value} {below : List Frame} {meth : Method} {c : Code} {cc : ByteArray} {nL : Nat} {Q : State → Prop} {pc : Nat} {lv : List (Nat × Value)} {st : List Value} {σ : zS} (C : CC D ad cA X p s m args meth c cc "KindRounds$Parser" nL) {v : Int32} (hd : decode cc pc = .ok (.putfield 58, 3)) (k : ZC D ad cA p l e R s m args below meth c nL Q (pc + 3) lv st (si σ 606 v)) : ZC D ad cA p l e R s m args below meth c nL Q pc lv (.int v :: .ref (ad 6) :: st) σ :=
  z_put C 6 (ty := .int) mC_111 i_Pa t_Pa t_Pa_ok n_Pa rfl oC_6 (Nat.le_of_ble_eq_true rfl) rfl rfl rfl rfl rfl (Nat.le_of_ble_eq_true rfl) rfl hd k
set_option maxHeartbeats 4000000 in
set_option maxRecDepth 100000 in
theorem gC_Pa_27 {D : va_G} {ad : Nat → Nat} {cA : Nat → ClassId} {X : State → Prop} {p : Program} {l : Launch} {e : Env} {R : Room} {s : State} {m : MethodId} {args : Array Value} {below : List Frame} {meth : Method} {c : Code} {cc : ByteArray} {nL : Nat} {Q : State → Prop} {pc : Nat} {lv : List (Nat × Value)} {st : List Value} {σ : zS} (C : CC D ad cA X p s m args meth c cc "KindRounds$Parser" nL) (hd : decode cc pc = .ok (.getfield 27, 3)) (k : ZC D ad cA p l e R s m args below meth c nL Q (pc + 3) lv (.ref (ad 2) :: st) σ) : ZC D ad cA p l e R s m args below meth c nL Q pc lv (.ref (ad 6) :: st) σ :=
  z_get C 4 mC_120 i_Pa rfl oC_6 (Nat.le_of_ble_eq_true rfl) rfl rfl hd k
set_option maxHeartbeats 4000000 in
set_option maxRecDepth 100000 in
theorem gC_Pa_94 {D : va_G} {ad : Nat → Nat} {cA : Nat → ClassId} {X : State → Prop} {p : Program} {l : Launch} {e : Env} {R : Room} {s : State} {m : MethodId} {args : Array Value} {below : List Frame} {meth : Method} {c : Code} {cc : ByteArray} {nL : Nat} {Q : State → Prop} {pc : Nat} {lv : List (Nat × Value)} {st : List Value} {σ : zS} (C : CC D ad cA X p s m args meth c cc "KindRounds$Parser" nL) {v : Int32} (hv : gi σ 400 = v) (hd : decode cc pc = .ok (.getfield 94, 3)) (k : ZC D ad cA p l e R s m args below meth c nL Q (pc + 3) lv (.int v :: st) σ) : ZC D ad cA p l e R s m args below meth c nL Q pc lv (.ref (ad 4) :: st) σ := by
  subst hv
  exact z_getN C 0 mC_124 i_Te rfl oC_4 (Nat.le_of_ble_eq_true rfl) rfl rfl hd k
set_option maxHeartbeats 4000000 in
set_option maxRecDepth 100000 in
theorem gC_Pa_19 {D : va_G} {ad : Nat → Nat} {cA : Nat → ClassId} {X : State → Prop} {p : Program} {l : Launch} {e : Env} {R : Room} {s : State} {m : MethodId} {args : Array Value} {below : List Frame} {meth : Method} {c : Code} {cc : ByteArray} {nL : Nat} {Q : State → Prop} {pc : Nat} {lv : List (Nat × Value)} {st : List Value} {σ : zS} (C : CC D ad cA X p s m args meth c cc "KindRounds$Parser" nL) (hd : decode cc pc = .ok (.getfield 19, 3)) (k : ZC D ad cA p l e R s m args below meth c nL Q (pc + 3) lv (.ref (ad 5) :: st) σ) : ZC D ad cA p l e R s m args below meth c nL Q pc lv (.ref (ad 6) :: st) σ :=
  z_get C 2 mC_127 i_Pa rfl oC_6 (Nat.le_of_ble_eq_true rfl) rfl rfl hd k
set_option maxHeartbeats 4000000 in
set_option maxRecDepth 100000 in
theorem gC_Pa_114 {D : va_G} {ad : Nat → Nat} {cA : Nat → ClassId} {X : State → Prop} {p : Program} {l : Launch} {e : Env} {R : Room} {s : State} {m : MethodId} {args : Array Value} {below : List Frame} {meth : Method} {c : Code} {cc : ByteArray} {nL : Nat} {Q : State → Prop} {pc : Nat} {lv : List (Nat × Value)} {st : List Value} {σ : zS} (C : CC D ad cA X p s m args meth c cc "KindRounds$Parser" nL) (hd : decode cc pc = .ok (.getfield 114, 3)) (k : ZC D ad cA p l e R s m args below meth c nL Q (pc + 3) lv (.ref (ad 32) :: st) σ) : ZC D ad cA p l e R s m args below meth c nL Q pc lv (.ref (ad 4) :: st) σ :=
  z_getN C 4 mC_130 i_Te rfl oC_4 (Nat.le_of_ble_eq_true rfl) rfl rfl hd k
set_option maxHeartbeats 4000000 in
set_option maxRecDepth 100000 in
theorem gC_Pa_122 {D : va_G} {ad : Nat → Nat} {cA : Nat → ClassId} {X : State → Prop} {p : Program} {l : Launch} {e : Env} {R : Room} {s : State} {m : MethodId} {args : Array Value} {below : List Frame} {meth : Method} {c : Code} {cc : ByteArray} {nL : Nat} {Q : State → Prop} {pc : Nat} {lv : List (Nat × Value)} {st : List Value} {σ : zS} (C : CC D ad cA X p s m args meth c cc "KindRounds$Parser" nL) (hd : decode cc pc = .ok (.getfield 122, 3)) (k : ZC D ad cA p l e R s m args below meth c nL Q (pc + 3) lv (.ref (ad 34) :: st) σ) : ZC D ad cA p l e R s m args below meth c nL Q pc lv (.ref (ad 4) :: st) σ :=
  z_getN C 6 mC_134 i_Te rfl oC_4 (Nat.le_of_ble_eq_true rfl) rfl rfl hd k
set_option maxHeartbeats 4000000 in
set_option maxRecDepth 100000 in
theorem gC_Pa_131 {D : va_G} {ad : Nat → Nat} {cA : Nat → ClassId} {X : State → Prop} {p : Program} {l : Launch} {e : Env} {R : Room} {s : State} {m : MethodId} {args : Array Value} {below : List Frame} {meth : Method} {c : Code} {cc : ByteArray} {nL : Nat} {Q : State → Prop} {pc : Nat} {lv : List (Nat × Value)} {st : List Value} {σ : zS} (C : CC D ad cA X p s m args meth c cc "KindRounds$Parser" nL) {v : Int32} (hv : gi σ 505 = v) (hd : decode cc pc = .ok (.getfield 131, 3)) (k : ZC D ad cA p l e R s m args below meth c nL Q (pc + 3) lv (.int v :: st) σ) : ZC D ad cA p l e R s m args below meth c nL Q pc lv (.ref (ad 5) :: st) σ := by
  subst hv
  exact z_getN C 5 mC_135 i_Me rfl oC_5 (Nat.le_of_ble_eq_true rfl) rfl rfl hd k
set_option maxHeartbeats 4000000 in
set_option maxRecDepth 100000 in
theorem gC_Pa_23 {D : va_G} {ad : Nat → Nat} {cA : Nat → ClassId} {X : State → Prop} {p : Program} {l : Launch} {e : Env} {R : Room} {s : State} {m : MethodId} {args : Array Value} {below : List Frame} {meth : Method} {c : Code} {cc : ByteArray} {nL : Nat} {Q : State → Prop} {pc : Nat} {lv : List (Nat × Value)} {st : List Value} {σ : zS} (C : CC D ad cA X p s m args meth c cc "KindRounds$Parser" nL) (hd : decode cc pc = .ok (.getfield 23, 3)) (k : ZC D ad cA p l e R s m args below meth c nL Q (pc + 3) lv (.ref (ad 3) :: st) σ) : ZC D ad cA p l e R s m args below meth c nL Q pc lv (.ref (ad 6) :: st) σ :=
  z_get C 3 mC_138 i_Pa rfl oC_6 (Nat.le_of_ble_eq_true rfl) rfl rfl hd k
set_option maxHeartbeats 4000000 in
set_option maxRecDepth 100000 in
theorem gC_Pa_148 {D : va_G} {ad : Nat → Nat} {cA : Nat → ClassId} {X : State → Prop} {p : Program} {l : Launch} {e : Env} {R : Room} {s : State} {m : MethodId} {args : Array Value} {below : List Frame} {meth : Method} {c : Code} {cc : ByteArray} {nL : Nat} {Q : State → Prop} {pc : Nat} {lv : List (Nat × Value)} {st : List Value} {σ : zS} (C : CC D ad cA X p s m args meth c cc "KindRounds$Parser" nL) (hd : decode cc pc = .ok (.getfield 148, 3)) (k : ZC D ad cA p l e R s m args below meth c nL Q (pc + 3) lv (.ref (ad 24) :: st) σ) : ZC D ad cA p l e R s m args below meth c nL Q pc lv (.ref (ad 3) :: st) σ :=
  z_getN C 1 mC_139 i_Ki rfl oC_3 (Nat.le_of_ble_eq_true rfl) rfl rfl hd k
set_option maxHeartbeats 4000000 in
set_option maxRecDepth 100000 in
theorem gC_Pa_151 {D : va_G} {ad : Nat → Nat} {cA : Nat → ClassId} {X : State → Prop} {p : Program} {l : Launch} {e : Env} {R : Room} {s : State} {m : MethodId} {args : Array Value} {below : List Frame} {meth : Method} {c : Code} {cc : ByteArray} {nL : Nat} {Q : State → Prop} {pc : Nat} {lv : List (Nat × Value)} {st : List Value} {σ : zS} (C : CC D ad cA X p s m args meth c cc "KindRounds$Parser" nL) {x : Nat} (hx : isRow x = true) {v : Int32} (hv : mi σ (100 * x + 4) = v) (hd : decode cc pc = .ok (.getfield 151, 3)) (k : ZC D ad cA p l e R s m args below meth c nL Q (pc + 3) lv (.int v :: st) σ) : ZC D ad cA p l e R s m args below meth c nL Q pc lv (.ref (ad x) :: st) σ := by
  subst hv
  exact z_getN C 4 mC_142 i_Ro rfl (oC_Ro hx) (Nat.le_of_ble_eq_true rfl) rfl rfl hd k
set_option maxHeartbeats 4000000 in
set_option maxRecDepth 100000 in
theorem gC_Pa_162 {D : va_G} {ad : Nat → Nat} {cA : Nat → ClassId} {X : State → Prop} {p : Program} {l : Launch} {e : Env} {R : Room} {s : State} {m : MethodId} {args : Array Value} {below : List Frame} {meth : Method} {c : Code} {cc : ByteArray} {nL : Nat} {Q : State → Prop} {pc : Nat} {lv : List (Nat × Value)} {st : List Value} {σ : zS} (C : CC D ad cA X p s m args meth c cc "KindRounds$Parser" nL) {x : Nat} (hx : isRow x = true) (hd : decode cc pc = .ok (.getfield 162, 3)) (k : ZC D ad cA p l e R s m args below meth c nL Q (pc + 3) lv (.ref (ad (rA x 2)) :: st) σ) : ZC D ad cA p l e R s m args below meth c nL Q pc lv (.ref (ad x) :: st) σ :=
  z_getN C 2 mC_146 i_Ro rfl (oC_Ro hx) (Nat.le_of_ble_eq_true rfl) rfl rfl hd k
set_option maxHeartbeats 4000000 in
set_option maxRecDepth 100000 in
theorem gC_Pa_168 {D : va_G} {ad : Nat → Nat} {cA : Nat → ClassId} {X : State → Prop} {p : Program} {l : Launch} {e : Env} {R : Room} {s : State} {m : MethodId} {args : Array Value} {below : List Frame} {meth : Method} {c : Code} {cc : ByteArray} {nL : Nat} {Q : State → Prop} {pc : Nat} {lv : List (Nat × Value)} {st : List Value} {σ : zS} (C : CC D ad cA X p s m args meth c cc "KindRounds$Parser" nL) {x : Nat} (hx : isRow x = true) (hd : decode cc pc = .ok (.getfield 168, 3)) (k : ZC D ad cA p l e R s m args below meth c nL Q (pc + 3) lv (.ref (ad (rA x 3)) :: st) σ) : ZC D ad cA p l e R s m args below meth c nL Q pc lv (.ref (ad x) :: st) σ :=
  z_getN C 3 mC_148 i_Ro rfl (oC_Ro hx) (Nat.le_of_ble_eq_true rfl) rfl rfl hd k
set_option maxHeartbeats 4000000 in
set_option maxRecDepth 100000 in
theorem oC_7 {ad : Nat → Nat} {cA : Nat → ClassId} {σ : zS} : (wdC ad cA σ)[7]? = some (ad 7, .inr (7, [.ref (ad 4), .ref (ad 5), .ref (ad 2), .ref (ad 48)])) := rfl
set_option maxHeartbeats 4000000 in
set_option maxRecDepth 100000 in
theorem gC_Ch_19 {D : va_G} {ad : Nat → Nat} {cA : Nat → ClassId} {X : State → Prop} {p : Program} {l : Launch} {e : Env} {R : Room} {s : State} {m : MethodId} {args : Array Value} {below : List Frame} {meth : Method} {c : Code} {cc : ByteArray} {nL : Nat} {Q : State → Prop} {pc : Nat} {lv : List (Nat × Value)} {st : List Value} {σ : zS} (C : CC D ad cA X p s m args meth c cc "KindRounds$Checker" nL) (hd : decode cc pc = .ok (.getfield 19, 3)) (k : ZC D ad cA p l e R s m args below meth c nL Q (pc + 3) lv (.ref (ad 2) :: st) σ) : ZC D ad cA p l e R s m args below meth c nL Q pc lv (.ref (ad 7) :: st) σ :=
  z_get C 2 mC_151 i_Ch rfl oC_7 (Nat.le_of_ble_eq_true rfl) rfl rfl hd k
set_option maxHeartbeats 4000000 in
set_option maxRecDepth 100000 in
theorem gC_Ch_15 {D : va_G} {ad : Nat → Nat} {cA : Nat → ClassId} {X : State → Prop} {p : Program} {l : Launch} {e : Env} {R : Room} {s : State} {m : MethodId} {args : Array Value} {below : List Frame} {meth : Method} {c : Code} {cc : ByteArray} {nL : Nat} {Q : State → Prop} {pc : Nat} {lv : List (Nat × Value)} {st : List Value} {σ : zS} (C : CC D ad cA X p s m args meth c cc "KindRounds$Checker" nL) (hd : decode cc pc = .ok (.getfield 15, 3)) (k : ZC D ad cA p l e R s m args below meth c nL Q (pc + 3) lv (.ref (ad 5) :: st) σ) : ZC D ad cA p l e R s m args below meth c nL Q pc lv (.ref (ad 7) :: st) σ :=
  z_get C 1 mC_155 i_Ch rfl oC_7 (Nat.le_of_ble_eq_true rfl) rfl rfl hd k
set_option maxHeartbeats 4000000 in
set_option maxRecDepth 100000 in
theorem gC_Ch_45 {D : va_G} {ad : Nat → Nat} {cA : Nat → ClassId} {X : State → Prop} {p : Program} {l : Launch} {e : Env} {R : Room} {s : State} {m : MethodId} {args : Array Value} {below : List Frame} {meth : Method} {c : Code} {cc : ByteArray} {nL : Nat} {Q : State → Prop} {pc : Nat} {lv : List (Nat × Value)} {st : List Value} {σ : zS} (C : CC D ad cA X p s m args meth c cc "KindRounds$Checker" nL) {v : Int32} (hv : gi σ 505 = v) (hd : decode cc pc = .ok (.getfield 45, 3)) (k : ZC D ad cA p l e R s m args below meth c nL Q (pc + 3) lv (.int v :: st) σ) : ZC D ad cA p l e R s m args below meth c nL Q pc lv (.ref (ad 5) :: st) σ := by
  subst hv
  exact z_getN C 5 mC_156 i_Me rfl oC_5 (Nat.le_of_ble_eq_true rfl) rfl rfl hd k
set_option maxHeartbeats 4000000 in
set_option maxRecDepth 100000 in
theorem gC_Ch_55 {D : va_G} {ad : Nat → Nat} {cA : Nat → ClassId} {X : State → Prop} {p : Program} {l : Launch} {e : Env} {R : Room} {s : State} {m : MethodId} {args : Array Value} {below : List Frame} {meth : Method} {c : Code} {cc : ByteArray} {nL : Nat} {Q : State → Prop} {pc : Nat} {lv : List (Nat × Value)} {st : List Value} {σ : zS} (C : CC D ad cA X p s m args meth c cc "KindRounds$Checker" nL) (hd : decode cc pc = .ok (.getfield 55, 3)) (k : ZC D ad cA p l e R s m args below meth c nL Q (pc + 3) lv (.ref (ad 45) :: st) σ) : ZC D ad cA p l e R s m args below meth c nL Q pc lv (.ref (ad 5) :: st) σ :=
  z_getN C 2 mC_158 i_Me rfl oC_5 (Nat.le_of_ble_eq_true rfl) rfl rfl hd k
set_option maxHeartbeats 4000000 in
set_option maxRecDepth 100000 in
theorem gC_Ch_62 {D : va_G} {ad : Nat → Nat} {cA : Nat → ClassId} {X : State → Prop} {p : Program} {l : Launch} {e : Env} {R : Room} {s : State} {m : MethodId} {args : Array Value} {below : List Frame} {meth : Method} {c : Code} {cc : ByteArray} {nL : Nat} {Q : State → Prop} {pc : Nat} {lv : List (Nat × Value)} {st : List Value} {σ : zS} (C : CC D ad cA X p s m args meth c cc "KindRounds$Checker" nL) (hd : decode cc pc = .ok (.getfield 62, 3)) (k : ZC D ad cA p l e R s m args below meth c nL Q (pc + 3) lv (.ref (ad 44) :: st) σ) : ZC D ad cA p l e R s m args below meth c nL Q pc lv (.ref (ad 5) :: st) σ :=
  z_getN C 1 mC_160 i_Me rfl oC_5 (Nat.le_of_ble_eq_true rfl) rfl rfl hd k
set_option maxHeartbeats 4000000 in
set_option maxRecDepth 100000 in
theorem gC_Ch_66 {D : va_G} {ad : Nat → Nat} {cA : Nat → ClassId} {X : State → Prop} {p : Program} {l : Launch} {e : Env} {R : Room} {s : State} {m : MethodId} {args : Array Value} {below : List Frame} {meth : Method} {c : Code} {cc : ByteArray} {nL : Nat} {Q : State → Prop} {pc : Nat} {lv : List (Nat × Value)} {st : List Value} {σ : zS} (C : CC D ad cA X p s m args meth c cc "KindRounds$Checker" nL) (hd : decode cc pc = .ok (.getfield 66, 3)) (k : ZC D ad cA p l e R s m args below meth c nL Q (pc + 3) lv (.ref (ad 43) :: st) σ) : ZC D ad cA p l e R s m args below meth c nL Q pc lv (.ref (ad 5) :: st) σ :=
  z_getN C 0 mC_161 i_Me rfl oC_5 (Nat.le_of_ble_eq_true rfl) rfl rfl hd k
set_option maxHeartbeats 4000000 in
set_option maxRecDepth 100000 in
theorem gC_Ch_9 {D : va_G} {ad : Nat → Nat} {cA : Nat → ClassId} {X : State → Prop} {p : Program} {l : Launch} {e : Env} {R : Room} {s : State} {m : MethodId} {args : Array Value} {below : List Frame} {meth : Method} {c : Code} {cc : ByteArray} {nL : Nat} {Q : State → Prop} {pc : Nat} {lv : List (Nat × Value)} {st : List Value} {σ : zS} (C : CC D ad cA X p s m args meth c cc "KindRounds$Checker" nL) (hd : decode cc pc = .ok (.getfield 9, 3)) (k : ZC D ad cA p l e R s m args below meth c nL Q (pc + 3) lv (.ref (ad 4) :: st) σ) : ZC D ad cA p l e R s m args below meth c nL Q pc lv (.ref (ad 7) :: st) σ :=
  z_get C 0 mC_164 i_Ch rfl oC_7 (Nat.le_of_ble_eq_true rfl) rfl rfl hd k
set_option maxHeartbeats 4000000 in
set_option maxRecDepth 100000 in
theorem gC_Ch_83 {D : va_G} {ad : Nat → Nat} {cA : Nat → ClassId} {X : State → Prop} {p : Program} {l : Launch} {e : Env} {R : Room} {s : State} {m : MethodId} {args : Array Value} {below : List Frame} {meth : Method} {c : Code} {cc : ByteArray} {nL : Nat} {Q : State → Prop} {pc : Nat} {lv : List (Nat × Value)} {st : List Value} {σ : zS} (C : CC D ad cA X p s m args meth c cc "KindRounds$Checker" nL) (hd : decode cc pc = .ok (.getfield 83, 3)) (k : ZC D ad cA p l e R s m args below meth c nL Q (pc + 3) lv (.ref (ad 46) :: st) σ) : ZC D ad cA p l e R s m args below meth c nL Q pc lv (.ref (ad 5) :: st) σ :=
  z_getN C 3 mC_167 i_Me rfl oC_5 (Nat.le_of_ble_eq_true rfl) rfl rfl hd k
set_option maxHeartbeats 4000000 in
set_option maxRecDepth 100000 in
theorem gC_Ch_93 {D : va_G} {ad : Nat → Nat} {cA : Nat → ClassId} {X : State → Prop} {p : Program} {l : Launch} {e : Env} {R : Room} {s : State} {m : MethodId} {args : Array Value} {below : List Frame} {meth : Method} {c : Code} {cc : ByteArray} {nL : Nat} {Q : State → Prop} {pc : Nat} {lv : List (Nat × Value)} {st : List Value} {σ : zS} (C : CC D ad cA X p s m args meth c cc "KindRounds$Checker" nL) (hd : decode cc pc = .ok (.getfield 93, 3)) (k : ZC D ad cA p l e R s m args below meth c nL Q (pc + 3) lv (.ref (ad 29) :: st) σ) : ZC D ad cA p l e R s m args below meth c nL Q pc lv (.ref (ad 4) :: st) σ :=
  z_getN C 1 mC_170 i_Te rfl oC_4 (Nat.le_of_ble_eq_true rfl) rfl rfl hd k
set_option maxHeartbeats 4000000 in
set_option maxRecDepth 100000 in
theorem gC_Ch_100 {D : va_G} {ad : Nat → Nat} {cA : Nat → ClassId} {X : State → Prop} {p : Program} {l : Launch} {e : Env} {R : Room} {s : State} {m : MethodId} {args : Array Value} {below : List Frame} {meth : Method} {c : Code} {cc : ByteArray} {nL : Nat} {Q : State → Prop} {pc : Nat} {lv : List (Nat × Value)} {st : List Value} {σ : zS} (C : CC D ad cA X p s m args meth c cc "KindRounds$Checker" nL) (hd : decode cc pc = .ok (.getfield 100, 3)) (k : ZC D ad cA p l e R s m args below meth c nL Q (pc + 3) lv (.ref (ad 37) :: st) σ) : ZC D ad cA p l e R s m args below meth c nL Q pc lv (.ref (ad 4) :: st) σ :=
  z_getN C 9 mC_172 i_Te rfl oC_4 (Nat.le_of_ble_eq_true rfl) rfl rfl hd k
set_option maxHeartbeats 4000000 in
set_option maxRecDepth 100000 in
theorem gC_Ch_103 {D : va_G} {ad : Nat → Nat} {cA : Nat → ClassId} {X : State → Prop} {p : Program} {l : Launch} {e : Env} {R : Room} {s : State} {m : MethodId} {args : Array Value} {below : List Frame} {meth : Method} {c : Code} {cc : ByteArray} {nL : Nat} {Q : State → Prop} {pc : Nat} {lv : List (Nat × Value)} {st : List Value} {σ : zS} (C : CC D ad cA X p s m args meth c cc "KindRounds$Checker" nL) {v : Int32} (hv : gi σ 400 = v) (hd : decode cc pc = .ok (.getfield 103, 3)) (k : ZC D ad cA p l e R s m args below meth c nL Q (pc + 3) lv (.int v :: st) σ) : ZC D ad cA p l e R s m args below meth c nL Q pc lv (.ref (ad 4) :: st) σ := by
  subst hv
  exact z_getN C 0 mC_173 i_Te rfl oC_4 (Nat.le_of_ble_eq_true rfl) rfl rfl hd k
set_option maxHeartbeats 4000000 in
set_option maxRecDepth 100000 in
theorem gC_Ch_23 {D : va_G} {ad : Nat → Nat} {cA : Nat → ClassId} {X : State → Prop} {p : Program} {l : Launch} {e : Env} {R : Room} {s : State} {m : MethodId} {args : Array Value} {below : List Frame} {meth : Method} {c : Code} {cc : ByteArray} {nL : Nat} {Q : State → Prop} {pc : Nat} {lv : List (Nat × Value)} {st : List Value} {σ : zS} (C : CC D ad cA X p s m args meth c cc "KindRounds$Checker" nL) (hd : decode cc pc = .ok (.getfield 23, 3)) (k : ZC D ad cA p l e R s m args below meth c nL Q (pc + 3) lv (.ref (ad 48) :: st) σ) : ZC D ad cA p l e R s m args below meth c nL Q pc lv (.ref (ad 7) :: st) σ :=
  z_get C 3 mC_174 i_Ch rfl oC_7 (Nat.le_of_ble_eq_true rfl) rfl rfl hd k
set_option maxHeartbeats 4000000 in
set_option maxRecDepth 100000 in
theorem alC_48 {D : va_G} {ad : Nat → Nat} {cA : Nat → ClassId} {X : State → Prop} {p : Program} {l : Launch} {e : Env} {R : Room} {s : State} {m : MethodId} {args : Array Value} {below : List Frame} {meth : Method} {c : Code} {cc : ByteArray} {nL : Nat} {Q : State → Prop} {pc : Nat} {lv : List (Nat × Value)} {st : List Value} {σ : zS} {own : String} (C : CC D ad cA X p s m args meth c cc own nL) {i : Int32} {v : Int32} (hv : ga σ 48 i.toNatClampNeg = v) (hin : inb i 16 = true) (hd : decode cc pc = .ok (.iaload, 1)) (k : ZC D ad cA p l e R s m args below meth c nL Q (pc + 1) lv (.int v :: st) σ) : ZC D ad cA p l e R s m args below meth c nL Q pc lv (.int i :: .ref (ad 48) :: st) σ := by
  subst hv
  exact z_iald C (t0 := 29) (q0 := 48) rfl rfl hin hd k
set_option maxHeartbeats 4000000 in
set_option maxRecDepth 100000 in
theorem asC_48 {D : va_G} {ad : Nat → Nat} {cA : Nat → ClassId} {X : State → Prop} {p : Program} {l : Launch} {e : Env} {R : Room} {s : State} {m : MethodId} {args : Array Value} {below : List Frame} {meth : Method} {c : Code} {cc : ByteArray} {nL : Nat} {Q : State → Prop} {pc : Nat} {lv : List (Nat × Value)} {st : List Value} {σ : zS} {own : String} (C : CC D ad cA X p s m args meth c cc own nL) {i : Int32} {v : Int32} (hin : inb i 16 = true) (hd : decode cc pc = .ok (.iastore, 1)) (k : ZC D ad cA p l e R s m args below meth c nL Q (pc + 1) lv st (sa σ 48 i.toNatClampNeg v)) : ZC D ad cA p l e R s m args below meth c nL Q pc lv (.int v :: .int i :: .ref (ad 48) :: st) σ :=
  z_iast C (t0 := 29) (q0 := 48) rfl rfl hin rfl hd k
set_option maxHeartbeats 4000000 in
set_option maxRecDepth 100000 in
theorem gC_Ch_108 {D : va_G} {ad : Nat → Nat} {cA : Nat → ClassId} {X : State → Prop} {p : Program} {l : Launch} {e : Env} {R : Room} {s : State} {m : MethodId} {args : Array Value} {below : List Frame} {meth : Method} {c : Code} {cc : ByteArray} {nL : Nat} {Q : State → Prop} {pc : Nat} {lv : List (Nat × Value)} {st : List Value} {σ : zS} (C : CC D ad cA X p s m args meth c cc "KindRounds$Checker" nL) (hd : decode cc pc = .ok (.getfield 108, 3)) (k : ZC D ad cA p l e R s m args below meth c nL Q (pc + 3) lv (.ref (ad 31) :: st) σ) : ZC D ad cA p l e R s m args below meth c nL Q pc lv (.ref (ad 4) :: st) σ :=
  z_getN C 3 mC_175 i_Te rfl oC_4 (Nat.le_of_ble_eq_true rfl) rfl rfl hd k
set_option maxHeartbeats 4000000 in
set_option maxRecDepth 100000 in
theorem gC_Ch_112 {D : va_G} {ad : Nat → Nat} {cA : Nat → ClassId} {X : State → Prop} {p : Program} {l : Launch} {e : Env} {R : Room} {s : State} {m : MethodId} {args : Array Value} {below : List Frame} {meth : Method} {c : Code} {cc : ByteArray} {nL : Nat} {Q : State → Prop} {pc : Nat} {lv : List (Nat × Value)} {st : List Value} {σ : zS} (C : CC D ad cA X p s m args meth c cc "KindRounds$Checker" nL) (hd : decode cc pc = .ok (.getfield 112, 3)) (k : ZC D ad cA p l e R s m args below meth c nL Q (pc + 3) lv (.ref (ad 47) :: st) σ) : ZC D ad cA p l e R s m args below meth c nL Q pc lv (.ref (ad 5) :: st) σ :=
  z_getN C 4 mC_178 i_Me rfl oC_5 (Nat.le_of_ble_eq_true rfl) rfl rfl hd k
set_option maxHeartbeats 4000000 in
set_option maxRecDepth 100000 in
theorem gC_Ch_115 {D : va_G} {ad : Nat → Nat} {cA : Nat → ClassId} {X : State → Prop} {p : Program} {l : Launch} {e : Env} {R : Room} {s : State} {m : MethodId} {args : Array Value} {below : List Frame} {meth : Method} {c : Code} {cc : ByteArray} {nL : Nat} {Q : State → Prop} {pc : Nat} {lv : List (Nat × Value)} {st : List Value} {σ : zS} (C : CC D ad cA X p s m args meth c cc "KindRounds$Checker" nL) (hd : decode cc pc = .ok (.getfield 115, 3)) (k : ZC D ad cA p l e R s m args below meth c nL Q (pc + 3) lv (.ref (ad 32) :: st) σ) : ZC D ad cA p l e R s m args below meth c nL Q pc lv (.ref (ad 4) :: st) σ :=
  z_getN C 4 mC_179 i_Te rfl oC_4 (Nat.le_of_ble_eq_true rfl) rfl rfl hd k
set_option maxHeartbeats 4000000 in
set_option maxRecDepth 100000 in
theorem oC_8 {ad : Nat → Nat} {cA : Nat → ClassId} {σ : zS} : (wdC ad cA σ)[8]? = some (ad 8, .inr (8, [.ref (ad 4), .ref (ad 5), .ref (ad 3), .ref (ad 2), .ref (ad 49), .ref (ad 50), .ref (ad 51), .int (gi σ 807), .ref (ad 52), .ref (ad 53), .ref (ad 54), .int (gi σ 811), .ref (ad 55), .ref (ad 56), .int (gi σ 814), .int (gi σ 815)])) := rfl
set_option maxHeartbeats 4000000 in
set_option maxRecDepth 100000 in
theorem gC_So_9 {D : va_G} {ad : Nat → Nat} {cA : Nat → ClassId} {X : State → Prop} {p : Program} {l : Launch} {e : Env} {R : Room} {s : State} {m : MethodId} {args : Array Value} {below : List Frame} {meth : Method} {c : Code} {cc : ByteArray} {nL : Nat} {Q : State → Prop} {pc : Nat} {lv : List (Nat × Value)} {st : List Value} {σ : zS} (C : CC D ad cA X p s m args meth c cc "KindRounds$Solver" nL) (hd : decode cc pc = .ok (.getfield 9, 3)) (k : ZC D ad cA p l e R s m args below meth c nL Q (pc + 3) lv (.ref (ad 4) :: st) σ) : ZC D ad cA p l e R s m args below meth c nL Q pc lv (.ref (ad 8) :: st) σ :=
  z_get C 0 mC_180 i_So rfl oC_8 (Nat.le_of_ble_eq_true rfl) rfl rfl hd k
set_option maxHeartbeats 4000000 in
set_option maxRecDepth 100000 in
theorem gC_So_53 {D : va_G} {ad : Nat → Nat} {cA : Nat → ClassId} {X : State → Prop} {p : Program} {l : Launch} {e : Env} {R : Room} {s : State} {m : MethodId} {args : Array Value} {below : List Frame} {meth : Method} {c : Code} {cc : ByteArray} {nL : Nat} {Q : State → Prop} {pc : Nat} {lv : List (Nat × Value)} {st : List Value} {σ : zS} (C : CC D ad cA X p s m args meth c cc "KindRounds$Solver" nL) {v : Int32} (hv : gi σ 412 = v) (hd : decode cc pc = .ok (.getfield 53, 3)) (k : ZC D ad cA p l e R s m args below meth c nL Q (pc + 3) lv (.int v :: st) σ) : ZC D ad cA p l e R s m args below meth c nL Q pc lv (.ref (ad 4) :: st) σ := by
  subst hv
  exact z_getN C 12 mC_181 i_Te rfl oC_4 (Nat.le_of_ble_eq_true rfl) rfl rfl hd k
set_option maxHeartbeats 4000000 in
set_option maxRecDepth 100000 in
theorem gC_So_23 {D : va_G} {ad : Nat → Nat} {cA : Nat → ClassId} {X : State → Prop} {p : Program} {l : Launch} {e : Env} {R : Room} {s : State} {m : MethodId} {args : Array Value} {below : List Frame} {meth : Method} {c : Code} {cc : ByteArray} {nL : Nat} {Q : State → Prop} {pc : Nat} {lv : List (Nat × Value)} {st : List Value} {σ : zS} (C : CC D ad cA X p s m args meth c cc "KindRounds$Solver" nL) (hd : decode cc pc = .ok (.getfield 23, 3)) (k : ZC D ad cA p l e R s m args below meth c nL Q (pc + 3) lv (.ref (ad 2) :: st) σ) : ZC D ad cA p l e R s m args below meth c nL Q pc lv (.ref (ad 8) :: st) σ :=
  z_get C 3 mC_182 i_So rfl oC_8 (Nat.le_of_ble_eq_true rfl) rfl rfl hd k
set_option maxHeartbeats 4000000 in
set_option maxRecDepth 100000 in
theorem pC_So_65 {D : va_G} {ad : Nat → Nat} {cA : Nat → ClassId} {X : State → Prop} {p : Program} {l : Launch} {e : Env} {R : Room} {s : State} {m : MethodId} {args : Array Value} {below : List Frame} {meth : Method} {c : Code} {cc : ByteArray} {nL : Nat} {Q : State → Prop} {pc : Nat} {lv : List (Nat × Value)} {st : List Value} {σ : zS} (C : CC D ad cA X p s m args meth c cc "KindRounds$Solver" nL) {v : Int32} (hd : decode cc pc = .ok (.putfield 65, 3)) (k : ZC D ad cA p l e R s m args below meth c nL Q (pc + 3) lv st (si σ 807 v)) : ZC D ad cA p l e R s m args below meth c nL Q pc lv (.int v :: .ref (ad 8) :: st) σ :=
  z_put C 7 (ty := .int) mC_184 i_So t_So t_So_ok n_So rfl oC_8 (Nat.le_of_ble_eq_true rfl) rfl rfl rfl rfl rfl (Nat.le_of_ble_eq_true rfl) rfl hd k
set_option maxHeartbeats 4000000 in
set_option maxRecDepth 100000 in
theorem gC_So_68 {D : va_G} {ad : Nat → Nat} {cA : Nat → ClassId} {X : State → Prop} {p : Program} {l : Launch} {e : Env} {R : Room} {s : State} {m : MethodId} {args : Array Value} {below : List Frame} {meth : Method} {c : Code} {cc : ByteArray} {nL : Nat} {Q : State → Prop} {pc : Nat} {lv : List (Nat × Value)} {st : List Value} {σ : zS} (C : CC D ad cA X p s m args meth c cc "KindRounds$Solver" nL) (hd : decode cc pc = .ok (.getfield 68, 3)) (k : ZC D ad cA p l e R s m args below meth c nL Q (pc + 3) lv (.ref (ad 39) :: st) σ) : ZC D ad cA p l e R s m args below meth c nL Q pc lv (.ref (ad 4) :: st) σ :=
  z_getN C 11 mC_185 i_Te rfl oC_4 (Nat.le_of_ble_eq_true rfl) rfl rfl hd k
set_option maxHeartbeats 4000000 in
set_option maxRecDepth 100000 in
theorem gC_So_19 {D : va_G} {ad : Nat → Nat} {cA : Nat → ClassId} {X : State → Prop} {p : Program} {l : Launch} {e : Env} {R : Room} {s : State} {m : MethodId} {args : Array Value} {below : List Frame} {meth : Method} {c : Code} {cc : ByteArray} {nL : Nat} {Q : State → Prop} {pc : Nat} {lv : List (Nat × Value)} {st : List Value} {σ : zS} (C : CC D ad cA X p s m args meth c cc "KindRounds$Solver" nL) (hd : decode cc pc = .ok (.getfield 19, 3)) (k : ZC D ad cA p l e R s m args below meth c nL Q (pc + 3) lv (.ref (ad 3) :: st) σ) : ZC D ad cA p l e R s m args below meth c nL Q pc lv (.ref (ad 8) :: st) σ :=
  z_get C 2 mC_191 i_So rfl oC_8 (Nat.le_of_ble_eq_true rfl) rfl rfl hd k
set_option maxHeartbeats 4000000 in
set_option maxRecDepth 100000 in
theorem gC_So_65 {D : va_G} {ad : Nat → Nat} {cA : Nat → ClassId} {X : State → Prop} {p : Program} {l : Launch} {e : Env} {R : Room} {s : State} {m : MethodId} {args : Array Value} {below : List Frame} {meth : Method} {c : Code} {cc : ByteArray} {nL : Nat} {Q : State → Prop} {pc : Nat} {lv : List (Nat × Value)} {st : List Value} {σ : zS} (C : CC D ad cA X p s m args meth c cc "KindRounds$Solver" nL) {v : Int32} (hv : gi σ 807 = v) (hd : decode cc pc = .ok (.getfield 65, 3)) (k : ZC D ad cA p l e R s m args below meth c nL Q (pc + 3) lv (.int v :: st) σ) : ZC D ad cA p l e R s m args below meth c nL Q pc lv (.ref (ad 8) :: st) σ := by
  subst hv
  exact z_get C 7 mC_184 i_So rfl oC_8 (Nat.le_of_ble_eq_true rfl) rfl rfl hd k
set_option maxHeartbeats 4000000 in
set_option maxRecDepth 100000 in
theorem gC_So_27 {D : va_G} {ad : Nat → Nat} {cA : Nat → ClassId} {X : State → Prop} {p : Program} {l : Launch} {e : Env} {R : Room} {s : State} {m : MethodId} {args : Array Value} {below : List Frame} {meth : Method} {c : Code} {cc : ByteArray} {nL : Nat} {Q : State → Prop} {pc : Nat} {lv : List (Nat × Value)} {st : List Value} {σ : zS} (C : CC D ad cA X p s m args meth c cc "KindRounds$Solver" nL) (hd : decode cc pc = .ok (.getfield 27, 3)) (k : ZC D ad cA p l e R s m args below meth c nL Q (pc + 3) lv (.ref (ad 49) :: st) σ) : ZC D ad cA p l e R s m args below meth c nL Q pc lv (.ref (ad 8) :: st) σ :=
  z_get C 4 mC_194 i_So rfl oC_8 (Nat.le_of_ble_eq_true rfl) rfl rfl hd k
set_option maxHeartbeats 4000000 in
set_option maxRecDepth 100000 in
theorem alC_49 {D : va_G} {ad : Nat → Nat} {cA : Nat → ClassId} {X : State → Prop} {p : Program} {l : Launch} {e : Env} {R : Room} {s : State} {m : MethodId} {args : Array Value} {below : List Frame} {meth : Method} {c : Code} {cc : ByteArray} {nL : Nat} {Q : State → Prop} {pc : Nat} {lv : List (Nat × Value)} {st : List Value} {σ : zS} {own : String} (C : CC D ad cA X p s m args meth c cc own nL) {i : Int32} {v : Int32} (hv : ga σ 49 i.toNatClampNeg = v) (hin : inb i 216 = true) (hd : decode cc pc = .ok (.iaload, 1)) (k : ZC D ad cA p l e R s m args below meth c nL Q (pc + 1) lv (.int v :: st) σ) : ZC D ad cA p l e R s m args below meth c nL Q pc lv (.int i :: .ref (ad 49) :: st) σ := by
  subst hv
  exact z_iald C (t0 := 30) (q0 := 49) rfl rfl hin hd k
set_option maxHeartbeats 4000000 in
set_option maxRecDepth 100000 in
theorem asC_49 {D : va_G} {ad : Nat → Nat} {cA : Nat → ClassId} {X : State → Prop} {p : Program} {l : Launch} {e : Env} {R : Room} {s : State} {m : MethodId} {args : Array Value} {below : List Frame} {meth : Method} {c : Code} {cc : ByteArray} {nL : Nat} {Q : State → Prop} {pc : Nat} {lv : List (Nat × Value)} {st : List Value} {σ : zS} {own : String} (C : CC D ad cA X p s m args meth c cc own nL) {i : Int32} {v : Int32} (hin : inb i 216 = true) (hd : decode cc pc = .ok (.iastore, 1)) (k : ZC D ad cA p l e R s m args below meth c nL Q (pc + 1) lv st (sa σ 49 i.toNatClampNeg v)) : ZC D ad cA p l e R s m args below meth c nL Q pc lv (.int v :: .int i :: .ref (ad 49) :: st) σ :=
  z_iast C (t0 := 30) (q0 := 49) rfl rfl hin rfl hd k
set_option maxHeartbeats 4000000 in
set_option maxRecDepth 100000 in
theorem gC_So_31 {D : va_G} {ad : Nat → Nat} {cA : Nat → ClassId} {X : State → Prop} {p : Program} {l : Launch} {e : Env} {R : Room} {s : State} {m : MethodId} {args : Array Value} {below : List Frame} {meth : Method} {c : Code} {cc : ByteArray} {nL : Nat} {Q : State → Prop} {pc : Nat} {lv : List (Nat × Value)} {st : List Value} {σ : zS} (C : CC D ad cA X p s m args meth c cc "KindRounds$Solver" nL) (hd : decode cc pc = .ok (.getfield 31, 3)) (k : ZC D ad cA p l e R s m args below meth c nL Q (pc + 3) lv (.ref (ad 50) :: st) σ) : ZC D ad cA p l e R s m args below meth c nL Q pc lv (.ref (ad 8) :: st) σ :=
  z_get C 5 mC_195 i_So rfl oC_8 (Nat.le_of_ble_eq_true rfl) rfl rfl hd k
set_option maxHeartbeats 4000000 in
set_option maxRecDepth 100000 in
theorem alC_50 {D : va_G} {ad : Nat → Nat} {cA : Nat → ClassId} {X : State → Prop} {p : Program} {l : Launch} {e : Env} {R : Room} {s : State} {m : MethodId} {args : Array Value} {below : List Frame} {meth : Method} {c : Code} {cc : ByteArray} {nL : Nat} {Q : State → Prop} {pc : Nat} {lv : List (Nat × Value)} {st : List Value} {σ : zS} {own : String} (C : CC D ad cA X p s m args meth c cc own nL) {i : Int32} {v : Int32} (hv : ga σ 50 i.toNatClampNeg = v) (hin : inb i 216 = true) (hd : decode cc pc = .ok (.iaload, 1)) (k : ZC D ad cA p l e R s m args below meth c nL Q (pc + 1) lv (.int v :: st) σ) : ZC D ad cA p l e R s m args below meth c nL Q pc lv (.int i :: .ref (ad 50) :: st) σ := by
  subst hv
  exact z_iald C (t0 := 31) (q0 := 50) rfl rfl hin hd k
set_option maxHeartbeats 4000000 in
set_option maxRecDepth 100000 in
theorem asC_50 {D : va_G} {ad : Nat → Nat} {cA : Nat → ClassId} {X : State → Prop} {p : Program} {l : Launch} {e : Env} {R : Room} {s : State} {m : MethodId} {args : Array Value} {below : List Frame} {meth : Method} {c : Code} {cc : ByteArray} {nL : Nat} {Q : State → Prop} {pc : Nat} {lv : List (Nat × Value)} {st : List Value} {σ : zS} {own : String} (C : CC D ad cA X p s m args meth c cc own nL) {i : Int32} {v : Int32} (hin : inb i 216 = true) (hd : decode cc pc = .ok (.iastore, 1)) (k : ZC D ad cA p l e R s m args below meth c nL Q (pc + 1) lv st (sa σ 50 i.toNatClampNeg v)) : ZC D ad cA p l e R s m args below meth c nL Q pc lv (.int v :: .int i :: .ref (ad 50) :: st) σ :=
  z_iast C (t0 := 31) (q0 := 50) rfl rfl hin rfl hd k
set_option maxHeartbeats 4000000 in
set_option maxRecDepth 100000 in
theorem gC_So_34 {D : va_G} {ad : Nat → Nat} {cA : Nat → ClassId} {X : State → Prop} {p : Program} {l : Launch} {e : Env} {R : Room} {s : State} {m : MethodId} {args : Array Value} {below : List Frame} {meth : Method} {c : Code} {cc : ByteArray} {nL : Nat} {Q : State → Prop} {pc : Nat} {lv : List (Nat × Value)} {st : List Value} {σ : zS} (C : CC D ad cA X p s m args meth c cc "KindRounds$Solver" nL) (hd : decode cc pc = .ok (.getfield 34, 3)) (k : ZC D ad cA p l e R s m args below meth c nL Q (pc + 3) lv (.ref (ad 51) :: st) σ) : ZC D ad cA p l e R s m args below meth c nL Q pc lv (.ref (ad 8) :: st) σ :=
  z_get C 6 mC_197 i_So rfl oC_8 (Nat.le_of_ble_eq_true rfl) rfl rfl hd k
set_option maxHeartbeats 4000000 in
set_option maxRecDepth 100000 in
theorem alC_51 {D : va_G} {ad : Nat → Nat} {cA : Nat → ClassId} {X : State → Prop} {p : Program} {l : Launch} {e : Env} {R : Room} {s : State} {m : MethodId} {args : Array Value} {below : List Frame} {meth : Method} {c : Code} {cc : ByteArray} {nL : Nat} {Q : State → Prop} {pc : Nat} {lv : List (Nat × Value)} {st : List Value} {σ : zS} {own : String} (C : CC D ad cA X p s m args meth c cc own nL) {i : Int32} {v : Int32} (hv : ga σ 51 i.toNatClampNeg = v) (hin : inb i 216 = true) (hd : decode cc pc = .ok (.iaload, 1)) (k : ZC D ad cA p l e R s m args below meth c nL Q (pc + 1) lv (.int v :: st) σ) : ZC D ad cA p l e R s m args below meth c nL Q pc lv (.int i :: .ref (ad 51) :: st) σ := by
  subst hv
  exact z_iald C (t0 := 32) (q0 := 51) rfl rfl hin hd k
set_option maxHeartbeats 4000000 in
set_option maxRecDepth 100000 in
theorem asC_51 {D : va_G} {ad : Nat → Nat} {cA : Nat → ClassId} {X : State → Prop} {p : Program} {l : Launch} {e : Env} {R : Room} {s : State} {m : MethodId} {args : Array Value} {below : List Frame} {meth : Method} {c : Code} {cc : ByteArray} {nL : Nat} {Q : State → Prop} {pc : Nat} {lv : List (Nat × Value)} {st : List Value} {σ : zS} {own : String} (C : CC D ad cA X p s m args meth c cc own nL) {i : Int32} {v : Int32} (hin : inb i 216 = true) (hd : decode cc pc = .ok (.iastore, 1)) (k : ZC D ad cA p l e R s m args below meth c nL Q (pc + 1) lv st (sa σ 51 i.toNatClampNeg v)) : ZC D ad cA p l e R s m args below meth c nL Q pc lv (.int v :: .int i :: .ref (ad 51) :: st) σ :=
  z_iast C (t0 := 32) (q0 := 51) rfl rfl hin rfl hd k
set_option maxHeartbeats 4000000 in
set_option maxRecDepth 100000 in
theorem alC_42 {D : va_G} {ad : Nat → Nat} {cA : Nat → ClassId} {X : State → Prop} {p : Program} {l : Launch} {e : Env} {R : Room} {s : State} {m : MethodId} {args : Array Value} {below : List Frame} {meth : Method} {c : Code} {cc : ByteArray} {nL : Nat} {Q : State → Prop} {pc : Nat} {lv : List (Nat × Value)} {st : List Value} {σ : zS} {own : String} (C : CC D ad cA X p s m args meth c cc own nL) {i : Int32} {v : Int32} (hv : ga σ 42 i.toNatClampNeg = v) (hin : inb i 16 = true) (hd : decode cc pc = .ok (.iaload, 1)) (k : ZC D ad cA p l e R s m args below meth c nL Q (pc + 1) lv (.int v :: st) σ) : ZC D ad cA p l e R s m args below meth c nL Q pc lv (.int i :: .ref (ad 42) :: st) σ := by
  subst hv
  exact z_iald C (t0 := 23) (q0 := 42) rfl rfl hin hd k
set_option maxHeartbeats 4000000 in
set_option maxRecDepth 100000 in
theorem asC_42 {D : va_G} {ad : Nat → Nat} {cA : Nat → ClassId} {X : State → Prop} {p : Program} {l : Launch} {e : Env} {R : Room} {s : State} {m : MethodId} {args : Array Value} {below : List Frame} {meth : Method} {c : Code} {cc : ByteArray} {nL : Nat} {Q : State → Prop} {pc : Nat} {lv : List (Nat × Value)} {st : List Value} {σ : zS} {own : String} (C : CC D ad cA X p s m args meth c cc own nL) {i : Int32} {v : Int32} (hin : inb i 16 = true) (hd : decode cc pc = .ok (.iastore, 1)) (k : ZC D ad cA p l e R s m args below meth c nL Q (pc + 1) lv st (sa σ 42 i.toNatClampNeg v)) : ZC D ad cA p l e R s m args below meth c nL Q pc lv (.int v :: .int i :: .ref (ad 42) :: st) σ :=
  z_iast C (t0 := 23) (q0 := 42) rfl rfl hin rfl hd k
set_option maxHeartbeats 4000000 in
set_option maxRecDepth 100000 in
theorem gC_So_127 {D : va_G} {ad : Nat → Nat} {cA : Nat → ClassId} {X : State → Prop} {p : Program} {l : Launch} {e : Env} {R : Room} {s : State} {m : MethodId} {args : Array Value} {below : List Frame} {meth : Method} {c : Code} {cc : ByteArray} {nL : Nat} {Q : State → Prop} {pc : Nat} {lv : List (Nat × Value)} {st : List Value} {σ : zS} (C : CC D ad cA X p s m args meth c cc "KindRounds$Solver" nL) (hd : decode cc pc = .ok (.getfield 127, 3)) (k : ZC D ad cA p l e R s m args below meth c nL Q (pc + 3) lv (.ref (ad 40) :: st) σ) : ZC D ad cA p l e R s m args below meth c nL Q pc lv (.ref (ad 4) :: st) σ :=
  z_getN C 13 mC_200 i_Te rfl oC_4 (Nat.le_of_ble_eq_true rfl) rfl rfl hd k
set_option maxHeartbeats 4000000 in
set_option maxRecDepth 100000 in
theorem alC_40 {D : va_G} {ad : Nat → Nat} {cA : Nat → ClassId} {X : State → Prop} {p : Program} {l : Launch} {e : Env} {R : Room} {s : State} {m : MethodId} {args : Array Value} {below : List Frame} {meth : Method} {c : Code} {cc : ByteArray} {nL : Nat} {Q : State → Prop} {pc : Nat} {lv : List (Nat × Value)} {st : List Value} {σ : zS} {own : String} (C : CC D ad cA X p s m args meth c cc own nL) {i : Int32} {v : Int32} (hv : ga σ 40 i.toNatClampNeg = v) (hin : inb i 16 = true) (hd : decode cc pc = .ok (.iaload, 1)) (k : ZC D ad cA p l e R s m args below meth c nL Q (pc + 1) lv (.int v :: st) σ) : ZC D ad cA p l e R s m args below meth c nL Q pc lv (.int i :: .ref (ad 40) :: st) σ := by
  subst hv
  exact z_iald C (t0 := 21) (q0 := 40) rfl rfl hin hd k
set_option maxHeartbeats 4000000 in
set_option maxRecDepth 100000 in
theorem asC_40 {D : va_G} {ad : Nat → Nat} {cA : Nat → ClassId} {X : State → Prop} {p : Program} {l : Launch} {e : Env} {R : Room} {s : State} {m : MethodId} {args : Array Value} {below : List Frame} {meth : Method} {c : Code} {cc : ByteArray} {nL : Nat} {Q : State → Prop} {pc : Nat} {lv : List (Nat × Value)} {st : List Value} {σ : zS} {own : String} (C : CC D ad cA X p s m args meth c cc own nL) {i : Int32} {v : Int32} (hin : inb i 16 = true) (hd : decode cc pc = .ok (.iastore, 1)) (k : ZC D ad cA p l e R s m args below meth c nL Q (pc + 1) lv st (sa σ 40 i.toNatClampNeg v)) : ZC D ad cA p l e R s m args below meth c nL Q pc lv (.int v :: .int i :: .ref (ad 40) :: st) σ :=
  z_iast C (t0 := 21) (q0 := 40) rfl rfl hin rfl hd k
set_option maxHeartbeats 4000000 in
set_option maxRecDepth 100000 in
theorem gC_So_111 {D : va_G} {ad : Nat → Nat} {cA : Nat → ClassId} {X : State → Prop} {p : Program} {l : Launch} {e : Env} {R : Room} {s : State} {m : MethodId} {args : Array Value} {below : List Frame} {meth : Method} {c : Code} {cc : ByteArray} {nL : Nat} {Q : State → Prop} {pc : Nat} {lv : List (Nat × Value)} {st : List Value} {σ : zS} (C : CC D ad cA X p s m args meth c cc "KindRounds$Solver" nL) (hd : decode cc pc = .ok (.getfield 111, 3)) (k : ZC D ad cA p l e R s m args below meth c nL Q (pc + 3) lv (.ref (ad 32) :: st) σ) : ZC D ad cA p l e R s m args below meth c nL Q pc lv (.ref (ad 4) :: st) σ :=
  z_getN C 4 mC_202 i_Te rfl oC_4 (Nat.le_of_ble_eq_true rfl) rfl rfl hd k
set_option maxHeartbeats 4000000 in
set_option maxRecDepth 100000 in
theorem gC_So_121 {D : va_G} {ad : Nat → Nat} {cA : Nat → ClassId} {X : State → Prop} {p : Program} {l : Launch} {e : Env} {R : Room} {s : State} {m : MethodId} {args : Array Value} {below : List Frame} {meth : Method} {c : Code} {cc : ByteArray} {nL : Nat} {Q : State → Prop} {pc : Nat} {lv : List (Nat × Value)} {st : List Value} {σ : zS} (C : CC D ad cA X p s m args meth c cc "KindRounds$Solver" nL) (hd : decode cc pc = .ok (.getfield 121, 3)) (k : ZC D ad cA p l e R s m args below meth c nL Q (pc + 3) lv (.ref (ad 42) :: st) σ) : ZC D ad cA p l e R s m args below meth c nL Q pc lv (.ref (ad 4) :: st) σ :=
  z_getN C 15 mC_203 i_Te rfl oC_4 (Nat.le_of_ble_eq_true rfl) rfl rfl hd k
set_option maxHeartbeats 4000000 in
set_option maxRecDepth 100000 in
theorem gC_So_124 {D : va_G} {ad : Nat → Nat} {cA : Nat → ClassId} {X : State → Prop} {p : Program} {l : Launch} {e : Env} {R : Room} {s : State} {m : MethodId} {args : Array Value} {below : List Frame} {meth : Method} {c : Code} {cc : ByteArray} {nL : Nat} {Q : State → Prop} {pc : Nat} {lv : List (Nat × Value)} {st : List Value} {σ : zS} (C : CC D ad cA X p s m args meth c cc "KindRounds$Solver" nL) (hd : decode cc pc = .ok (.getfield 124, 3)) (k : ZC D ad cA p l e R s m args below meth c nL Q (pc + 3) lv (.ref (ad 29) :: st) σ) : ZC D ad cA p l e R s m args below meth c nL Q pc lv (.ref (ad 4) :: st) σ :=
  z_getN C 1 mC_204 i_Te rfl oC_4 (Nat.le_of_ble_eq_true rfl) rfl rfl hd k
set_option maxHeartbeats 4000000 in
set_option maxRecDepth 100000 in
theorem gC_So_114 {D : va_G} {ad : Nat → Nat} {cA : Nat → ClassId} {X : State → Prop} {p : Program} {l : Launch} {e : Env} {R : Room} {s : State} {m : MethodId} {args : Array Value} {below : List Frame} {meth : Method} {c : Code} {cc : ByteArray} {nL : Nat} {Q : State → Prop} {pc : Nat} {lv : List (Nat × Value)} {st : List Value} {σ : zS} (C : CC D ad cA X p s m args meth c cc "KindRounds$Solver" nL) (hd : decode cc pc = .ok (.getfield 114, 3)) (k : ZC D ad cA p l e R s m args below meth c nL Q (pc + 3) lv (.ref (ad 41) :: st) σ) : ZC D ad cA p l e R s m args below meth c nL Q pc lv (.ref (ad 4) :: st) σ :=
  z_getN C 14 mC_206 i_Te rfl oC_4 (Nat.le_of_ble_eq_true rfl) rfl rfl hd k
set_option maxHeartbeats 4000000 in
set_option maxRecDepth 100000 in
theorem alC_41 {D : va_G} {ad : Nat → Nat} {cA : Nat → ClassId} {X : State → Prop} {p : Program} {l : Launch} {e : Env} {R : Room} {s : State} {m : MethodId} {args : Array Value} {below : List Frame} {meth : Method} {c : Code} {cc : ByteArray} {nL : Nat} {Q : State → Prop} {pc : Nat} {lv : List (Nat × Value)} {st : List Value} {σ : zS} {own : String} (C : CC D ad cA X p s m args meth c cc own nL) {i : Int32} {v : Int32} (hv : ga σ 41 i.toNatClampNeg = v) (hin : inb i 48 = true) (hd : decode cc pc = .ok (.iaload, 1)) (k : ZC D ad cA p l e R s m args below meth c nL Q (pc + 1) lv (.int v :: st) σ) : ZC D ad cA p l e R s m args below meth c nL Q pc lv (.int i :: .ref (ad 41) :: st) σ := by
  subst hv
  exact z_iald C (t0 := 22) (q0 := 41) rfl rfl hin hd k
set_option maxHeartbeats 4000000 in
set_option maxRecDepth 100000 in
theorem asC_41 {D : va_G} {ad : Nat → Nat} {cA : Nat → ClassId} {X : State → Prop} {p : Program} {l : Launch} {e : Env} {R : Room} {s : State} {m : MethodId} {args : Array Value} {below : List Frame} {meth : Method} {c : Code} {cc : ByteArray} {nL : Nat} {Q : State → Prop} {pc : Nat} {lv : List (Nat × Value)} {st : List Value} {σ : zS} {own : String} (C : CC D ad cA X p s m args meth c cc own nL) {i : Int32} {v : Int32} (hin : inb i 48 = true) (hd : decode cc pc = .ok (.iastore, 1)) (k : ZC D ad cA p l e R s m args below meth c nL Q (pc + 1) lv st (sa σ 41 i.toNatClampNeg v)) : ZC D ad cA p l e R s m args below meth c nL Q pc lv (.int v :: .int i :: .ref (ad 41) :: st) σ :=
  z_iast C (t0 := 22) (q0 := 41) rfl rfl hin rfl hd k
set_option maxHeartbeats 4000000 in
set_option maxRecDepth 100000 in
theorem gC_So_108 {D : va_G} {ad : Nat → Nat} {cA : Nat → ClassId} {X : State → Prop} {p : Program} {l : Launch} {e : Env} {R : Room} {s : State} {m : MethodId} {args : Array Value} {below : List Frame} {meth : Method} {c : Code} {cc : ByteArray} {nL : Nat} {Q : State → Prop} {pc : Nat} {lv : List (Nat × Value)} {st : List Value} {σ : zS} (C : CC D ad cA X p s m args meth c cc "KindRounds$Solver" nL) {v : Int32} (hv : gi σ 400 = v) (hd : decode cc pc = .ok (.getfield 108, 3)) (k : ZC D ad cA p l e R s m args below meth c nL Q (pc + 3) lv (.int v :: st) σ) : ZC D ad cA p l e R s m args below meth c nL Q pc lv (.ref (ad 4) :: st) σ := by
  subst hv
  exact z_getN C 0 mC_207 i_Te rfl oC_4 (Nat.le_of_ble_eq_true rfl) rfl rfl hd k
set_option maxHeartbeats 4000000 in
set_option maxRecDepth 100000 in
theorem gC_So_141 {D : va_G} {ad : Nat → Nat} {cA : Nat → ClassId} {X : State → Prop} {p : Program} {l : Launch} {e : Env} {R : Room} {s : State} {m : MethodId} {args : Array Value} {below : List Frame} {meth : Method} {c : Code} {cc : ByteArray} {nL : Nat} {Q : State → Prop} {pc : Nat} {lv : List (Nat × Value)} {st : List Value} {σ : zS} (C : CC D ad cA X p s m args meth c cc "KindRounds$Solver" nL) (hd : decode cc pc = .ok (.getfield 141, 3)) (k : ZC D ad cA p l e R s m args below meth c nL Q (pc + 3) lv (.ref (ad 35) :: st) σ) : ZC D ad cA p l e R s m args below meth c nL Q pc lv (.ref (ad 4) :: st) σ :=
  z_getN C 7 mC_210 i_Te rfl oC_4 (Nat.le_of_ble_eq_true rfl) rfl rfl hd k
set_option maxHeartbeats 4000000 in
set_option maxRecDepth 100000 in
theorem gC_So_15 {D : va_G} {ad : Nat → Nat} {cA : Nat → ClassId} {X : State → Prop} {p : Program} {l : Launch} {e : Env} {R : Room} {s : State} {m : MethodId} {args : Array Value} {below : List Frame} {meth : Method} {c : Code} {cc : ByteArray} {nL : Nat} {Q : State → Prop} {pc : Nat} {lv : List (Nat × Value)} {st : List Value} {σ : zS} (C : CC D ad cA X p s m args meth c cc "KindRounds$Solver" nL) (hd : decode cc pc = .ok (.getfield 15, 3)) (k : ZC D ad cA p l e R s m args below meth c nL Q (pc + 3) lv (.ref (ad 5) :: st) σ) : ZC D ad cA p l e R s m args below meth c nL Q pc lv (.ref (ad 8) :: st) σ :=
  z_get C 1 mC_211 i_So rfl oC_8 (Nat.le_of_ble_eq_true rfl) rfl rfl hd k
set_option maxHeartbeats 4000000 in
set_option maxRecDepth 100000 in
theorem gC_So_157 {D : va_G} {ad : Nat → Nat} {cA : Nat → ClassId} {X : State → Prop} {p : Program} {l : Launch} {e : Env} {R : Room} {s : State} {m : MethodId} {args : Array Value} {below : List Frame} {meth : Method} {c : Code} {cc : ByteArray} {nL : Nat} {Q : State → Prop} {pc : Nat} {lv : List (Nat × Value)} {st : List Value} {σ : zS} (C : CC D ad cA X p s m args meth c cc "KindRounds$Solver" nL) (hd : decode cc pc = .ok (.getfield 157, 3)) (k : ZC D ad cA p l e R s m args below meth c nL Q (pc + 3) lv (.ref (ad 47) :: st) σ) : ZC D ad cA p l e R s m args below meth c nL Q pc lv (.ref (ad 5) :: st) σ :=
  z_getN C 4 mC_212 i_Me rfl oC_5 (Nat.le_of_ble_eq_true rfl) rfl rfl hd k
set_option maxHeartbeats 4000000 in
set_option maxRecDepth 100000 in
theorem gC_So_160 {D : va_G} {ad : Nat → Nat} {cA : Nat → ClassId} {X : State → Prop} {p : Program} {l : Launch} {e : Env} {R : Room} {s : State} {m : MethodId} {args : Array Value} {below : List Frame} {meth : Method} {c : Code} {cc : ByteArray} {nL : Nat} {Q : State → Prop} {pc : Nat} {lv : List (Nat × Value)} {st : List Value} {σ : zS} (C : CC D ad cA X p s m args meth c cc "KindRounds$Solver" nL) (hd : decode cc pc = .ok (.getfield 160, 3)) (k : ZC D ad cA p l e R s m args below meth c nL Q (pc + 3) lv (.ref (ad 45) :: st) σ) : ZC D ad cA p l e R s m args below meth c nL Q pc lv (.ref (ad 5) :: st) σ :=
  z_getN C 2 mC_213 i_Me rfl oC_5 (Nat.le_of_ble_eq_true rfl) rfl rfl hd k
set_option maxHeartbeats 4000000 in
set_option maxRecDepth 100000 in
theorem gC_So_144 {D : va_G} {ad : Nat → Nat} {cA : Nat → ClassId} {X : State → Prop} {p : Program} {l : Launch} {e : Env} {R : Room} {s : State} {m : MethodId} {args : Array Value} {below : List Frame} {meth : Method} {c : Code} {cc : ByteArray} {nL : Nat} {Q : State → Prop} {pc : Nat} {lv : List (Nat × Value)} {st : List Value} {σ : zS} (C : CC D ad cA X p s m args meth c cc "KindRounds$Solver" nL) {v : Int32} (hv : gi σ 505 = v) (hd : decode cc pc = .ok (.getfield 144, 3)) (k : ZC D ad cA p l e R s m args below meth c nL Q (pc + 3) lv (.int v :: st) σ) : ZC D ad cA p l e R s m args below meth c nL Q pc lv (.ref (ad 5) :: st) σ := by
  subst hv
  exact z_getN C 5 mC_215 i_Me rfl oC_5 (Nat.le_of_ble_eq_true rfl) rfl rfl hd k
set_option maxHeartbeats 4000000 in
set_option maxRecDepth 100000 in
theorem gC_So_147 {D : va_G} {ad : Nat → Nat} {cA : Nat → ClassId} {X : State → Prop} {p : Program} {l : Launch} {e : Env} {R : Room} {s : State} {m : MethodId} {args : Array Value} {below : List Frame} {meth : Method} {c : Code} {cc : ByteArray} {nL : Nat} {Q : State → Prop} {pc : Nat} {lv : List (Nat × Value)} {st : List Value} {σ : zS} (C : CC D ad cA X p s m args meth c cc "KindRounds$Solver" nL) (hd : decode cc pc = .ok (.getfield 147, 3)) (k : ZC D ad cA p l e R s m args below meth c nL Q (pc + 3) lv (.ref (ad 43) :: st) σ) : ZC D ad cA p l e R s m args below meth c nL Q pc lv (.ref (ad 5) :: st) σ :=
  z_getN C 0 mC_216 i_Me rfl oC_5 (Nat.le_of_ble_eq_true rfl) rfl rfl hd k
set_option maxHeartbeats 4000000 in
set_option maxRecDepth 100000 in
theorem gC_So_150 {D : va_G} {ad : Nat → Nat} {cA : Nat → ClassId} {X : State → Prop} {p : Program} {l : Launch} {e : Env} {R : Room} {s : State} {m : MethodId} {args : Array Value} {below : List Frame} {meth : Method} {c : Code} {cc : ByteArray} {nL : Nat} {Q : State → Prop} {pc : Nat} {lv : List (Nat × Value)} {st : List Value} {σ : zS} (C : CC D ad cA X p s m args meth c cc "KindRounds$Solver" nL) (hd : decode cc pc = .ok (.getfield 150, 3)) (k : ZC D ad cA p l e R s m args below meth c nL Q (pc + 3) lv (.ref (ad 44) :: st) σ) : ZC D ad cA p l e R s m args below meth c nL Q pc lv (.ref (ad 5) :: st) σ :=
  z_getN C 1 mC_217 i_Me rfl oC_5 (Nat.le_of_ble_eq_true rfl) rfl rfl hd k
set_option maxHeartbeats 4000000 in
set_option maxRecDepth 100000 in
theorem gC_So_169 {D : va_G} {ad : Nat → Nat} {cA : Nat → ClassId} {X : State → Prop} {p : Program} {l : Launch} {e : Env} {R : Room} {s : State} {m : MethodId} {args : Array Value} {below : List Frame} {meth : Method} {c : Code} {cc : ByteArray} {nL : Nat} {Q : State → Prop} {pc : Nat} {lv : List (Nat × Value)} {st : List Value} {σ : zS} (C : CC D ad cA X p s m args meth c cc "KindRounds$Solver" nL) {x : Nat} (hx : isRow x = true) {v : Int32} (hv : mi σ (100 * x + 7) = v) (hd : decode cc pc = .ok (.getfield 169, 3)) (k : ZC D ad cA p l e R s m args below meth c nL Q (pc + 3) lv (.int v :: st) σ) : ZC D ad cA p l e R s m args below meth c nL Q pc lv (.ref (ad x) :: st) σ := by
  subst hv
  exact z_getN C 7 mC_219 i_Ro rfl (oC_Ro hx) (Nat.le_of_ble_eq_true rfl) rfl rfl hd k
set_option maxHeartbeats 4000000 in
set_option maxRecDepth 100000 in
theorem gC_So_174 {D : va_G} {ad : Nat → Nat} {cA : Nat → ClassId} {X : State → Prop} {p : Program} {l : Launch} {e : Env} {R : Room} {s : State} {m : MethodId} {args : Array Value} {below : List Frame} {meth : Method} {c : Code} {cc : ByteArray} {nL : Nat} {Q : State → Prop} {pc : Nat} {lv : List (Nat × Value)} {st : List Value} {σ : zS} (C : CC D ad cA X p s m args meth c cc "KindRounds$Solver" nL) {x : Nat} (hx : isRow x = true) (hd : decode cc pc = .ok (.getfield 174, 3)) (k : ZC D ad cA p l e R s m args below meth c nL Q (pc + 3) lv (.ref (ad (rA x 5)) :: st) σ) : ZC D ad cA p l e R s m args below meth c nL Q pc lv (.ref (ad x) :: st) σ :=
  z_getN C 6 mC_220 i_Ro rfl (oC_Ro hx) (Nat.le_of_ble_eq_true rfl) rfl rfl hd k
set_option maxHeartbeats 4000000 in
set_option maxRecDepth 100000 in
theorem gC_So_180 {D : va_G} {ad : Nat → Nat} {cA : Nat → ClassId} {X : State → Prop} {p : Program} {l : Launch} {e : Env} {R : Room} {s : State} {m : MethodId} {args : Array Value} {below : List Frame} {meth : Method} {c : Code} {cc : ByteArray} {nL : Nat} {Q : State → Prop} {pc : Nat} {lv : List (Nat × Value)} {st : List Value} {σ : zS} (C : CC D ad cA X p s m args meth c cc "KindRounds$Solver" nL) {v : Int32} (hv : gi σ 815 = v) (hd : decode cc pc = .ok (.getfield 180, 3)) (k : ZC D ad cA p l e R s m args below meth c nL Q (pc + 3) lv (.int v :: st) σ) : ZC D ad cA p l e R s m args below meth c nL Q pc lv (.ref (ad 8) :: st) σ := by
  subst hv
  exact z_get C 15 mC_222 i_So rfl oC_8 (Nat.le_of_ble_eq_true rfl) rfl rfl hd k
set_option maxHeartbeats 4000000 in
set_option maxRecDepth 100000 in
theorem gC_So_183 {D : va_G} {ad : Nat → Nat} {cA : Nat → ClassId} {X : State → Prop} {p : Program} {l : Launch} {e : Env} {R : Room} {s : State} {m : MethodId} {args : Array Value} {below : List Frame} {meth : Method} {c : Code} {cc : ByteArray} {nL : Nat} {Q : State → Prop} {pc : Nat} {lv : List (Nat × Value)} {st : List Value} {σ : zS} (C : CC D ad cA X p s m args meth c cc "KindRounds$Solver" nL) {x : Nat} (hx : isRow x = true) (hd : decode cc pc = .ok (.getfield 183, 3)) (k : ZC D ad cA p l e R s m args below meth c nL Q (pc + 3) lv (.ref (ad (rA x 3)) :: st) σ) : ZC D ad cA p l e R s m args below meth c nL Q pc lv (.ref (ad x) :: st) σ :=
  z_getN C 3 mC_223 i_Ro rfl (oC_Ro hx) (Nat.le_of_ble_eq_true rfl) rfl rfl hd k
set_option maxHeartbeats 4000000 in
set_option maxRecDepth 100000 in
theorem gC_So_184 {D : va_G} {ad : Nat → Nat} {cA : Nat → ClassId} {X : State → Prop} {p : Program} {l : Launch} {e : Env} {R : Room} {s : State} {m : MethodId} {args : Array Value} {below : List Frame} {meth : Method} {c : Code} {cc : ByteArray} {nL : Nat} {Q : State → Prop} {pc : Nat} {lv : List (Nat × Value)} {st : List Value} {σ : zS} (C : CC D ad cA X p s m args meth c cc "KindRounds$Solver" nL) {x : Nat} (hx : isRow x = true) (hd : decode cc pc = .ok (.getfield 184, 3)) (k : ZC D ad cA p l e R s m args below meth c nL Q (pc + 3) lv (.ref (ad (rA x 4)) :: st) σ) : ZC D ad cA p l e R s m args below meth c nL Q pc lv (.ref (ad x) :: st) σ :=
  z_getN C 5 mC_224 i_Ro rfl (oC_Ro hx) (Nat.le_of_ble_eq_true rfl) rfl rfl hd k
set_option maxHeartbeats 4000000 in
set_option maxRecDepth 100000 in
theorem gC_So_165 {D : va_G} {ad : Nat → Nat} {cA : Nat → ClassId} {X : State → Prop} {p : Program} {l : Launch} {e : Env} {R : Room} {s : State} {m : MethodId} {args : Array Value} {below : List Frame} {meth : Method} {c : Code} {cc : ByteArray} {nL : Nat} {Q : State → Prop} {pc : Nat} {lv : List (Nat × Value)} {st : List Value} {σ : zS} (C : CC D ad cA X p s m args meth c cc "KindRounds$Solver" nL) (hd : decode cc pc = .ok (.getfield 165, 3)) (k : ZC D ad cA p l e R s m args below meth c nL Q (pc + 3) lv (.ref (ad 10) :: st) σ) : ZC D ad cA p l e R s m args below meth c nL Q pc lv (.ref (ad 4) :: st) σ :=
  z_getN C 16 mC_225 i_Te rfl oC_4 (Nat.le_of_ble_eq_true rfl) rfl rfl hd k
set_option maxHeartbeats 4000000 in
set_option maxRecDepth 100000 in
theorem gC_So_190 {D : va_G} {ad : Nat → Nat} {cA : Nat → ClassId} {X : State → Prop} {p : Program} {l : Launch} {e : Env} {R : Room} {s : State} {m : MethodId} {args : Array Value} {below : List Frame} {meth : Method} {c : Code} {cc : ByteArray} {nL : Nat} {Q : State → Prop} {pc : Nat} {lv : List (Nat × Value)} {st : List Value} {σ : zS} (C : CC D ad cA X p s m args meth c cc "KindRounds$Solver" nL) {v : Int32} (hv : gi σ 811 = v) (hd : decode cc pc = .ok (.getfield 190, 3)) (k : ZC D ad cA p l e R s m args below meth c nL Q (pc + 3) lv (.int v :: st) σ) : ZC D ad cA p l e R s m args below meth c nL Q pc lv (.ref (ad 8) :: st) σ := by
  subst hv
  exact z_get C 11 mC_226 i_So rfl oC_8 (Nat.le_of_ble_eq_true rfl) rfl rfl hd k
set_option maxHeartbeats 4000000 in
set_option maxRecDepth 100000 in
theorem gC_So_37 {D : va_G} {ad : Nat → Nat} {cA : Nat → ClassId} {X : State → Prop} {p : Program} {l : Launch} {e : Env} {R : Room} {s : State} {m : MethodId} {args : Array Value} {below : List Frame} {meth : Method} {c : Code} {cc : ByteArray} {nL : Nat} {Q : State → Prop} {pc : Nat} {lv : List (Nat × Value)} {st : List Value} {σ : zS} (C : CC D ad cA X p s m args meth c cc "KindRounds$Solver" nL) (hd : decode cc pc = .ok (.getfield 37, 3)) (k : ZC D ad cA p l e R s m args below meth c nL Q (pc + 3) lv (.ref (ad 52) :: st) σ) : ZC D ad cA p l e R s m args below meth c nL Q pc lv (.ref (ad 8) :: st) σ :=
  z_get C 8 mC_227 i_So rfl oC_8 (Nat.le_of_ble_eq_true rfl) rfl rfl hd k
set_option maxHeartbeats 4000000 in
set_option maxRecDepth 100000 in
theorem alC_52 {D : va_G} {ad : Nat → Nat} {cA : Nat → ClassId} {X : State → Prop} {p : Program} {l : Launch} {e : Env} {R : Room} {s : State} {m : MethodId} {args : Array Value} {below : List Frame} {meth : Method} {c : Code} {cc : ByteArray} {nL : Nat} {Q : State → Prop} {pc : Nat} {lv : List (Nat × Value)} {st : List Value} {σ : zS} {own : String} (C : CC D ad cA X p s m args meth c cc own nL) {i : Int32} {v : Int32} (hv : ga σ 52 i.toNatClampNeg = v) (hin : inb i 200 = true) (hd : decode cc pc = .ok (.iaload, 1)) (k : ZC D ad cA p l e R s m args below meth c nL Q (pc + 1) lv (.int v :: st) σ) : ZC D ad cA p l e R s m args below meth c nL Q pc lv (.int i :: .ref (ad 52) :: st) σ := by
  subst hv
  exact z_iald C (t0 := 33) (q0 := 52) rfl rfl hin hd k
set_option maxHeartbeats 4000000 in
set_option maxRecDepth 100000 in
theorem asC_52 {D : va_G} {ad : Nat → Nat} {cA : Nat → ClassId} {X : State → Prop} {p : Program} {l : Launch} {e : Env} {R : Room} {s : State} {m : MethodId} {args : Array Value} {below : List Frame} {meth : Method} {c : Code} {cc : ByteArray} {nL : Nat} {Q : State → Prop} {pc : Nat} {lv : List (Nat × Value)} {st : List Value} {σ : zS} {own : String} (C : CC D ad cA X p s m args meth c cc own nL) {i : Int32} {v : Int32} (hin : inb i 200 = true) (hd : decode cc pc = .ok (.iastore, 1)) (k : ZC D ad cA p l e R s m args below meth c nL Q (pc + 1) lv st (sa σ 52 i.toNatClampNeg v)) : ZC D ad cA p l e R s m args below meth c nL Q pc lv (.int v :: .int i :: .ref (ad 52) :: st) σ :=
  z_iast C (t0 := 33) (q0 := 52) rfl rfl hin rfl hd k
set_option maxHeartbeats 4000000 in
set_option maxRecDepth 100000 in
theorem gC_So_40 {D : va_G} {ad : Nat → Nat} {cA : Nat → ClassId} {X : State → Prop} {p : Program} {l : Launch} {e : Env} {R : Room} {s : State} {m : MethodId} {args : Array Value} {below : List Frame} {meth : Method} {c : Code} {cc : ByteArray} {nL : Nat} {Q : State → Prop} {pc : Nat} {lv : List (Nat × Value)} {st : List Value} {σ : zS} (C : CC D ad cA X p s m args meth c cc "KindRounds$Solver" nL) (hd : decode cc pc = .ok (.getfield 40, 3)) (k : ZC D ad cA p l e R s m args below meth c nL Q (pc + 3) lv (.ref (ad 53) :: st) σ) : ZC D ad cA p l e R s m args below meth c nL Q pc lv (.ref (ad 8) :: st) σ :=
  z_get C 9 mC_228 i_So rfl oC_8 (Nat.le_of_ble_eq_true rfl) rfl rfl hd k
set_option maxHeartbeats 4000000 in
set_option maxRecDepth 100000 in
theorem alC_53 {D : va_G} {ad : Nat → Nat} {cA : Nat → ClassId} {X : State → Prop} {p : Program} {l : Launch} {e : Env} {R : Room} {s : State} {m : MethodId} {args : Array Value} {below : List Frame} {meth : Method} {c : Code} {cc : ByteArray} {nL : Nat} {Q : State → Prop} {pc : Nat} {lv : List (Nat × Value)} {st : List Value} {σ : zS} {own : String} (C : CC D ad cA X p s m args meth c cc own nL) {i : Int32} {v : Int32} (hv : ga σ 53 i.toNatClampNeg = v) (hin : inb i 200 = true) (hd : decode cc pc = .ok (.iaload, 1)) (k : ZC D ad cA p l e R s m args below meth c nL Q (pc + 1) lv (.int v :: st) σ) : ZC D ad cA p l e R s m args below meth c nL Q pc lv (.int i :: .ref (ad 53) :: st) σ := by
  subst hv
  exact z_iald C (t0 := 34) (q0 := 53) rfl rfl hin hd k
set_option maxHeartbeats 4000000 in
set_option maxRecDepth 100000 in
theorem asC_53 {D : va_G} {ad : Nat → Nat} {cA : Nat → ClassId} {X : State → Prop} {p : Program} {l : Launch} {e : Env} {R : Room} {s : State} {m : MethodId} {args : Array Value} {below : List Frame} {meth : Method} {c : Code} {cc : ByteArray} {nL : Nat} {Q : State → Prop} {pc : Nat} {lv : List (Nat × Value)} {st : List Value} {σ : zS} {own : String} (C : CC D ad cA X p s m args meth c cc own nL) {i : Int32} {v : Int32} (hin : inb i 200 = true) (hd : decode cc pc = .ok (.iastore, 1)) (k : ZC D ad cA p l e R s m args below meth c nL Q (pc + 1) lv st (sa σ 53 i.toNatClampNeg v)) : ZC D ad cA p l e R s m args below meth c nL Q pc lv (.int v :: .int i :: .ref (ad 53) :: st) σ :=
  z_iast C (t0 := 34) (q0 := 53) rfl rfl hin rfl hd k
set_option maxHeartbeats 4000000 in
set_option maxRecDepth 100000 in
theorem gC_So_43 {D : va_G} {ad : Nat → Nat} {cA : Nat → ClassId} {X : State → Prop} {p : Program} {l : Launch} {e : Env} {R : Room} {s : State} {m : MethodId} {args : Array Value} {below : List Frame} {meth : Method} {c : Code} {cc : ByteArray} {nL : Nat} {Q : State → Prop} {pc : Nat} {lv : List (Nat × Value)} {st : List Value} {σ : zS} (C : CC D ad cA X p s m args meth c cc "KindRounds$Solver" nL) (hd : decode cc pc = .ok (.getfield 43, 3)) (k : ZC D ad cA p l e R s m args below meth c nL Q (pc + 3) lv (.ref (ad 54) :: st) σ) : ZC D ad cA p l e R s m args below meth c nL Q pc lv (.ref (ad 8) :: st) σ :=
  z_get C 10 mC_230 i_So rfl oC_8 (Nat.le_of_ble_eq_true rfl) rfl rfl hd k
set_option maxHeartbeats 4000000 in
set_option maxRecDepth 100000 in
theorem alC_54 {D : va_G} {ad : Nat → Nat} {cA : Nat → ClassId} {X : State → Prop} {p : Program} {l : Launch} {e : Env} {R : Room} {s : State} {m : MethodId} {args : Array Value} {below : List Frame} {meth : Method} {c : Code} {cc : ByteArray} {nL : Nat} {Q : State → Prop} {pc : Nat} {lv : List (Nat × Value)} {st : List Value} {σ : zS} {own : String} (C : CC D ad cA X p s m args meth c cc own nL) {i : Int32} {v : Int32} (hv : ga σ 54 i.toNatClampNeg = v) (hin : inb i 200 = true) (hd : decode cc pc = .ok (.iaload, 1)) (k : ZC D ad cA p l e R s m args below meth c nL Q (pc + 1) lv (.int v :: st) σ) : ZC D ad cA p l e R s m args below meth c nL Q pc lv (.int i :: .ref (ad 54) :: st) σ := by
  subst hv
  exact z_iald C (t0 := 35) (q0 := 54) rfl rfl hin hd k
set_option maxHeartbeats 4000000 in
set_option maxRecDepth 100000 in
theorem asC_54 {D : va_G} {ad : Nat → Nat} {cA : Nat → ClassId} {X : State → Prop} {p : Program} {l : Launch} {e : Env} {R : Room} {s : State} {m : MethodId} {args : Array Value} {below : List Frame} {meth : Method} {c : Code} {cc : ByteArray} {nL : Nat} {Q : State → Prop} {pc : Nat} {lv : List (Nat × Value)} {st : List Value} {σ : zS} {own : String} (C : CC D ad cA X p s m args meth c cc own nL) {i : Int32} {v : Int32} (hin : inb i 200 = true) (hd : decode cc pc = .ok (.iastore, 1)) (k : ZC D ad cA p l e R s m args below meth c nL Q (pc + 1) lv st (sa σ 54 i.toNatClampNeg v)) : ZC D ad cA p l e R s m args below meth c nL Q pc lv (.int v :: .int i :: .ref (ad 54) :: st) σ :=
  z_iast C (t0 := 35) (q0 := 54) rfl rfl hin rfl hd k
set_option maxHeartbeats 4000000 in
set_option maxRecDepth 100000 in
theorem pC_So_190 {D : va_G} {ad : Nat → Nat} {cA : Nat → ClassId} {X : State → Prop} {p : Program} {l : Launch} {e : Env} {R : Room} {s : State} {m : MethodId} {args : Array Value} {below : List Frame} {meth : Method} {c : Code} {cc : ByteArray} {nL : Nat} {Q : State → Prop} {pc : Nat} {lv : List (Nat × Value)} {st : List Value} {σ : zS} (C : CC D ad cA X p s m args meth c cc "KindRounds$Solver" nL) {v : Int32} (hd : decode cc pc = .ok (.putfield 190, 3)) (k : ZC D ad cA p l e R s m args below meth c nL Q (pc + 3) lv st (si σ 811 v)) : ZC D ad cA p l e R s m args below meth c nL Q pc lv (.int v :: .ref (ad 8) :: st) σ :=
  z_put C 11 (ty := .int) mC_226 i_So t_So t_So_ok n_So rfl oC_8 (Nat.le_of_ble_eq_true rfl) rfl rfl rfl rfl rfl (Nat.le_of_ble_eq_true rfl) rfl hd k
set_option maxHeartbeats 4000000 in
set_option maxRecDepth 100000 in
theorem pC_So_187 {D : va_G} {ad : Nat → Nat} {cA : Nat → ClassId} {X : State → Prop} {p : Program} {l : Launch} {e : Env} {R : Room} {s : State} {m : MethodId} {args : Array Value} {below : List Frame} {meth : Method} {c : Code} {cc : ByteArray} {nL : Nat} {Q : State → Prop} {pc : Nat} {lv : List (Nat × Value)} {st : List Value} {σ : zS} (C : CC D ad cA X p s m args meth c cc "KindRounds$Solver" nL) {v : Int32} (hd : decode cc pc = .ok (.putfield 187, 3)) (k : ZC D ad cA p l e R s m args below meth c nL Q (pc + 3) lv st (si σ 814 v)) : ZC D ad cA p l e R s m args below meth c nL Q pc lv (.int v :: .ref (ad 8) :: st) σ :=
  z_put C 14 (ty := .int) mC_232 i_So t_So t_So_ok n_So rfl oC_8 (Nat.le_of_ble_eq_true rfl) rfl rfl rfl rfl rfl (Nat.le_of_ble_eq_true rfl) rfl hd k
set_option maxHeartbeats 4000000 in
set_option maxRecDepth 100000 in
theorem gC_So_204 {D : va_G} {ad : Nat → Nat} {cA : Nat → ClassId} {X : State → Prop} {p : Program} {l : Launch} {e : Env} {R : Room} {s : State} {m : MethodId} {args : Array Value} {below : List Frame} {meth : Method} {c : Code} {cc : ByteArray} {nL : Nat} {Q : State → Prop} {pc : Nat} {lv : List (Nat × Value)} {st : List Value} {σ : zS} (C : CC D ad cA X p s m args meth c cc "KindRounds$Solver" nL) {x : Nat} (hx : isRow x = true) (hd : decode cc pc = .ok (.getfield 204, 3)) (k : ZC D ad cA p l e R s m args below meth c nL Q (pc + 3) lv (.ref (ad (rA x 2)) :: st) σ) : ZC D ad cA p l e R s m args below meth c nL Q pc lv (.ref (ad x) :: st) σ :=
  z_getN C 2 mC_234 i_Ro rfl (oC_Ro hx) (Nat.le_of_ble_eq_true rfl) rfl rfl hd k
set_option maxHeartbeats 4000000 in
set_option maxRecDepth 100000 in
theorem pC_So_180 {D : va_G} {ad : Nat → Nat} {cA : Nat → ClassId} {X : State → Prop} {p : Program} {l : Launch} {e : Env} {R : Room} {s : State} {m : MethodId} {args : Array Value} {below : List Frame} {meth : Method} {c : Code} {cc : ByteArray} {nL : Nat} {Q : State → Prop} {pc : Nat} {lv : List (Nat × Value)} {st : List Value} {σ : zS} (C : CC D ad cA X p s m args meth c cc "KindRounds$Solver" nL) {v : Int32} (hd : decode cc pc = .ok (.putfield 180, 3)) (k : ZC D ad cA p l e R s m args below meth c nL Q (pc + 3) lv st (si σ 815 v)) : ZC D ad cA p l e R s m args below meth c nL Q pc lv (.int v :: .ref (ad 8) :: st) σ :=
  z_put C 15 (ty := .int) mC_222 i_So t_So t_So_ok n_So rfl oC_8 (Nat.le_of_ble_eq_true rfl) rfl rfl rfl rfl rfl (Nat.le_of_ble_eq_true rfl) rfl hd k
set_option maxHeartbeats 4000000 in
set_option maxRecDepth 100000 in
theorem gC_So_214 {D : va_G} {ad : Nat → Nat} {cA : Nat → ClassId} {X : State → Prop} {p : Program} {l : Launch} {e : Env} {R : Room} {s : State} {m : MethodId} {args : Array Value} {below : List Frame} {meth : Method} {c : Code} {cc : ByteArray} {nL : Nat} {Q : State → Prop} {pc : Nat} {lv : List (Nat × Value)} {st : List Value} {σ : zS} (C : CC D ad cA X p s m args meth c cc "KindRounds$Solver" nL) {x : Nat} (hx : isRow x = true) (hd : decode cc pc = .ok (.getfield 214, 3)) (k : ZC D ad cA p l e R s m args below meth c nL Q (pc + 3) lv (.ref (ad (rA x 1)) :: st) σ) : ZC D ad cA p l e R s m args below meth c nL Q pc lv (.ref (ad x) :: st) σ :=
  z_getN C 1 mC_238 i_Ro rfl (oC_Ro hx) (Nat.le_of_ble_eq_true rfl) rfl rfl hd k
set_option maxHeartbeats 4000000 in
set_option maxRecDepth 100000 in
theorem gC_So_215 {D : va_G} {ad : Nat → Nat} {cA : Nat → ClassId} {X : State → Prop} {p : Program} {l : Launch} {e : Env} {R : Room} {s : State} {m : MethodId} {args : Array Value} {below : List Frame} {meth : Method} {c : Code} {cc : ByteArray} {nL : Nat} {Q : State → Prop} {pc : Nat} {lv : List (Nat × Value)} {st : List Value} {σ : zS} (C : CC D ad cA X p s m args meth c cc "KindRounds$Solver" nL) {x : Nat} (hx : isRow x = true) (hd : decode cc pc = .ok (.getfield 215, 3)) (k : ZC D ad cA p l e R s m args below meth c nL Q (pc + 3) lv (.ref (ad (rA x 0)) :: st) σ) : ZC D ad cA p l e R s m args below meth c nL Q pc lv (.ref (ad x) :: st) σ :=
  z_getN C 0 mC_239 i_Ro rfl (oC_Ro hx) (Nat.le_of_ble_eq_true rfl) rfl rfl hd k
set_option maxHeartbeats 4000000 in
set_option maxRecDepth 100000 in
theorem gC_So_187 {D : va_G} {ad : Nat → Nat} {cA : Nat → ClassId} {X : State → Prop} {p : Program} {l : Launch} {e : Env} {R : Room} {s : State} {m : MethodId} {args : Array Value} {below : List Frame} {meth : Method} {c : Code} {cc : ByteArray} {nL : Nat} {Q : State → Prop} {pc : Nat} {lv : List (Nat × Value)} {st : List Value} {σ : zS} (C : CC D ad cA X p s m args meth c cc "KindRounds$Solver" nL) {v : Int32} (hv : gi σ 814 = v) (hd : decode cc pc = .ok (.getfield 187, 3)) (k : ZC D ad cA p l e R s m args below meth c nL Q (pc + 3) lv (.int v :: st) σ) : ZC D ad cA p l e R s m args below meth c nL Q pc lv (.ref (ad 8) :: st) σ := by
  subst hv
  exact z_get C 14 mC_232 i_So rfl oC_8 (Nat.le_of_ble_eq_true rfl) rfl rfl hd k
set_option maxHeartbeats 4000000 in
set_option maxRecDepth 100000 in
theorem gC_So_46 {D : va_G} {ad : Nat → Nat} {cA : Nat → ClassId} {X : State → Prop} {p : Program} {l : Launch} {e : Env} {R : Room} {s : State} {m : MethodId} {args : Array Value} {below : List Frame} {meth : Method} {c : Code} {cc : ByteArray} {nL : Nat} {Q : State → Prop} {pc : Nat} {lv : List (Nat × Value)} {st : List Value} {σ : zS} (C : CC D ad cA X p s m args meth c cc "KindRounds$Solver" nL) (hd : decode cc pc = .ok (.getfield 46, 3)) (k : ZC D ad cA p l e R s m args below meth c nL Q (pc + 3) lv (.ref (ad 55) :: st) σ) : ZC D ad cA p l e R s m args below meth c nL Q pc lv (.ref (ad 8) :: st) σ :=
  z_get C 12 mC_242 i_So rfl oC_8 (Nat.le_of_ble_eq_true rfl) rfl rfl hd k
set_option maxHeartbeats 4000000 in
set_option maxRecDepth 100000 in
theorem alC_55 {D : va_G} {ad : Nat → Nat} {cA : Nat → ClassId} {X : State → Prop} {p : Program} {l : Launch} {e : Env} {R : Room} {s : State} {m : MethodId} {args : Array Value} {below : List Frame} {meth : Method} {c : Code} {cc : ByteArray} {nL : Nat} {Q : State → Prop} {pc : Nat} {lv : List (Nat × Value)} {st : List Value} {σ : zS} {own : String} (C : CC D ad cA X p s m args meth c cc own nL) {i : Int32} {v : Int64} (hv : gb σ 55 i.toNatClampNeg = v) (hin : inb i 200 = true) (hd : decode cc pc = .ok (.laload, 1)) (k : ZC D ad cA p l e R s m args below meth c nL Q (pc + 1) lv (.long v :: st) σ) : ZC D ad cA p l e R s m args below meth c nL Q pc lv (.int i :: .ref (ad 55) :: st) σ := by
  subst hv
  exact z_lald C (t0 := 36) (q0 := 55) rfl rfl hin hd k
set_option maxHeartbeats 4000000 in
set_option maxRecDepth 100000 in
theorem asC_55 {D : va_G} {ad : Nat → Nat} {cA : Nat → ClassId} {X : State → Prop} {p : Program} {l : Launch} {e : Env} {R : Room} {s : State} {m : MethodId} {args : Array Value} {below : List Frame} {meth : Method} {c : Code} {cc : ByteArray} {nL : Nat} {Q : State → Prop} {pc : Nat} {lv : List (Nat × Value)} {st : List Value} {σ : zS} {own : String} (C : CC D ad cA X p s m args meth c cc own nL) {i : Int32} {v : Int64} (hin : inb i 200 = true) (hd : decode cc pc = .ok (.lastore, 1)) (k : ZC D ad cA p l e R s m args below meth c nL Q (pc + 1) lv st (sb σ 55 i.toNatClampNeg v)) : ZC D ad cA p l e R s m args below meth c nL Q pc lv (.long v :: .int i :: .ref (ad 55) :: st) σ :=
  z_last C (t0 := 36) (q0 := 55) rfl rfl hin rfl hd k
set_option maxHeartbeats 4000000 in
set_option maxRecDepth 100000 in
theorem gC_So_50 {D : va_G} {ad : Nat → Nat} {cA : Nat → ClassId} {X : State → Prop} {p : Program} {l : Launch} {e : Env} {R : Room} {s : State} {m : MethodId} {args : Array Value} {below : List Frame} {meth : Method} {c : Code} {cc : ByteArray} {nL : Nat} {Q : State → Prop} {pc : Nat} {lv : List (Nat × Value)} {st : List Value} {σ : zS} (C : CC D ad cA X p s m args meth c cc "KindRounds$Solver" nL) (hd : decode cc pc = .ok (.getfield 50, 3)) (k : ZC D ad cA p l e R s m args below meth c nL Q (pc + 3) lv (.ref (ad 56) :: st) σ) : ZC D ad cA p l e R s m args below meth c nL Q pc lv (.ref (ad 8) :: st) σ :=
  z_get C 13 mC_243 i_So rfl oC_8 (Nat.le_of_ble_eq_true rfl) rfl rfl hd k
set_option maxHeartbeats 4000000 in
set_option maxRecDepth 100000 in
theorem alC_56 {D : va_G} {ad : Nat → Nat} {cA : Nat → ClassId} {X : State → Prop} {p : Program} {l : Launch} {e : Env} {R : Room} {s : State} {m : MethodId} {args : Array Value} {below : List Frame} {meth : Method} {c : Code} {cc : ByteArray} {nL : Nat} {Q : State → Prop} {pc : Nat} {lv : List (Nat × Value)} {st : List Value} {σ : zS} {own : String} (C : CC D ad cA X p s m args meth c cc own nL) {i : Int32} {v : Int32} (hv : ga σ 56 i.toNatClampNeg = v) (hin : inb i 200 = true) (hd : decode cc pc = .ok (.iaload, 1)) (k : ZC D ad cA p l e R s m args below meth c nL Q (pc + 1) lv (.int v :: st) σ) : ZC D ad cA p l e R s m args below meth c nL Q pc lv (.int i :: .ref (ad 56) :: st) σ := by
  subst hv
  exact z_iald C (t0 := 37) (q0 := 56) rfl rfl hin hd k
set_option maxHeartbeats 4000000 in
set_option maxRecDepth 100000 in
theorem asC_56 {D : va_G} {ad : Nat → Nat} {cA : Nat → ClassId} {X : State → Prop} {p : Program} {l : Launch} {e : Env} {R : Room} {s : State} {m : MethodId} {args : Array Value} {below : List Frame} {meth : Method} {c : Code} {cc : ByteArray} {nL : Nat} {Q : State → Prop} {pc : Nat} {lv : List (Nat × Value)} {st : List Value} {σ : zS} {own : String} (C : CC D ad cA X p s m args meth c cc own nL) {i : Int32} {v : Int32} (hin : inb i 200 = true) (hd : decode cc pc = .ok (.iastore, 1)) (k : ZC D ad cA p l e R s m args below meth c nL Q (pc + 1) lv st (sa σ 56 i.toNatClampNeg v)) : ZC D ad cA p l e R s m args below meth c nL Q pc lv (.int v :: .int i :: .ref (ad 56) :: st) σ :=
  z_iast C (t0 := 37) (q0 := 56) rfl rfl hin rfl hd k
set_option maxHeartbeats 4000000 in
set_option maxRecDepth 100000 in
theorem oC_9 {ad : Nat → Nat} {cA : Nat → ClassId} {σ : zS} : (wdC ad cA σ)[9]? = some (ad 9, .inr (9, [.ref (ad 4), .ref (ad (gr σ 901)), .ref (ad (gr σ 902)), .ref (ad (gr σ 903)), .ref (ad 57), .ref (ad 58), .ref (ad 59), .int (gi σ 907), .int (gi σ 908)])) := rfl
set_option maxHeartbeats 4000000 in
set_option maxRecDepth 100000 in
theorem gC_Pl_18 {D : va_G} {ad : Nat → Nat} {cA : Nat → ClassId} {X : State → Prop} {p : Program} {l : Launch} {e : Env} {R : Room} {s : State} {m : MethodId} {args : Array Value} {below : List Frame} {meth : Method} {c : Code} {cc : ByteArray} {nL : Nat} {Q : State → Prop} {pc : Nat} {lv : List (Nat × Value)} {st : List Value} {σ : zS} (C : CC D ad cA X p s m args meth c cc "KindRounds$Plainer" nL) {v : Nat} (hv : gr σ 901 = v) (hd : decode cc pc = .ok (.getfield 18, 3)) (k : ZC D ad cA p l e R s m args below meth c nL Q (pc + 3) lv (.ref (ad v) :: st) σ) : ZC D ad cA p l e R s m args below meth c nL Q pc lv (.ref (ad 9) :: st) σ := by
  subst hv
  exact z_get C 1 mC_244 i_Pl rfl oC_9 (Nat.le_of_ble_eq_true rfl) rfl rfl hd k
set_option maxHeartbeats 4000000 in
set_option maxRecDepth 100000 in
theorem gC_Pl_56 {D : va_G} {ad : Nat → Nat} {cA : Nat → ClassId} {X : State → Prop} {p : Program} {l : Launch} {e : Env} {R : Room} {s : State} {m : MethodId} {args : Array Value} {below : List Frame} {meth : Method} {c : Code} {cc : ByteArray} {nL : Nat} {Q : State → Prop} {pc : Nat} {lv : List (Nat × Value)} {st : List Value} {σ : zS} (C : CC D ad cA X p s m args meth c cc "KindRounds$Plainer" nL) {x : Nat} (hx : isRow x = true) {v : Int32} (hv : mi σ (100 * x + 4) = v) (hd : decode cc pc = .ok (.getfield 56, 3)) (k : ZC D ad cA p l e R s m args below meth c nL Q (pc + 3) lv (.int v :: st) σ) : ZC D ad cA p l e R s m args below meth c nL Q pc lv (.ref (ad x) :: st) σ := by
  subst hv
  exact z_getN C 4 mC_245 i_Ro rfl (oC_Ro hx) (Nat.le_of_ble_eq_true rfl) rfl rfl hd k
set_option maxHeartbeats 4000000 in
set_option maxRecDepth 100000 in
theorem gC_Pl_9 {D : va_G} {ad : Nat → Nat} {cA : Nat → ClassId} {X : State → Prop} {p : Program} {l : Launch} {e : Env} {R : Room} {s : State} {m : MethodId} {args : Array Value} {below : List Frame} {meth : Method} {c : Code} {cc : ByteArray} {nL : Nat} {Q : State → Prop} {pc : Nat} {lv : List (Nat × Value)} {st : List Value} {σ : zS} (C : CC D ad cA X p s m args meth c cc "KindRounds$Plainer" nL) (hd : decode cc pc = .ok (.getfield 9, 3)) (k : ZC D ad cA p l e R s m args below meth c nL Q (pc + 3) lv (.ref (ad 4) :: st) σ) : ZC D ad cA p l e R s m args below meth c nL Q pc lv (.ref (ad 9) :: st) σ :=
  z_get C 0 mC_246 i_Pl rfl oC_9 (Nat.le_of_ble_eq_true rfl) rfl rfl hd k
set_option maxHeartbeats 4000000 in
set_option maxRecDepth 100000 in
theorem gC_Pl_60 {D : va_G} {ad : Nat → Nat} {cA : Nat → ClassId} {X : State → Prop} {p : Program} {l : Launch} {e : Env} {R : Room} {s : State} {m : MethodId} {args : Array Value} {below : List Frame} {meth : Method} {c : Code} {cc : ByteArray} {nL : Nat} {Q : State → Prop} {pc : Nat} {lv : List (Nat × Value)} {st : List Value} {σ : zS} (C : CC D ad cA X p s m args meth c cc "KindRounds$Plainer" nL) {x : Nat} (hx : isRow x = true) (hd : decode cc pc = .ok (.getfield 60, 3)) (k : ZC D ad cA p l e R s m args below meth c nL Q (pc + 3) lv (.ref (ad (rA x 0)) :: st) σ) : ZC D ad cA p l e R s m args below meth c nL Q pc lv (.ref (ad x) :: st) σ :=
  z_getN C 0 mC_247 i_Ro rfl (oC_Ro hx) (Nat.le_of_ble_eq_true rfl) rfl rfl hd k
set_option maxHeartbeats 4000000 in
set_option maxRecDepth 100000 in
theorem gC_Pl_63 {D : va_G} {ad : Nat → Nat} {cA : Nat → ClassId} {X : State → Prop} {p : Program} {l : Launch} {e : Env} {R : Room} {s : State} {m : MethodId} {args : Array Value} {below : List Frame} {meth : Method} {c : Code} {cc : ByteArray} {nL : Nat} {Q : State → Prop} {pc : Nat} {lv : List (Nat × Value)} {st : List Value} {σ : zS} (C : CC D ad cA X p s m args meth c cc "KindRounds$Plainer" nL) {x : Nat} (hx : isRow x = true) (hd : decode cc pc = .ok (.getfield 63, 3)) (k : ZC D ad cA p l e R s m args below meth c nL Q (pc + 3) lv (.ref (ad (rA x 1)) :: st) σ) : ZC D ad cA p l e R s m args below meth c nL Q pc lv (.ref (ad x) :: st) σ :=
  z_getN C 1 mC_248 i_Ro rfl (oC_Ro hx) (Nat.le_of_ble_eq_true rfl) rfl rfl hd k
set_option maxHeartbeats 4000000 in
set_option maxRecDepth 100000 in
theorem gC_Pl_41 {D : va_G} {ad : Nat → Nat} {cA : Nat → ClassId} {X : State → Prop} {p : Program} {l : Launch} {e : Env} {R : Room} {s : State} {m : MethodId} {args : Array Value} {below : List Frame} {meth : Method} {c : Code} {cc : ByteArray} {nL : Nat} {Q : State → Prop} {pc : Nat} {lv : List (Nat × Value)} {st : List Value} {σ : zS} (C : CC D ad cA X p s m args meth c cc "KindRounds$Plainer" nL) {v : Int32} (hv : gi σ 908 = v) (hd : decode cc pc = .ok (.getfield 41, 3)) (k : ZC D ad cA p l e R s m args below meth c nL Q (pc + 3) lv (.int v :: st) σ) : ZC D ad cA p l e R s m args below meth c nL Q pc lv (.ref (ad 9) :: st) σ := by
  subst hv
  exact z_get C 8 mC_251 i_Pl rfl oC_9 (Nat.le_of_ble_eq_true rfl) rfl rfl hd k
set_option maxHeartbeats 4000000 in
set_option maxRecDepth 100000 in
theorem pC_Pl_41 {D : va_G} {ad : Nat → Nat} {cA : Nat → ClassId} {X : State → Prop} {p : Program} {l : Launch} {e : Env} {R : Room} {s : State} {m : MethodId} {args : Array Value} {below : List Frame} {meth : Method} {c : Code} {cc : ByteArray} {nL : Nat} {Q : State → Prop} {pc : Nat} {lv : List (Nat × Value)} {st : List Value} {σ : zS} (C : CC D ad cA X p s m args meth c cc "KindRounds$Plainer" nL) {v : Int32} (hb : isB v = true) (hd : decode cc pc = .ok (.putfield 41, 3)) (k : ZC D ad cA p l e R s m args below meth c nL Q (pc + 3) lv st (si σ 908 v)) : ZC D ad cA p l e R s m args below meth c nL Q pc lv (.int v :: .ref (ad 9) :: st) σ :=
  z_put C 8 (ty := .boolean) mC_251 i_Pl t_Pl t_Pl_ok n_Pl rfl oC_9 (Nat.le_of_ble_eq_true rfl) rfl rfl rfl (isB_n hb) (isB_f hb) (Nat.le_of_ble_eq_true rfl) rfl hd k
set_option maxHeartbeats 4000000 in
set_option maxRecDepth 100000 in
theorem gC_Pl_45 {D : va_G} {ad : Nat → Nat} {cA : Nat → ClassId} {X : State → Prop} {p : Program} {l : Launch} {e : Env} {R : Room} {s : State} {m : MethodId} {args : Array Value} {below : List Frame} {meth : Method} {c : Code} {cc : ByteArray} {nL : Nat} {Q : State → Prop} {pc : Nat} {lv : List (Nat × Value)} {st : List Value} {σ : zS} (C : CC D ad cA X p s m args meth c cc "KindRounds$Plainer" nL) {x : Nat} (hx : isRow x = true) (hd : decode cc pc = .ok (.getfield 45, 3)) (k : ZC D ad cA p l e R s m args below meth c nL Q (pc + 3) lv (.ref (ad (rA x 4)) :: st) σ) : ZC D ad cA p l e R s m args below meth c nL Q pc lv (.ref (ad x) :: st) σ :=
  z_getN C 5 mC_253 i_Ro rfl (oC_Ro hx) (Nat.le_of_ble_eq_true rfl) rfl rfl hd k
set_option maxHeartbeats 4000000 in
set_option maxRecDepth 100000 in
theorem gC_Pl_28 {D : va_G} {ad : Nat → Nat} {cA : Nat → ClassId} {X : State → Prop} {p : Program} {l : Launch} {e : Env} {R : Room} {s : State} {m : MethodId} {args : Array Value} {below : List Frame} {meth : Method} {c : Code} {cc : ByteArray} {nL : Nat} {Q : State → Prop} {pc : Nat} {lv : List (Nat × Value)} {st : List Value} {σ : zS} (C : CC D ad cA X p s m args meth c cc "KindRounds$Plainer" nL) (hd : decode cc pc = .ok (.getfield 28, 3)) (k : ZC D ad cA p l e R s m args below meth c nL Q (pc + 3) lv (.ref (ad 57) :: st) σ) : ZC D ad cA p l e R s m args below meth c nL Q pc lv (.ref (ad 9) :: st) σ :=
  z_get C 4 mC_256 i_Pl rfl oC_9 (Nat.le_of_ble_eq_true rfl) rfl rfl hd k
set_option maxHeartbeats 4000000 in
set_option maxRecDepth 100000 in
theorem alC_57 {D : va_G} {ad : Nat → Nat} {cA : Nat → ClassId} {X : State → Prop} {p : Program} {l : Launch} {e : Env} {R : Room} {s : State} {m : MethodId} {args : Array Value} {below : List Frame} {meth : Method} {c : Code} {cc : ByteArray} {nL : Nat} {Q : State → Prop} {pc : Nat} {lv : List (Nat × Value)} {st : List Value} {σ : zS} {own : String} (C : CC D ad cA X p s m args meth c cc own nL) {i : Int32} {v : Int32} (hv : ga σ 57 i.toNatClampNeg = v) (hin : inb i 4 = true) (hd : decode cc pc = .ok (.iaload, 1)) (k : ZC D ad cA p l e R s m args below meth c nL Q (pc + 1) lv (.int v :: st) σ) : ZC D ad cA p l e R s m args below meth c nL Q pc lv (.int i :: .ref (ad 57) :: st) σ := by
  subst hv
  exact z_iald C (t0 := 38) (q0 := 57) rfl rfl hin hd k
set_option maxHeartbeats 4000000 in
set_option maxRecDepth 100000 in
theorem asC_57 {D : va_G} {ad : Nat → Nat} {cA : Nat → ClassId} {X : State → Prop} {p : Program} {l : Launch} {e : Env} {R : Room} {s : State} {m : MethodId} {args : Array Value} {below : List Frame} {meth : Method} {c : Code} {cc : ByteArray} {nL : Nat} {Q : State → Prop} {pc : Nat} {lv : List (Nat × Value)} {st : List Value} {σ : zS} {own : String} (C : CC D ad cA X p s m args meth c cc own nL) {i : Int32} {v : Int32} (hin : inb i 4 = true) (hd : decode cc pc = .ok (.iastore, 1)) (k : ZC D ad cA p l e R s m args below meth c nL Q (pc + 1) lv st (sa σ 57 i.toNatClampNeg v)) : ZC D ad cA p l e R s m args below meth c nL Q pc lv (.int v :: .int i :: .ref (ad 57) :: st) σ :=
  z_iast C (t0 := 38) (q0 := 57) rfl rfl hin rfl hd k
set_option maxHeartbeats 4000000 in
set_option maxRecDepth 100000 in
theorem gC_Pl_22 {D : va_G} {ad : Nat → Nat} {cA : Nat → ClassId} {X : State → Prop} {p : Program} {l : Launch} {e : Env} {R : Room} {s : State} {m : MethodId} {args : Array Value} {below : List Frame} {meth : Method} {c : Code} {cc : ByteArray} {nL : Nat} {Q : State → Prop} {pc : Nat} {lv : List (Nat × Value)} {st : List Value} {σ : zS} (C : CC D ad cA X p s m args meth c cc "KindRounds$Plainer" nL) {v : Nat} (hv : gr σ 902 = v) (hd : decode cc pc = .ok (.getfield 22, 3)) (k : ZC D ad cA p l e R s m args below meth c nL Q (pc + 3) lv (.ref (ad v) :: st) σ) : ZC D ad cA p l e R s m args below meth c nL Q pc lv (.ref (ad 9) :: st) σ := by
  subst hv
  exact z_get C 2 mC_257 i_Pl rfl oC_9 (Nat.le_of_ble_eq_true rfl) rfl rfl hd k
set_option maxHeartbeats 4000000 in
set_option maxRecDepth 100000 in
theorem pC_Pl_18 {D : va_G} {ad : Nat → Nat} {cA : Nat → ClassId} {X : State → Prop} {p : Program} {l : Launch} {e : Env} {R : Room} {s : State} {m : MethodId} {args : Array Value} {below : List Frame} {meth : Method} {c : Code} {cc : ByteArray} {nL : Nat} {Q : State → Prop} {pc : Nat} {lv : List (Nat × Value)} {st : List Value} {σ : zS} (C : CC D ad cA X p s m args meth c cc "KindRounds$Plainer" nL) {v : Nat} (hd : decode cc pc = .ok (.putfield 18, 3)) (k : ZC D ad cA p l e R s m args below meth c nL Q (pc + 3) lv st (sr σ 901 v)) : ZC D ad cA p l e R s m args below meth c nL Q pc lv (.ref (ad v) :: .ref (ad 9) :: st) σ :=
  z_put C 1 (ty := .object "KindRounds$Row") mC_244 i_Pl t_Pl t_Pl_ok n_Pl rfl oC_9 (Nat.le_of_ble_eq_true rfl) rfl rfl rfl rfl rfl (Nat.le_of_ble_eq_true rfl) rfl hd k
set_option maxHeartbeats 4000000 in
set_option maxRecDepth 100000 in
theorem pC_Pl_22 {D : va_G} {ad : Nat → Nat} {cA : Nat → ClassId} {X : State → Prop} {p : Program} {l : Launch} {e : Env} {R : Room} {s : State} {m : MethodId} {args : Array Value} {below : List Frame} {meth : Method} {c : Code} {cc : ByteArray} {nL : Nat} {Q : State → Prop} {pc : Nat} {lv : List (Nat × Value)} {st : List Value} {σ : zS} (C : CC D ad cA X p s m args meth c cc "KindRounds$Plainer" nL) {v : Nat} (hd : decode cc pc = .ok (.putfield 22, 3)) (k : ZC D ad cA p l e R s m args below meth c nL Q (pc + 3) lv st (sr σ 902 v)) : ZC D ad cA p l e R s m args below meth c nL Q pc lv (.ref (ad v) :: .ref (ad 9) :: st) σ :=
  z_put C 2 (ty := .object "KindRounds$Row") mC_257 i_Pl t_Pl t_Pl_ok n_Pl rfl oC_9 (Nat.le_of_ble_eq_true rfl) rfl rfl rfl rfl rfl (Nat.le_of_ble_eq_true rfl) rfl hd k
set_option maxHeartbeats 4000000 in
set_option maxRecDepth 100000 in
theorem gC_Pl_87 {D : va_G} {ad : Nat → Nat} {cA : Nat → ClassId} {X : State → Prop} {p : Program} {l : Launch} {e : Env} {R : Room} {s : State} {m : MethodId} {args : Array Value} {below : List Frame} {meth : Method} {c : Code} {cc : ByteArray} {nL : Nat} {Q : State → Prop} {pc : Nat} {lv : List (Nat × Value)} {st : List Value} {σ : zS} (C : CC D ad cA X p s m args meth c cc "KindRounds$Plainer" nL) {x : Nat} (hx : isRow x = true) (hd : decode cc pc = .ok (.getfield 87, 3)) (k : ZC D ad cA p l e R s m args below meth c nL Q (pc + 3) lv (.ref (ad (rA x 2)) :: st) σ) : ZC D ad cA p l e R s m args below meth c nL Q pc lv (.ref (ad x) :: st) σ :=
  z_getN C 2 mC_259 i_Ro rfl (oC_Ro hx) (Nat.le_of_ble_eq_true rfl) rfl rfl hd k
set_option maxHeartbeats 4000000 in
set_option maxRecDepth 100000 in
theorem gC_Pl_77 {D : va_G} {ad : Nat → Nat} {cA : Nat → ClassId} {X : State → Prop} {p : Program} {l : Launch} {e : Env} {R : Room} {s : State} {m : MethodId} {args : Array Value} {below : List Frame} {meth : Method} {c : Code} {cc : ByteArray} {nL : Nat} {Q : State → Prop} {pc : Nat} {lv : List (Nat × Value)} {st : List Value} {σ : zS} (C : CC D ad cA X p s m args meth c cc "KindRounds$Plainer" nL) (hd : decode cc pc = .ok (.getfield 77, 3)) (k : ZC D ad cA p l e R s m args below meth c nL Q (pc + 3) lv (.ref (ad 32) :: st) σ) : ZC D ad cA p l e R s m args below meth c nL Q pc lv (.ref (ad 4) :: st) σ :=
  z_getN C 4 mC_261 i_Te rfl oC_4 (Nat.le_of_ble_eq_true rfl) rfl rfl hd k
set_option maxHeartbeats 4000000 in
set_option maxRecDepth 100000 in
theorem gC_Pl_90 {D : va_G} {ad : Nat → Nat} {cA : Nat → ClassId} {X : State → Prop} {p : Program} {l : Launch} {e : Env} {R : Room} {s : State} {m : MethodId} {args : Array Value} {below : List Frame} {meth : Method} {c : Code} {cc : ByteArray} {nL : Nat} {Q : State → Prop} {pc : Nat} {lv : List (Nat × Value)} {st : List Value} {σ : zS} (C : CC D ad cA X p s m args meth c cc "KindRounds$Plainer" nL) (hd : decode cc pc = .ok (.getfield 90, 3)) (k : ZC D ad cA p l e R s m args below meth c nL Q (pc + 3) lv (.ref (ad 10) :: st) σ) : ZC D ad cA p l e R s m args below meth c nL Q pc lv (.ref (ad 4) :: st) σ :=
  z_getN C 16 mC_263 i_Te rfl oC_4 (Nat.le_of_ble_eq_true rfl) rfl rfl hd k
set_option maxHeartbeats 4000000 in
set_option maxRecDepth 100000 in
theorem gC_Pl_25 {D : va_G} {ad : Nat → Nat} {cA : Nat → ClassId} {X : State → Prop} {p : Program} {l : Launch} {e : Env} {R : Room} {s : State} {m : MethodId} {args : Array Value} {below : List Frame} {meth : Method} {c : Code} {cc : ByteArray} {nL : Nat} {Q : State → Prop} {pc : Nat} {lv : List (Nat × Value)} {st : List Value} {σ : zS} (C : CC D ad cA X p s m args meth c cc "KindRounds$Plainer" nL) {v : Nat} (hv : gr σ 903 = v) (hd : decode cc pc = .ok (.getfield 25, 3)) (k : ZC D ad cA p l e R s m args below meth c nL Q (pc + 3) lv (.ref (ad v) :: st) σ) : ZC D ad cA p l e R s m args below meth c nL Q pc lv (.ref (ad 9) :: st) σ := by
  subst hv
  exact z_get C 3 mC_266 i_Pl rfl oC_9 (Nat.le_of_ble_eq_true rfl) rfl rfl hd k
set_option maxHeartbeats 4000000 in
set_option maxRecDepth 100000 in
theorem pC_Pl_25 {D : va_G} {ad : Nat → Nat} {cA : Nat → ClassId} {X : State → Prop} {p : Program} {l : Launch} {e : Env} {R : Room} {s : State} {m : MethodId} {args : Array Value} {below : List Frame} {meth : Method} {c : Code} {cc : ByteArray} {nL : Nat} {Q : State → Prop} {pc : Nat} {lv : List (Nat × Value)} {st : List Value} {σ : zS} (C : CC D ad cA X p s m args meth c cc "KindRounds$Plainer" nL) {v : Nat} (hd : decode cc pc = .ok (.putfield 25, 3)) (k : ZC D ad cA p l e R s m args below meth c nL Q (pc + 3) lv st (sr σ 903 v)) : ZC D ad cA p l e R s m args below meth c nL Q pc lv (.ref (ad v) :: .ref (ad 9) :: st) σ :=
  z_put C 3 (ty := .object "KindRounds$Row") mC_266 i_Pl t_Pl t_Pl_ok n_Pl rfl oC_9 (Nat.le_of_ble_eq_true rfl) rfl rfl rfl rfl rfl (Nat.le_of_ble_eq_true rfl) rfl hd k
set_option maxHeartbeats 4000000 in
set_option maxRecDepth 100000 in
theorem gC_Pl_110 {D : va_G} {ad : Nat → Nat} {cA : Nat → ClassId} {X : State → Prop} {p : Program} {l : Launch} {e : Env} {R : Room} {s : State} {m : MethodId} {args : Array Value} {below : List Frame} {meth : Method} {c : Code} {cc : ByteArray} {nL : Nat} {Q : State → Prop} {pc : Nat} {lv : List (Nat × Value)} {st : List Value} {σ : zS} (C : CC D ad cA X p s m args meth c cc "KindRounds$Plainer" nL) {v : Int32} (hv : gi σ 907 = v) (hd : decode cc pc = .ok (.getfield 110, 3)) (k : ZC D ad cA p l e R s m args below meth c nL Q (pc + 3) lv (.int v :: st) σ) : ZC D ad cA p l e R s m args below meth c nL Q pc lv (.ref (ad 9) :: st) σ := by
  subst hv
  exact z_get C 7 mC_268 i_Pl rfl oC_9 (Nat.le_of_ble_eq_true rfl) rfl rfl hd k
set_option maxHeartbeats 4000000 in
set_option maxRecDepth 100000 in
theorem gC_Pl_32 {D : va_G} {ad : Nat → Nat} {cA : Nat → ClassId} {X : State → Prop} {p : Program} {l : Launch} {e : Env} {R : Room} {s : State} {m : MethodId} {args : Array Value} {below : List Frame} {meth : Method} {c : Code} {cc : ByteArray} {nL : Nat} {Q : State → Prop} {pc : Nat} {lv : List (Nat × Value)} {st : List Value} {σ : zS} (C : CC D ad cA X p s m args meth c cc "KindRounds$Plainer" nL) (hd : decode cc pc = .ok (.getfield 32, 3)) (k : ZC D ad cA p l e R s m args below meth c nL Q (pc + 3) lv (.ref (ad 58) :: st) σ) : ZC D ad cA p l e R s m args below meth c nL Q pc lv (.ref (ad 9) :: st) σ :=
  z_get C 5 mC_270 i_Pl rfl oC_9 (Nat.le_of_ble_eq_true rfl) rfl rfl hd k
set_option maxHeartbeats 4000000 in
set_option maxRecDepth 100000 in
theorem alC_58 {D : va_G} {ad : Nat → Nat} {cA : Nat → ClassId} {X : State → Prop} {p : Program} {l : Launch} {e : Env} {R : Room} {s : State} {m : MethodId} {args : Array Value} {below : List Frame} {meth : Method} {c : Code} {cc : ByteArray} {nL : Nat} {Q : State → Prop} {pc : Nat} {lv : List (Nat × Value)} {st : List Value} {σ : zS} {own : String} (C : CC D ad cA X p s m args meth c cc own nL) {i : Int32} {v : Int32} (hv : ga σ 58 i.toNatClampNeg = v) (hin : inb i 200 = true) (hd : decode cc pc = .ok (.iaload, 1)) (k : ZC D ad cA p l e R s m args below meth c nL Q (pc + 1) lv (.int v :: st) σ) : ZC D ad cA p l e R s m args below meth c nL Q pc lv (.int i :: .ref (ad 58) :: st) σ := by
  subst hv
  exact z_iald C (t0 := 39) (q0 := 58) rfl rfl hin hd k
set_option maxHeartbeats 4000000 in
set_option maxRecDepth 100000 in
theorem asC_58 {D : va_G} {ad : Nat → Nat} {cA : Nat → ClassId} {X : State → Prop} {p : Program} {l : Launch} {e : Env} {R : Room} {s : State} {m : MethodId} {args : Array Value} {below : List Frame} {meth : Method} {c : Code} {cc : ByteArray} {nL : Nat} {Q : State → Prop} {pc : Nat} {lv : List (Nat × Value)} {st : List Value} {σ : zS} {own : String} (C : CC D ad cA X p s m args meth c cc own nL) {i : Int32} {v : Int32} (hin : inb i 200 = true) (hd : decode cc pc = .ok (.iastore, 1)) (k : ZC D ad cA p l e R s m args below meth c nL Q (pc + 1) lv st (sa σ 58 i.toNatClampNeg v)) : ZC D ad cA p l e R s m args below meth c nL Q pc lv (.int v :: .int i :: .ref (ad 58) :: st) σ :=
  z_iast C (t0 := 39) (q0 := 58) rfl rfl hin rfl hd k
set_option maxHeartbeats 4000000 in
set_option maxRecDepth 100000 in
theorem gC_Pl_35 {D : va_G} {ad : Nat → Nat} {cA : Nat → ClassId} {X : State → Prop} {p : Program} {l : Launch} {e : Env} {R : Room} {s : State} {m : MethodId} {args : Array Value} {below : List Frame} {meth : Method} {c : Code} {cc : ByteArray} {nL : Nat} {Q : State → Prop} {pc : Nat} {lv : List (Nat × Value)} {st : List Value} {σ : zS} (C : CC D ad cA X p s m args meth c cc "KindRounds$Plainer" nL) (hd : decode cc pc = .ok (.getfield 35, 3)) (k : ZC D ad cA p l e R s m args below meth c nL Q (pc + 3) lv (.ref (ad 59) :: st) σ) : ZC D ad cA p l e R s m args below meth c nL Q pc lv (.ref (ad 9) :: st) σ :=
  z_get C 6 mC_271 i_Pl rfl oC_9 (Nat.le_of_ble_eq_true rfl) rfl rfl hd k
set_option maxHeartbeats 4000000 in
set_option maxRecDepth 100000 in
theorem alC_59 {D : va_G} {ad : Nat → Nat} {cA : Nat → ClassId} {X : State → Prop} {p : Program} {l : Launch} {e : Env} {R : Room} {s : State} {m : MethodId} {args : Array Value} {below : List Frame} {meth : Method} {c : Code} {cc : ByteArray} {nL : Nat} {Q : State → Prop} {pc : Nat} {lv : List (Nat × Value)} {st : List Value} {σ : zS} {own : String} (C : CC D ad cA X p s m args meth c cc own nL) {i : Int32} {v : Int32} (hv : ga σ 59 i.toNatClampNeg = v) (hin : inb i 200 = true) (hd : decode cc pc = .ok (.iaload, 1)) (k : ZC D ad cA p l e R s m args below meth c nL Q (pc + 1) lv (.int v :: st) σ) : ZC D ad cA p l e R s m args below meth c nL Q pc lv (.int i :: .ref (ad 59) :: st) σ := by
  subst hv
  exact z_iald C (t0 := 40) (q0 := 59) rfl rfl hin hd k
set_option maxHeartbeats 4000000 in
set_option maxRecDepth 100000 in
theorem asC_59 {D : va_G} {ad : Nat → Nat} {cA : Nat → ClassId} {X : State → Prop} {p : Program} {l : Launch} {e : Env} {R : Room} {s : State} {m : MethodId} {args : Array Value} {below : List Frame} {meth : Method} {c : Code} {cc : ByteArray} {nL : Nat} {Q : State → Prop} {pc : Nat} {lv : List (Nat × Value)} {st : List Value} {σ : zS} {own : String} (C : CC D ad cA X p s m args meth c cc own nL) {i : Int32} {v : Int32} (hin : inb i 200 = true) (hd : decode cc pc = .ok (.iastore, 1)) (k : ZC D ad cA p l e R s m args below meth c nL Q (pc + 1) lv st (sa σ 59 i.toNatClampNeg v)) : ZC D ad cA p l e R s m args below meth c nL Q pc lv (.int v :: .int i :: .ref (ad 59) :: st) σ :=
  z_iast C (t0 := 40) (q0 := 59) rfl rfl hin rfl hd k
set_option maxHeartbeats 4000000 in
set_option maxRecDepth 100000 in
theorem pC_Pl_110 {D : va_G} {ad : Nat → Nat} {cA : Nat → ClassId} {X : State → Prop} {p : Program} {l : Launch} {e : Env} {R : Room} {s : State} {m : MethodId} {args : Array Value} {below : List Frame} {meth : Method} {c : Code} {cc : ByteArray} {nL : Nat} {Q : State → Prop} {pc : Nat} {lv : List (Nat × Value)} {st : List Value} {σ : zS} (C : CC D ad cA X p s m args meth c cc "KindRounds$Plainer" nL) {v : Int32} (hd : decode cc pc = .ok (.putfield 110, 3)) (k : ZC D ad cA p l e R s m args below meth c nL Q (pc + 3) lv st (si σ 907 v)) : ZC D ad cA p l e R s m args below meth c nL Q pc lv (.int v :: .ref (ad 9) :: st) σ :=
  z_put C 7 (ty := .int) mC_268 i_Pl t_Pl t_Pl_ok n_Pl rfl oC_9 (Nat.le_of_ble_eq_true rfl) rfl rfl rfl rfl rfl (Nat.le_of_ble_eq_true rfl) rfl hd k
set_option maxHeartbeats 4000000 in
set_option maxRecDepth 100000 in
theorem oC_0 {ad : Nat → Nat} {cA : Nat → ClassId} {σ : zS} : (wdC ad cA σ)[0]? = some (ad 0, .inr (0, [.ref (ad 1), .ref (ad 2), .ref (ad 3), .ref (ad 4), .ref (ad 5), .ref (ad 11), .ref (ad 6), .ref (ad 7), .ref (ad 8), .ref (ad 9), .ref (ad (gr σ 10)), .ref (ad (gr σ 11))])) := rfl
set_option maxHeartbeats 4000000 in
set_option maxRecDepth 100000 in
theorem gC_Q_10 {D : va_G} {ad : Nat → Nat} {cA : Nat → ClassId} {X : State → Prop} {p : Program} {l : Launch} {e : Env} {R : Room} {s : State} {m : MethodId} {args : Array Value} {below : List Frame} {meth : Method} {c : Code} {cc : ByteArray} {nL : Nat} {Q : State → Prop} {pc : Nat} {lv : List (Nat × Value)} {st : List Value} {σ : zS} (C : CC D ad cA X p s m args meth c cc "KindRounds" nL) (hd : decode cc pc = .ok (.getfield 10, 3)) (k : ZC D ad cA p l e R s m args below meth c nL Q (pc + 3) lv (.ref (ad 1) :: st) σ) : ZC D ad cA p l e R s m args below meth c nL Q pc lv (.ref (ad 0) :: st) σ :=
  z_get C 0 mC_279 i_Q rfl oC_0 (Nat.le_of_ble_eq_true rfl) rfl rfl hd k
set_option maxHeartbeats 4000000 in
set_option maxRecDepth 100000 in
theorem gC_Q_105 {D : va_G} {ad : Nat → Nat} {cA : Nat → ClassId} {X : State → Prop} {p : Program} {l : Launch} {e : Env} {R : Room} {s : State} {m : MethodId} {args : Array Value} {below : List Frame} {meth : Method} {c : Code} {cc : ByteArray} {nL : Nat} {Q : State → Prop} {pc : Nat} {lv : List (Nat × Value)} {st : List Value} {σ : zS} (C : CC D ad cA X p s m args meth c cc "KindRounds" nL) {v : Int32} (hv : gi σ 101 = v) (hd : decode cc pc = .ok (.getfield 105, 3)) (k : ZC D ad cA p l e R s m args below meth c nL Q (pc + 3) lv (.int v :: st) σ) : ZC D ad cA p l e R s m args below meth c nL Q pc lv (.ref (ad 1) :: st) σ := by
  subst hv
  exact z_getN C 1 mC_282 i_Ta rfl oC_1 (Nat.le_of_ble_eq_true rfl) rfl rfl hd k
set_option maxHeartbeats 4000000 in
set_option maxRecDepth 100000 in
theorem pC_Q_105 {D : va_G} {ad : Nat → Nat} {cA : Nat → ClassId} {X : State → Prop} {p : Program} {l : Launch} {e : Env} {R : Room} {s : State} {m : MethodId} {args : Array Value} {below : List Frame} {meth : Method} {c : Code} {cc : ByteArray} {nL : Nat} {Q : State → Prop} {pc : Nat} {lv : List (Nat × Value)} {st : List Value} {σ : zS} (C : CC D ad cA X p s m args meth c cc "KindRounds" nL) {v : Int32} (hd : decode cc pc = .ok (.putfield 105, 3)) (k : ZC D ad cA p l e R s m args below meth c nL Q (pc + 3) lv st (si σ 101 v)) : ZC D ad cA p l e R s m args below meth c nL Q pc lv (.int v :: .ref (ad 1) :: st) σ :=
  z_putN C 1 (ty := .int) mC_282 i_Ta t_Ta t_Ta_ok n_Ta rfl oC_1 (Nat.le_of_ble_eq_true rfl) rfl rfl rfl rfl rfl (Nat.le_of_ble_eq_true rfl) rfl hd k
set_option maxHeartbeats 4000000 in
set_option maxRecDepth 100000 in
theorem gC_Q_19 {D : va_G} {ad : Nat → Nat} {cA : Nat → ClassId} {X : State → Prop} {p : Program} {l : Launch} {e : Env} {R : Room} {s : State} {m : MethodId} {args : Array Value} {below : List Frame} {meth : Method} {c : Code} {cc : ByteArray} {nL : Nat} {Q : State → Prop} {pc : Nat} {lv : List (Nat × Value)} {st : List Value} {σ : zS} (C : CC D ad cA X p s m args meth c cc "KindRounds" nL) (hd : decode cc pc = .ok (.getfield 19, 3)) (k : ZC D ad cA p l e R s m args below meth c nL Q (pc + 3) lv (.ref (ad 2) :: st) σ) : ZC D ad cA p l e R s m args below meth c nL Q pc lv (.ref (ad 0) :: st) σ :=
  z_get C 1 mC_283 i_Q rfl oC_0 (Nat.le_of_ble_eq_true rfl) rfl rfl hd k
set_option maxHeartbeats 4000000 in
set_option maxRecDepth 100000 in
theorem gC_Q_33 {D : va_G} {ad : Nat → Nat} {cA : Nat → ClassId} {X : State → Prop} {p : Program} {l : Launch} {e : Env} {R : Room} {s : State} {m : MethodId} {args : Array Value} {below : List Frame} {meth : Method} {c : Code} {cc : ByteArray} {nL : Nat} {Q : State → Prop} {pc : Nat} {lv : List (Nat × Value)} {st : List Value} {σ : zS} (C : CC D ad cA X p s m args meth c cc "KindRounds" nL) (hd : decode cc pc = .ok (.getfield 33, 3)) (k : ZC D ad cA p l e R s m args below meth c nL Q (pc + 3) lv (.ref (ad 4) :: st) σ) : ZC D ad cA p l e R s m args below meth c nL Q pc lv (.ref (ad 0) :: st) σ :=
  z_get C 3 mC_285 i_Q rfl oC_0 (Nat.le_of_ble_eq_true rfl) rfl rfl hd k
set_option maxHeartbeats 4000000 in
set_option maxRecDepth 100000 in
theorem gC_Q_136 {D : va_G} {ad : Nat → Nat} {cA : Nat → ClassId} {X : State → Prop} {p : Program} {l : Launch} {e : Env} {R : Room} {s : State} {m : MethodId} {args : Array Value} {below : List Frame} {meth : Method} {c : Code} {cc : ByteArray} {nL : Nat} {Q : State → Prop} {pc : Nat} {lv : List (Nat × Value)} {st : List Value} {σ : zS} (C : CC D ad cA X p s m args meth c cc "KindRounds" nL) {v : Int32} (hv : gi σ 400 = v) (hd : decode cc pc = .ok (.getfield 136, 3)) (k : ZC D ad cA p l e R s m args below meth c nL Q (pc + 3) lv (.int v :: st) σ) : ZC D ad cA p l e R s m args below meth c nL Q pc lv (.ref (ad 4) :: st) σ := by
  subst hv
  exact z_getN C 0 mC_286 i_Te rfl oC_4 (Nat.le_of_ble_eq_true rfl) rfl rfl hd k
set_option maxHeartbeats 4000000 in
set_option maxRecDepth 100000 in
theorem gC_Q_133 {D : va_G} {ad : Nat → Nat} {cA : Nat → ClassId} {X : State → Prop} {p : Program} {l : Launch} {e : Env} {R : Room} {s : State} {m : MethodId} {args : Array Value} {below : List Frame} {meth : Method} {c : Code} {cc : ByteArray} {nL : Nat} {Q : State → Prop} {pc : Nat} {lv : List (Nat × Value)} {st : List Value} {σ : zS} (C : CC D ad cA X p s m args meth c cc "KindRounds" nL) {v : Int32} (hv : gi σ 200 = v) (hd : decode cc pc = .ok (.getfield 133, 3)) (k : ZC D ad cA p l e R s m args below meth c nL Q (pc + 3) lv (.int v :: st) σ) : ZC D ad cA p l e R s m args below meth c nL Q pc lv (.ref (ad 2) :: st) σ := by
  subst hv
  exact z_getN C 0 mC_288 i_Fa rfl oC_2 (Nat.le_of_ble_eq_true rfl) rfl rfl hd k
set_option maxHeartbeats 4000000 in
set_option maxRecDepth 100000 in
theorem gC_Q_40 {D : va_G} {ad : Nat → Nat} {cA : Nat → ClassId} {X : State → Prop} {p : Program} {l : Launch} {e : Env} {R : Room} {s : State} {m : MethodId} {args : Array Value} {below : List Frame} {meth : Method} {c : Code} {cc : ByteArray} {nL : Nat} {Q : State → Prop} {pc : Nat} {lv : List (Nat × Value)} {st : List Value} {σ : zS} (C : CC D ad cA X p s m args meth c cc "KindRounds" nL) (hd : decode cc pc = .ok (.getfield 40, 3)) (k : ZC D ad cA p l e R s m args below meth c nL Q (pc + 3) lv (.ref (ad 5) :: st) σ) : ZC D ad cA p l e R s m args below meth c nL Q pc lv (.ref (ad 0) :: st) σ :=
  z_get C 4 mC_290 i_Q rfl oC_0 (Nat.le_of_ble_eq_true rfl) rfl rfl hd k
set_option maxHeartbeats 4000000 in
set_option maxRecDepth 100000 in
theorem gC_Q_26 {D : va_G} {ad : Nat → Nat} {cA : Nat → ClassId} {X : State → Prop} {p : Program} {l : Launch} {e : Env} {R : Room} {s : State} {m : MethodId} {args : Array Value} {below : List Frame} {meth : Method} {c : Code} {cc : ByteArray} {nL : Nat} {Q : State → Prop} {pc : Nat} {lv : List (Nat × Value)} {st : List Value} {σ : zS} (C : CC D ad cA X p s m args meth c cc "KindRounds" nL) (hd : decode cc pc = .ok (.getfield 26, 3)) (k : ZC D ad cA p l e R s m args below meth c nL Q (pc + 3) lv (.ref (ad 3) :: st) σ) : ZC D ad cA p l e R s m args below meth c nL Q pc lv (.ref (ad 0) :: st) σ :=
  z_get C 2 mC_292 i_Q rfl oC_0 (Nat.le_of_ble_eq_true rfl) rfl rfl hd k
set_option maxHeartbeats 4000000 in
set_option maxRecDepth 100000 in
theorem gC_Q_56 {D : va_G} {ad : Nat → Nat} {cA : Nat → ClassId} {X : State → Prop} {p : Program} {l : Launch} {e : Env} {R : Room} {s : State} {m : MethodId} {args : Array Value} {below : List Frame} {meth : Method} {c : Code} {cc : ByteArray} {nL : Nat} {Q : State → Prop} {pc : Nat} {lv : List (Nat × Value)} {st : List Value} {σ : zS} (C : CC D ad cA X p s m args meth c cc "KindRounds" nL) (hd : decode cc pc = .ok (.getfield 56, 3)) (k : ZC D ad cA p l e R s m args below meth c nL Q (pc + 3) lv (.ref (ad 6) :: st) σ) : ZC D ad cA p l e R s m args below meth c nL Q pc lv (.ref (ad 0) :: st) σ :=
  z_get C 6 mC_295 i_Q rfl oC_0 (Nat.le_of_ble_eq_true rfl) rfl rfl hd k
set_option maxHeartbeats 4000000 in
set_option maxRecDepth 100000 in
theorem gC_Q_65 {D : va_G} {ad : Nat → Nat} {cA : Nat → ClassId} {X : State → Prop} {p : Program} {l : Launch} {e : Env} {R : Room} {s : State} {m : MethodId} {args : Array Value} {below : List Frame} {meth : Method} {c : Code} {cc : ByteArray} {nL : Nat} {Q : State → Prop} {pc : Nat} {lv : List (Nat × Value)} {st : List Value} {σ : zS} (C : CC D ad cA X p s m args meth c cc "KindRounds" nL) (hd : decode cc pc = .ok (.getfield 65, 3)) (k : ZC D ad cA p l e R s m args below meth c nL Q (pc + 3) lv (.ref (ad 7) :: st) σ) : ZC D ad cA p l e R s m args below meth c nL Q pc lv (.ref (ad 0) :: st) σ :=
  z_get C 7 mC_297 i_Q rfl oC_0 (Nat.le_of_ble_eq_true rfl) rfl rfl hd k
set_option maxHeartbeats 4000000 in
set_option maxRecDepth 100000 in
theorem gC_Q_74 {D : va_G} {ad : Nat → Nat} {cA : Nat → ClassId} {X : State → Prop} {p : Program} {l : Launch} {e : Env} {R : Room} {s : State} {m : MethodId} {args : Array Value} {below : List Frame} {meth : Method} {c : Code} {cc : ByteArray} {nL : Nat} {Q : State → Prop} {pc : Nat} {lv : List (Nat × Value)} {st : List Value} {σ : zS} (C : CC D ad cA X p s m args meth c cc "KindRounds" nL) (hd : decode cc pc = .ok (.getfield 74, 3)) (k : ZC D ad cA p l e R s m args below meth c nL Q (pc + 3) lv (.ref (ad 8) :: st) σ) : ZC D ad cA p l e R s m args below meth c nL Q pc lv (.ref (ad 0) :: st) σ :=
  z_get C 8 mC_300 i_Q rfl oC_0 (Nat.le_of_ble_eq_true rfl) rfl rfl hd k
set_option maxHeartbeats 4000000 in
set_option maxRecDepth 100000 in
theorem gC_Q_139 {D : va_G} {ad : Nat → Nat} {cA : Nat → ClassId} {X : State → Prop} {p : Program} {l : Launch} {e : Env} {R : Room} {s : State} {m : MethodId} {args : Array Value} {below : List Frame} {meth : Method} {c : Code} {cc : ByteArray} {nL : Nat} {Q : State → Prop} {pc : Nat} {lv : List (Nat × Value)} {st : List Value} {σ : zS} (C : CC D ad cA X p s m args meth c cc "KindRounds" nL) {v : Int32} (hv : gi σ 201 = v) (hd : decode cc pc = .ok (.getfield 139, 3)) (k : ZC D ad cA p l e R s m args below meth c nL Q (pc + 3) lv (.int v :: st) σ) : ZC D ad cA p l e R s m args below meth c nL Q pc lv (.ref (ad 2) :: st) σ := by
  subst hv
  exact z_getN C 1 mC_302 i_Fa rfl oC_2 (Nat.le_of_ble_eq_true rfl) rfl rfl hd k
set_option maxHeartbeats 4000000 in
set_option maxRecDepth 100000 in
theorem gC_Q_148 {D : va_G} {ad : Nat → Nat} {cA : Nat → ClassId} {X : State → Prop} {p : Program} {l : Launch} {e : Env} {R : Room} {s : State} {m : MethodId} {args : Array Value} {below : List Frame} {meth : Method} {c : Code} {cc : ByteArray} {nL : Nat} {Q : State → Prop} {pc : Nat} {lv : List (Nat × Value)} {st : List Value} {σ : zS} (C : CC D ad cA X p s m args meth c cc "KindRounds" nL) {x : Nat} (hx : isLine x = true) {v : Int32} (hv : mi σ (100 * x + 1) = v) (hd : decode cc pc = .ok (.getfield 148, 3)) (k : ZC D ad cA p l e R s m args below meth c nL Q (pc + 3) lv (.int v :: st) σ) : ZC D ad cA p l e R s m args below meth c nL Q pc lv (.ref (ad x) :: st) σ := by
  subst hv
  exact z_getN C 1 mC_303 i_Li rfl (oC_Li hx) (Nat.le_of_ble_eq_true rfl) rfl rfl hd k
set_option maxHeartbeats 4000000 in
set_option maxRecDepth 100000 in
theorem gC_Q_90 {D : va_G} {ad : Nat → Nat} {cA : Nat → ClassId} {X : State → Prop} {p : Program} {l : Launch} {e : Env} {R : Room} {s : State} {m : MethodId} {args : Array Value} {below : List Frame} {meth : Method} {c : Code} {cc : ByteArray} {nL : Nat} {Q : State → Prop} {pc : Nat} {lv : List (Nat × Value)} {st : List Value} {σ : zS} (C : CC D ad cA X p s m args meth c cc "KindRounds" nL) {v : Nat} (hv : gr σ 10 = v) (hd : decode cc pc = .ok (.getfield 90, 3)) (k : ZC D ad cA p l e R s m args below meth c nL Q (pc + 3) lv (.ref (ad v) :: st) σ) : ZC D ad cA p l e R s m args below meth c nL Q pc lv (.ref (ad 0) :: st) σ := by
  subst hv
  exact z_get C 10 mC_304 i_Q rfl oC_0 (Nat.le_of_ble_eq_true rfl) rfl rfl hd k
set_option maxHeartbeats 4000000 in
set_option maxRecDepth 100000 in
theorem gC_Q_145 {D : va_G} {ad : Nat → Nat} {cA : Nat → ClassId} {X : State → Prop} {p : Program} {l : Launch} {e : Env} {R : Room} {s : State} {m : MethodId} {args : Array Value} {below : List Frame} {meth : Method} {c : Code} {cc : ByteArray} {nL : Nat} {Q : State → Prop} {pc : Nat} {lv : List (Nat × Value)} {st : List Value} {σ : zS} (C : CC D ad cA X p s m args meth c cc "KindRounds" nL) (hd : decode cc pc = .ok (.getfield 145, 3)) (k : ZC D ad cA p l e R s m args below meth c nL Q (pc + 3) lv (.ref (ad 16) :: st) σ) : ZC D ad cA p l e R s m args below meth c nL Q pc lv (.ref (ad 2) :: st) σ :=
  z_getN C 3 mC_306 i_Fa rfl oC_2 (Nat.le_of_ble_eq_true rfl) rfl rfl hd k
set_option maxHeartbeats 4000000 in
set_option maxRecDepth 100000 in
theorem gC_Q_142 {D : va_G} {ad : Nat → Nat} {cA : Nat → ClassId} {X : State → Prop} {p : Program} {l : Launch} {e : Env} {R : Room} {s : State} {m : MethodId} {args : Array Value} {below : List Frame} {meth : Method} {c : Code} {cc : ByteArray} {nL : Nat} {Q : State → Prop} {pc : Nat} {lv : List (Nat × Value)} {st : List Value} {σ : zS} (C : CC D ad cA X p s m args meth c cc "KindRounds" nL) (hd : decode cc pc = .ok (.getfield 142, 3)) (k : ZC D ad cA p l e R s m args below meth c nL Q (pc + 3) lv (.ref (ad 15) :: st) σ) : ZC D ad cA p l e R s m args below meth c nL Q pc lv (.ref (ad 2) :: st) σ :=
  z_getN C 2 mC_307 i_Fa rfl oC_2 (Nat.le_of_ble_eq_true rfl) rfl rfl hd k
set_option maxHeartbeats 4000000 in
set_option maxRecDepth 100000 in
theorem gC_Q_153 {D : va_G} {ad : Nat → Nat} {cA : Nat → ClassId} {X : State → Prop} {p : Program} {l : Launch} {e : Env} {R : Room} {s : State} {m : MethodId} {args : Array Value} {below : List Frame} {meth : Method} {c : Code} {cc : ByteArray} {nL : Nat} {Q : State → Prop} {pc : Nat} {lv : List (Nat × Value)} {st : List Value} {σ : zS} (C : CC D ad cA X p s m args meth c cc "KindRounds" nL) {x : Nat} (hx : isLine x = true) (hd : decode cc pc = .ok (.getfield 153, 3)) (k : ZC D ad cA p l e R s m args below meth c nL Q (pc + 3) lv (.ref (ad (lA x)) :: st) σ) : ZC D ad cA p l e R s m args below meth c nL Q pc lv (.ref (ad x) :: st) σ :=
  z_getN C 0 mC_308 i_Li rfl (oC_Li hx) (Nat.le_of_ble_eq_true rfl) rfl rfl hd k
set_option maxHeartbeats 4000000 in
set_option maxRecDepth 100000 in
theorem gC_Q_161 {D : va_G} {ad : Nat → Nat} {cA : Nat → ClassId} {X : State → Prop} {p : Program} {l : Launch} {e : Env} {R : Room} {s : State} {m : MethodId} {args : Array Value} {below : List Frame} {meth : Method} {c : Code} {cc : ByteArray} {nL : Nat} {Q : State → Prop} {pc : Nat} {lv : List (Nat × Value)} {st : List Value} {σ : zS} (C : CC D ad cA X p s m args meth c cc "KindRounds" nL) (hd : decode cc pc = .ok (.getfield 161, 3)) (k : ZC D ad cA p l e R s m args below meth c nL Q (pc + 3) lv (.ref (ad 29) :: st) σ) : ZC D ad cA p l e R s m args below meth c nL Q pc lv (.ref (ad 4) :: st) σ :=
  z_getN C 1 mC_310 i_Te rfl oC_4 (Nat.le_of_ble_eq_true rfl) rfl rfl hd k
set_option maxHeartbeats 4000000 in
set_option maxRecDepth 100000 in
theorem gC_Q_165 {D : va_G} {ad : Nat → Nat} {cA : Nat → ClassId} {X : State → Prop} {p : Program} {l : Launch} {e : Env} {R : Room} {s : State} {m : MethodId} {args : Array Value} {below : List Frame} {meth : Method} {c : Code} {cc : ByteArray} {nL : Nat} {Q : State → Prop} {pc : Nat} {lv : List (Nat × Value)} {st : List Value} {σ : zS} (C : CC D ad cA X p s m args meth c cc "KindRounds" nL) (hd : decode cc pc = .ok (.getfield 165, 3)) (k : ZC D ad cA p l e R s m args below meth c nL Q (pc + 3) lv (.ref (ad 32) :: st) σ) : ZC D ad cA p l e R s m args below meth c nL Q pc lv (.ref (ad 4) :: st) σ :=
  z_getN C 4 mC_311 i_Te rfl oC_4 (Nat.le_of_ble_eq_true rfl) rfl rfl hd k
set_option maxHeartbeats 4000000 in
set_option maxRecDepth 100000 in
theorem gC_Q_168 {D : va_G} {ad : Nat → Nat} {cA : Nat → ClassId} {X : State → Prop} {p : Program} {l : Launch} {e : Env} {R : Room} {s : State} {m : MethodId} {args : Array Value} {below : List Frame} {meth : Method} {c : Code} {cc : ByteArray} {nL : Nat} {Q : State → Prop} {pc : Nat} {lv : List (Nat × Value)} {st : List Value} {σ : zS} (C : CC D ad cA X p s m args meth c cc "KindRounds" nL) (hd : decode cc pc = .ok (.getfield 168, 3)) (k : ZC D ad cA p l e R s m args below meth c nL Q (pc + 3) lv (.ref (ad 36) :: st) σ) : ZC D ad cA p l e R s m args below meth c nL Q pc lv (.ref (ad 4) :: st) σ :=
  z_getN C 8 mC_312 i_Te rfl oC_4 (Nat.le_of_ble_eq_true rfl) rfl rfl hd k
set_option maxHeartbeats 4000000 in
set_option maxRecDepth 100000 in
theorem gC_Q_171 {D : va_G} {ad : Nat → Nat} {cA : Nat → ClassId} {X : State → Prop} {p : Program} {l : Launch} {e : Env} {R : Room} {s : State} {m : MethodId} {args : Array Value} {below : List Frame} {meth : Method} {c : Code} {cc : ByteArray} {nL : Nat} {Q : State → Prop} {pc : Nat} {lv : List (Nat × Value)} {st : List Value} {σ : zS} (C : CC D ad cA X p s m args meth c cc "KindRounds" nL) (hd : decode cc pc = .ok (.getfield 171, 3)) (k : ZC D ad cA p l e R s m args below meth c nL Q (pc + 3) lv (.ref (ad 31) :: st) σ) : ZC D ad cA p l e R s m args below meth c nL Q pc lv (.ref (ad 4) :: st) σ :=
  z_getN C 3 mC_313 i_Te rfl oC_4 (Nat.le_of_ble_eq_true rfl) rfl rfl hd k
set_option maxHeartbeats 4000000 in
set_option maxRecDepth 100000 in
theorem gC_Q_174 {D : va_G} {ad : Nat → Nat} {cA : Nat → ClassId} {X : State → Prop} {p : Program} {l : Launch} {e : Env} {R : Room} {s : State} {m : MethodId} {args : Array Value} {below : List Frame} {meth : Method} {c : Code} {cc : ByteArray} {nL : Nat} {Q : State → Prop} {pc : Nat} {lv : List (Nat × Value)} {st : List Value} {σ : zS} (C : CC D ad cA X p s m args meth c cc "KindRounds" nL) (hd : decode cc pc = .ok (.getfield 174, 3)) (k : ZC D ad cA p l e R s m args below meth c nL Q (pc + 3) lv (.ref (ad 34) :: st) σ) : ZC D ad cA p l e R s m args below meth c nL Q pc lv (.ref (ad 4) :: st) σ :=
  z_getN C 6 mC_314 i_Te rfl oC_4 (Nat.le_of_ble_eq_true rfl) rfl rfl hd k
set_option maxHeartbeats 4000000 in
set_option maxRecDepth 100000 in
theorem gC_Q_177 {D : va_G} {ad : Nat → Nat} {cA : Nat → ClassId} {X : State → Prop} {p : Program} {l : Launch} {e : Env} {R : Room} {s : State} {m : MethodId} {args : Array Value} {below : List Frame} {meth : Method} {c : Code} {cc : ByteArray} {nL : Nat} {Q : State → Prop} {pc : Nat} {lv : List (Nat × Value)} {st : List Value} {σ : zS} (C : CC D ad cA X p s m args meth c cc "KindRounds" nL) (hd : decode cc pc = .ok (.getfield 177, 3)) (k : ZC D ad cA p l e R s m args below meth c nL Q (pc + 3) lv (.ref (ad 35) :: st) σ) : ZC D ad cA p l e R s m args below meth c nL Q pc lv (.ref (ad 4) :: st) σ :=
  z_getN C 7 mC_315 i_Te rfl oC_4 (Nat.le_of_ble_eq_true rfl) rfl rfl hd k
set_option maxHeartbeats 4000000 in
set_option maxRecDepth 100000 in
theorem gC_Q_182 {D : va_G} {ad : Nat → Nat} {cA : Nat → ClassId} {X : State → Prop} {p : Program} {l : Launch} {e : Env} {R : Room} {s : State} {m : MethodId} {args : Array Value} {below : List Frame} {meth : Method} {c : Code} {cc : ByteArray} {nL : Nat} {Q : State → Prop} {pc : Nat} {lv : List (Nat × Value)} {st : List Value} {σ : zS} (C : CC D ad cA X p s m args meth c cc "KindRounds" nL) (hd : decode cc pc = .ok (.getfield 182, 3)) (k : ZC D ad cA p l e R s m args below meth c nL Q (pc + 3) lv (.ref (ad 41) :: st) σ) : ZC D ad cA p l e R s m args below meth c nL Q pc lv (.ref (ad 4) :: st) σ :=
  z_getN C 14 mC_317 i_Te rfl oC_4 (Nat.le_of_ble_eq_true rfl) rfl rfl hd k
set_option maxHeartbeats 4000000 in
set_option maxRecDepth 100000 in
theorem gC_Q_180 {D : va_G} {ad : Nat → Nat} {cA : Nat → ClassId} {X : State → Prop} {p : Program} {l : Launch} {e : Env} {R : Room} {s : State} {m : MethodId} {args : Array Value} {below : List Frame} {meth : Method} {c : Code} {cc : ByteArray} {nL : Nat} {Q : State → Prop} {pc : Nat} {lv : List (Nat × Value)} {st : List Value} {σ : zS} (C : CC D ad cA X p s m args meth c cc "KindRounds" nL) (hd : decode cc pc = .ok (.getfield 180, 3)) (k : ZC D ad cA p l e R s m args below meth c nL Q (pc + 3) lv (.ref (ad 40) :: st) σ) : ZC D ad cA p l e R s m args below meth c nL Q pc lv (.ref (ad 4) :: st) σ :=
  z_getN C 13 mC_318 i_Te rfl oC_4 (Nat.le_of_ble_eq_true rfl) rfl rfl hd k
set_option maxHeartbeats 4000000 in
set_option maxRecDepth 100000 in
theorem gC_Q_189 {D : va_G} {ad : Nat → Nat} {cA : Nat → ClassId} {X : State → Prop} {p : Program} {l : Launch} {e : Env} {R : Room} {s : State} {m : MethodId} {args : Array Value} {below : List Frame} {meth : Method} {c : Code} {cc : ByteArray} {nL : Nat} {Q : State → Prop} {pc : Nat} {lv : List (Nat × Value)} {st : List Value} {σ : zS} (C : CC D ad cA X p s m args meth c cc "KindRounds" nL) {v : Int32} (hv : gi σ 412 = v) (hd : decode cc pc = .ok (.getfield 189, 3)) (k : ZC D ad cA p l e R s m args below meth c nL Q (pc + 3) lv (.int v :: st) σ) : ZC D ad cA p l e R s m args below meth c nL Q pc lv (.ref (ad 4) :: st) σ := by
  subst hv
  exact z_getN C 12 mC_319 i_Te rfl oC_4 (Nat.le_of_ble_eq_true rfl) rfl rfl hd k
set_option maxHeartbeats 4000000 in
set_option maxRecDepth 100000 in
theorem gC_Q_196 {D : va_G} {ad : Nat → Nat} {cA : Nat → ClassId} {X : State → Prop} {p : Program} {l : Launch} {e : Env} {R : Room} {s : State} {m : MethodId} {args : Array Value} {below : List Frame} {meth : Method} {c : Code} {cc : ByteArray} {nL : Nat} {Q : State → Prop} {pc : Nat} {lv : List (Nat × Value)} {st : List Value} {σ : zS} (C : CC D ad cA X p s m args meth c cc "KindRounds" nL) (hd : decode cc pc = .ok (.getfield 196, 3)) (k : ZC D ad cA p l e R s m args below meth c nL Q (pc + 3) lv (.ref (ad 38) :: st) σ) : ZC D ad cA p l e R s m args below meth c nL Q pc lv (.ref (ad 4) :: st) σ :=
  z_getN C 10 mC_321 i_Te rfl oC_4 (Nat.le_of_ble_eq_true rfl) rfl rfl hd k
set_option maxHeartbeats 4000000 in
set_option maxRecDepth 100000 in
theorem gC_Q_202 {D : va_G} {ad : Nat → Nat} {cA : Nat → ClassId} {X : State → Prop} {p : Program} {l : Launch} {e : Env} {R : Room} {s : State} {m : MethodId} {args : Array Value} {below : List Frame} {meth : Method} {c : Code} {cc : ByteArray} {nL : Nat} {Q : State → Prop} {pc : Nat} {lv : List (Nat × Value)} {st : List Value} {σ : zS} (C : CC D ad cA X p s m args meth c cc "KindRounds" nL) {v : Int32} (hv : gi σ 815 = v) (hd : decode cc pc = .ok (.getfield 202, 3)) (k : ZC D ad cA p l e R s m args below meth c nL Q (pc + 3) lv (.int v :: st) σ) : ZC D ad cA p l e R s m args below meth c nL Q pc lv (.ref (ad 8) :: st) σ := by
  subst hv
  exact z_getN C 15 mC_323 i_So rfl oC_8 (Nat.le_of_ble_eq_true rfl) rfl rfl hd k
set_option maxHeartbeats 4000000 in
set_option maxRecDepth 100000 in
theorem gC_Q_83 {D : va_G} {ad : Nat → Nat} {cA : Nat → ClassId} {X : State → Prop} {p : Program} {l : Launch} {e : Env} {R : Room} {s : State} {m : MethodId} {args : Array Value} {below : List Frame} {meth : Method} {c : Code} {cc : ByteArray} {nL : Nat} {Q : State → Prop} {pc : Nat} {lv : List (Nat × Value)} {st : List Value} {σ : zS} (C : CC D ad cA X p s m args meth c cc "KindRounds" nL) (hd : decode cc pc = .ok (.getfield 83, 3)) (k : ZC D ad cA p l e R s m args below meth c nL Q (pc + 3) lv (.ref (ad 9) :: st) σ) : ZC D ad cA p l e R s m args below meth c nL Q pc lv (.ref (ad 0) :: st) σ :=
  z_get C 9 mC_324 i_Q rfl oC_0 (Nat.le_of_ble_eq_true rfl) rfl rfl hd k
set_option maxHeartbeats 4000000 in
set_option maxRecDepth 100000 in
theorem gC_Q_47 {D : va_G} {ad : Nat → Nat} {cA : Nat → ClassId} {X : State → Prop} {p : Program} {l : Launch} {e : Env} {R : Room} {s : State} {m : MethodId} {args : Array Value} {below : List Frame} {meth : Method} {c : Code} {cc : ByteArray} {nL : Nat} {Q : State → Prop} {pc : Nat} {lv : List (Nat × Value)} {st : List Value} {σ : zS} (C : CC D ad cA X p s m args meth c cc "KindRounds" nL) (hd : decode cc pc = .ok (.getfield 47, 3)) (k : ZC D ad cA p l e R s m args below meth c nL Q (pc + 3) lv (.ref (ad 11) :: st) σ) : ZC D ad cA p l e R s m args below meth c nL Q pc lv (.ref (ad 0) :: st) σ :=
  z_get C 5 mC_325 i_Q rfl oC_0 (Nat.le_of_ble_eq_true rfl) rfl rfl hd k
set_option maxHeartbeats 4000000 in
set_option maxRecDepth 100000 in
theorem gC_Q_94 {D : va_G} {ad : Nat → Nat} {cA : Nat → ClassId} {X : State → Prop} {p : Program} {l : Launch} {e : Env} {R : Room} {s : State} {m : MethodId} {args : Array Value} {below : List Frame} {meth : Method} {c : Code} {cc : ByteArray} {nL : Nat} {Q : State → Prop} {pc : Nat} {lv : List (Nat × Value)} {st : List Value} {σ : zS} (C : CC D ad cA X p s m args meth c cc "KindRounds" nL) {v : Nat} (hv : gr σ 11 = v) (hd : decode cc pc = .ok (.getfield 94, 3)) (k : ZC D ad cA p l e R s m args below meth c nL Q (pc + 3) lv (.ref (ad v) :: st) σ) : ZC D ad cA p l e R s m args below meth c nL Q pc lv (.ref (ad 0) :: st) σ := by
  subst hv
  exact z_get C 11 mC_327 i_Q rfl oC_0 (Nat.le_of_ble_eq_true rfl) rfl rfl hd k
set_option maxHeartbeats 4000000 in
set_option maxRecDepth 100000 in
theorem pC_Q_90 {D : va_G} {ad : Nat → Nat} {cA : Nat → ClassId} {X : State → Prop} {p : Program} {l : Launch} {e : Env} {R : Room} {s : State} {m : MethodId} {args : Array Value} {below : List Frame} {meth : Method} {c : Code} {cc : ByteArray} {nL : Nat} {Q : State → Prop} {pc : Nat} {lv : List (Nat × Value)} {st : List Value} {σ : zS} (C : CC D ad cA X p s m args meth c cc "KindRounds" nL) {v : Nat} (hd : decode cc pc = .ok (.putfield 90, 3)) (k : ZC D ad cA p l e R s m args below meth c nL Q (pc + 3) lv st (sr σ 10 v)) : ZC D ad cA p l e R s m args below meth c nL Q pc lv (.ref (ad v) :: .ref (ad 0) :: st) σ :=
  z_put C 10 (ty := .object "KindRounds$Line") mC_304 i_Q t_Q t_Q_ok n_Q rfl oC_0 (Nat.le_of_ble_eq_true rfl) rfl rfl rfl rfl rfl (Nat.le_of_ble_eq_true rfl) rfl hd k
set_option maxHeartbeats 4000000 in
set_option maxRecDepth 100000 in
theorem pC_Q_94 {D : va_G} {ad : Nat → Nat} {cA : Nat → ClassId} {X : State → Prop} {p : Program} {l : Launch} {e : Env} {R : Room} {s : State} {m : MethodId} {args : Array Value} {below : List Frame} {meth : Method} {c : Code} {cc : ByteArray} {nL : Nat} {Q : State → Prop} {pc : Nat} {lv : List (Nat × Value)} {st : List Value} {σ : zS} (C : CC D ad cA X p s m args meth c cc "KindRounds" nL) {v : Nat} (hd : decode cc pc = .ok (.putfield 94, 3)) (k : ZC D ad cA p l e R s m args below meth c nL Q (pc + 3) lv st (sr σ 11 v)) : ZC D ad cA p l e R s m args below meth c nL Q pc lv (.ref (ad v) :: .ref (ad 0) :: st) σ :=
  z_put C 11 (ty := .object "KindRounds$Line") mC_327 i_Q t_Q t_Q_ok n_Q rfl oC_0 (Nat.le_of_ble_eq_true rfl) rfl rfl rfl rfl rfl (Nat.le_of_ble_eq_true rfl) rfl hd k
