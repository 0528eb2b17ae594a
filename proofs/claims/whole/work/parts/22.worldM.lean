/-! The world of KindRoundsModel, its cells. Written by program (wip/gen). -/
abbrev clM : List vw_C := clC
def wdM (ad : Nat → Nat) (cA : Nat → ClassId) (σ : zS) : va_W := [
  (ad 0, .inr (12, [.int (gi σ 0), .ref (ad 1), .int (gi σ 2), .int (gi σ 3), .int (gi σ 4), .int (gi σ 5), .long (gl σ 6), .int (gi σ 7), .int (gi σ 8), .int (gi σ 9), .int (gi σ 10), .ref (ad 2), .ref (ad 3), .ref (ad 4), .ref (ad 5), .ref (ad 6), .int (gi σ 16), .int (gi σ 17), .int (gi σ 18), .int (gi σ 19), .ref (ad 7), .ref (ad 8), .ref (ad 9), .int (gi σ 23), .ref (ad 10), .ref (ad 11), .ref (ad 12), .ref (ad 13), .ref (ad 14), .ref (ad 15), .ref (ad 16), .int (gi σ 31), .int (gi σ 32), .ref (ad 17), .ref (ad 18), .ref (ad 19), .ref (ad 20), .ref (ad 21), .ref (ad 22), .ref (ad 23), .ref (ad 24), .ref (ad 25), .int (gi σ 42), .ref (ad 26), .ref (ad 27), .ref (ad 28), .ref (ad 29), .ref (ad 30), .int (gi σ 48), .int (gi σ 49), .ref (ad 31), .ref (ad 32), .int (gi σ 52), .ref (ad 33), .ref (ad 34), .ref (ad 35), .ref (ad 36), .ref (ad 37), .ref (ad 38), .ref (ad 39), .ref (ad 40), .ref (ad 41), .int (gi σ 62), .ref (ad 42), .ref (ad 43), .ref (ad 44), .int (gi σ 66), .int (gi σ 67), .ref (ad 45), .ref (ad 46), .ref (ad 47), .int (gi σ 71), .ref (ad 48), .ref (ad 49), .ref (ad 50), .ref (ad 51), .ref (ad 52), .ref (ad 53), .ref (ad 54), .int (gi σ 79), .int (gi σ 80), .ref (ad 55), .int (gi σ 82), .ref (ad 56), .int (gi σ 84), .int (gi σ 85), .ref (ad 57), .int (gi σ 87), .int (gi σ 88), .int (gi σ 89), .ref (ad 58), .int (gi σ 91), .ref (ad 59), .ref (ad 60), .ref (ad 61), .int (gi σ 95), .int (gi σ 96), .int (gi σ 97), .ref (ad 62)])),
  (ad 1, .inl (cA 1, 1200, .inl (ga σ 1))),
  (ad 2, .inl (cA 2, 1000, .inl (ga σ 2))),
  (ad 3, .inl (cA 3, 1000, .inr (.inl (gb σ 3)))),
  (ad 4, .inl (cA 4, 1000, .inl (ga σ 4))),
  (ad 5, .inl (cA 5, 1000, .inl (ga σ 5))),
  (ad 6, .inl (cA 6, 1000, .inl (ga σ 6))),
  (ad 7, .inl (cA 7, 1600, .inl (ga σ 7))),
  (ad 8, .inl (cA 8, 1600, .inl (ga σ 8))),
  (ad 9, .inl (cA 9, 1600, .inl (ga σ 9))),
  (ad 10, .inl (cA 10, 1400, .inl (ga σ 10))),
  (ad 11, .inl (cA 11, 1400, .inr (.inl (gb σ 11)))),
  (ad 12, .inl (cA 12, 1400, .inl (ga σ 12))),
  (ad 13, .inl (cA 13, 1400, .inl (ga σ 13))),
  (ad 14, .inl (cA 14, 1400, .inl (ga σ 14))),
  (ad 15, .inl (cA 15, 1400, .inl (ga σ 15))),
  (ad 16, .inl (cA 16, 1400, .inl (ga σ 16))),
  (ad 17, .inl (cA 17, 12, .inl (ga σ 17))),
  (ad 18, .inl (cA 18, 12, .inl (ga σ 18))),
  (ad 19, .inl (cA 19, 12, .inl (ga σ 19))),
  (ad 20, .inl (cA 20, 12, .inl (ga σ 20))),
  (ad 21, .inl (cA 21, 12, .inl (ga σ 21))),
  (ad 22, .inl (cA 22, 12, .inl (ga σ 22))),
  (ad 23, .inl (cA 23, 12, .inl (ga σ 23))),
  (ad 24, .inl (cA 24, 12, .inl (ga σ 24))),
  (ad 25, .inl (cA 25, 12, .inl (ga σ 25))),
  (ad 26, .inl (cA 26, 4000, .inl (ga σ 26))),
  (ad 27, .inl (cA 27, 4000, .inl (ga σ 27))),
  (ad 28, .inl (cA 28, 4000, .inl (ga σ 28))),
  (ad 29, .inl (cA 29, 4000, .inl (ga σ 29))),
  (ad 30, .inl (cA 30, 4000, .inl (ga σ 30))),
  (ad 31, .inl (cA 31, 12, .inl (ga σ 31))),
  (ad 32, .inl (cA 32, 12, .inl (ga σ 32))),
  (ad 33, .inl (cA 33, 17, .inl (ga σ 33))),
  (ad 34, .inl (cA 34, 17, .inr (.inl (gb σ 34)))),
  (ad 35, .inl (cA 35, 17, .inl (ga σ 35))),
  (ad 36, .inl (cA 36, 17, .inl (ga σ 36))),
  (ad 37, .inl (cA 37, 51, .inr (.inl (gb σ 37)))),
  (ad 38, .inl (cA 38, 17, .inl (ga σ 38))),
  (ad 39, .inl (cA 39, 17, .inl (ga σ 39))),
  (ad 40, .inl (cA 40, 17, .inl (ga σ 40))),
  (ad 41, .inl (cA 41, 17, .inl (ga σ 41))),
  (ad 42, .inl (cA 42, 300, .inr (.inl (gb σ 42)))),
  (ad 43, .inl (cA 43, 300, .inl (ga σ 43))),
  (ad 44, .inl (cA 44, 300, .inl (ga σ 44))),
  (ad 45, .inl (cA 45, 256, .inl (ga σ 45))),
  (ad 46, .inl (cA 46, 256, .inl (ga σ 46))),
  (ad 47, .inl (cA 47, 256, .inl (ga σ 47))),
  (ad 48, .inl (cA 48, 16, .inl (ga σ 48))),
  (ad 49, .inl (cA 49, 16, .inl (ga σ 49))),
  (ad 50, .inl (cA 50, 48, .inl (ga σ 50))),
  (ad 51, .inl (cA 51, 16, .inl (ga σ 51))),
  (ad 52, .inl (cA 52, 16, .inl (ga σ 52))),
  (ad 53, .inl (cA 53, 16000, .inl (ga σ 53))),
  (ad 54, .inl (cA 54, 4000, .inl (ga σ 54))),
  (ad 55, .inl (cA 55, 6000, .inl (ga σ 55))),
  (ad 56, .inl (cA 56, 6000, .inl (ga σ 56))),
  (ad 57, .inl (cA 57, 4000, .inl (ga σ 57))),
  (ad 58, .inl (cA 58, 4000, .inl (ga σ 58))),
  (ad 59, .inl (cA 59, 1200, .inl (ga σ 59))),
  (ad 60, .inl (cA 60, 1200, .inl (ga σ 60))),
  (ad 61, .inl (cA 61, 1200, .inl (ga σ 61))),
  (ad 62, .inl (cA 62, 6000, .inl (ga σ 62)))]
def tysM (cA : Nat → ClassId) : List (ClassId × FieldType) := [(cA 1, .int), (cA 2, .int), (cA 3, .long), (cA 4, .int), (cA 5, .int), (cA 6, .int), (cA 7, .int), (cA 8, .int), (cA 9, .int), (cA 10, .int), (cA 11, .long), (cA 12, .int), (cA 13, .int), (cA 14, .int), (cA 15, .boolean), (cA 16, .int), (cA 17, .int), (cA 18, .int), (cA 19, .int), (cA 20, .int), (cA 21, .int), (cA 22, .int), (cA 23, .int), (cA 24, .int), (cA 25, .int), (cA 26, .int), (cA 27, .int), (cA 28, .int), (cA 29, .int), (cA 30, .int), (cA 31, .int), (cA 32, .int), (cA 33, .int), (cA 34, .long), (cA 35, .int), (cA 36, .int), (cA 37, .long), (cA 38, .int), (cA 39, .int), (cA 40, .int), (cA 41, .int), (cA 42, .long), (cA 43, .int), (cA 44, .int), (cA 45, .boolean), (cA 46, .boolean), (cA 47, .boolean), (cA 48, .int), (cA 49, .int), (cA 50, .int), (cA 51, .int), (cA 52, .int), (cA 53, .int), (cA 54, .int), (cA 55, .int), (cA 56, .int), (cA 57, .int), (cA 58, .int), (cA 59, .int), (cA 60, .int), (cA 61, .int), (cA 62, .int)]
def owM (ad : Nat → Nat) : Nat → Prop := fun q => ∃ k, k < 63 ∧ q = ad k
abbrev ZM (D : va_G) (ad : Nat → Nat) (cA : Nat → ClassId) (p : Program) (l : Launch) (e : Env) (R : Room) (s : State) (m : MethodId) (args : Array Value) (below : List Frame) (meth : Method) (c : Code) (nL : Nat) (Q : State → Prop) (pc : Nat) (lv : List (Nat × Value)) (st : List Value) (σ : zS) : Prop := Z (wdM ad cA) D clM (owM ad) p l e R s m args below meth c nL Q pc lv st σ
abbrev CM (D : va_G) (ad : Nat → Nat) (cA : Nat → ClassId) (X : State → Prop) (p : Program) (s : State) (m : MethodId) (args : Array Value) (meth : Method) (c : Code) (cc : ByteArray) (own : String) (nL : Nat) : Prop := zC (wdM ad cA) D clM (tysM cA) (owM ad) X p s m args meth c cc own nL
abbrev qiM (D : va_G) (ad : Nat → Nat) (cA : Nat → ClassId) (below : List Frame) (args : Array Value) (s : State) (r : Int32) (σ' : zS) : State → Prop := MQ below (kQi (wdM ad cA) D clM (tysM cA) (owM ad) r σ') args s 0 0 (owM ad)
abbrev qlM (D : va_G) (ad : Nat → Nat) (cA : Nat → ClassId) (below : List Frame) (args : Array Value) (s : State) (r : Int64) (σ' : zS) : State → Prop := MQ below (kQl (wdM ad cA) D clM (tysM cA) (owM ad) r σ') args s 0 0 (owM ad)
abbrev qvM (D : va_G) (ad : Nat → Nat) (cA : Nat → ClassId) (below : List Frame) (args : Array Value) (s : State) (σ' : zS) : State → Prop := MQ below (kQv (wdM ad cA) D clM (tysM cA) (owM ad) σ') args s 0 0 (owM ad)
abbrev kIM (l : Launch) (D : va_G) (ad : Nat → Nat) (cA : Nat → ClassId) (X : State → Prop) (y : MethodName) (cc : ByteArray) (nL : Nat) (ty : FieldType) (rk : Nat) (av : List Value) (σ : zS) (r : Int32) (σ' : zS) : Prop := kI l (wdM ad cA) D clM (tysM cA) (owM ad) X y cc nL ty rk av σ r σ'
abbrev kLM (l : Launch) (D : va_G) (ad : Nat → Nat) (cA : Nat → ClassId) (X : State → Prop) (y : MethodName) (cc : ByteArray) (nL : Nat) (rk : Nat) (av : List Value) (σ : zS) (r : Int64) (σ' : zS) : Prop := kL l (wdM ad cA) D clM (tysM cA) (owM ad) X y cc nL rk av σ r σ'
abbrev kVM (l : Launch) (D : va_G) (ad : Nat → Nat) (cA : Nat → ClassId) (X : State → Prop) (y : MethodName) (cc : ByteArray) (nL : Nat) (rk : Nat) (av : List Value) (σ : zS) (σ' : zS) : Prop := kV l (wdM ad cA) D clM (tysM cA) (owM ad) X y cc nL rk av σ σ'
set_option maxHeartbeats 4000000 in
set_option maxRecDepth 100000 in
theorem oM_0 {ad : Nat → Nat} {cA : Nat → ClassId} {σ : zS} : (wdM ad cA σ)[0]? = some (ad 0, .inr (12, [.int (gi σ 0), .ref (ad 1), .int (gi σ 2), .int (gi σ 3), .int (gi σ 4), .int (gi σ 5), .long (gl σ 6), .int (gi σ 7), .int (gi σ 8), .int (gi σ 9), .int (gi σ 10), .ref (ad 2), .ref (ad 3), .ref (ad 4), .ref (ad 5), .ref (ad 6), .int (gi σ 16), .int (gi σ 17), .int (gi σ 18), .int (gi σ 19), .ref (ad 7), .ref (ad 8), .ref (ad 9), .int (gi σ 23), .ref (ad 10), .ref (ad 11), .ref (ad 12), .ref (ad 13), .ref (ad 14), .ref (ad 15), .ref (ad 16), .int (gi σ 31), .int (gi σ 32), .ref (ad 17), .ref (ad 18), .ref (ad 19), .ref (ad 20), .ref (ad 21), .ref (ad 22), .ref (ad 23), .ref (ad 24), .ref (ad 25), .int (gi σ 42), .ref (ad 26), .ref (ad 27), .ref (ad 28), .ref (ad 29), .ref (ad 30), .int (gi σ 48), .int (gi σ 49), .ref (ad 31), .ref (ad 32), .int (gi σ 52), .ref (ad 33), .ref (ad 34), .ref (ad 35), .ref (ad 36), .ref (ad 37), .ref (ad 38), .ref (ad 39), .ref (ad 40), .ref (ad 41), .int (gi σ 62), .ref (ad 42), .ref (ad 43), .ref (ad 44), .int (gi σ 66), .int (gi σ 67), .ref (ad 45), .ref (ad 46), .ref (ad 47), .int (gi σ 71), .ref (ad 48), .ref (ad 49), .ref (ad 50), .ref (ad 51), .ref (ad 52), .ref (ad 53), .ref (ad 54), .int (gi σ 79), .int (gi σ 80), .ref (ad 55), .int (gi σ 82), .ref (ad 56), .int (gi σ 84), .int (gi σ 85), .ref (ad 57), .int (gi σ 87), .int (gi σ 88), .int (gi σ 89), .ref (ad 58), .int (gi σ 91), .ref (ad 59), .ref (ad 60), .ref (ad 61), .int (gi σ 95), .int (gi σ 96), .int (gi σ 97), .ref (ad 62)])) := rfl
set_option maxHeartbeats 4000000 in
set_option maxRecDepth 100000 in
theorem gM_Md_7 {D : va_G} {ad : Nat → Nat} {cA : Nat → ClassId} {X : State → Prop} {p : Program} {l : Launch} {e : Env} {R : Room} {s : State} {m : MethodId} {args : Array Value} {below : List Frame} {meth : Method} {c : Code} {cc : ByteArray} {nL : Nat} {Q : State → Prop} {pc : Nat} {lv : List (Nat × Value)} {st : List Value} {σ : zS} (C : CM D ad cA X p s m args meth c cc "KindRoundsModel" nL) (hd : decode cc pc = .ok (.getfield 7, 3)) (k : ZM D ad cA p l e R s m args below meth c nL Q (pc + 3) lv (.ref (ad 1) :: st) σ) : ZM D ad cA p l e R s m args below meth c nL Q pc lv (.ref (ad 0) :: st) σ :=
  z_get C 1 mM_0 i_Md rfl oM_0 (Nat.le_of_ble_eq_true rfl) rfl rfl hd k
set_option maxHeartbeats 4000000 in
set_option maxRecDepth 100000 in
theorem gM_Md_218 {D : va_G} {ad : Nat → Nat} {cA : Nat → ClassId} {X : State → Prop} {p : Program} {l : Launch} {e : Env} {R : Room} {s : State} {m : MethodId} {args : Array Value} {below : List Frame} {meth : Method} {c : Code} {cc : ByteArray} {nL : Nat} {Q : State → Prop} {pc : Nat} {lv : List (Nat × Value)} {st : List Value} {σ : zS} (C : CM D ad cA X p s m args meth c cc "KindRoundsModel" nL) {v : Int32} (hv : gi σ 2 = v) (hd : decode cc pc = .ok (.getfield 218, 3)) (k : ZM D ad cA p l e R s m args below meth c nL Q (pc + 3) lv (.int v :: st) σ) : ZM D ad cA p l e R s m args below meth c nL Q pc lv (.ref (ad 0) :: st) σ := by
  subst hv
  exact z_get C 2 mM_1 i_Md rfl oM_0 (Nat.le_of_ble_eq_true rfl) rfl rfl hd k
set_option maxHeartbeats 4000000 in
set_option maxRecDepth 100000 in
theorem alM_1 {D : va_G} {ad : Nat → Nat} {cA : Nat → ClassId} {X : State → Prop} {p : Program} {l : Launch} {e : Env} {R : Room} {s : State} {m : MethodId} {args : Array Value} {below : List Frame} {meth : Method} {c : Code} {cc : ByteArray} {nL : Nat} {Q : State → Prop} {pc : Nat} {lv : List (Nat × Value)} {st : List Value} {σ : zS} {own : String} (C : CM D ad cA X p s m args meth c cc own nL) {i : Int32} {v : Int32} (hv : ga σ 1 i.toNatClampNeg = v) (hin : inb i 1200 = true) (hd : decode cc pc = .ok (.iaload, 1)) (k : ZM D ad cA p l e R s m args below meth c nL Q (pc + 1) lv (.int v :: st) σ) : ZM D ad cA p l e R s m args below meth c nL Q pc lv (.int i :: .ref (ad 1) :: st) σ := by
  subst hv
  exact z_iald C (t0 := 0) (q0 := 1) rfl rfl hin hd k
set_option maxHeartbeats 4000000 in
set_option maxRecDepth 100000 in
theorem asM_1 {D : va_G} {ad : Nat → Nat} {cA : Nat → ClassId} {X : State → Prop} {p : Program} {l : Launch} {e : Env} {R : Room} {s : State} {m : MethodId} {args : Array Value} {below : List Frame} {meth : Method} {c : Code} {cc : ByteArray} {nL : Nat} {Q : State → Prop} {pc : Nat} {lv : List (Nat × Value)} {st : List Value} {σ : zS} {own : String} (C : CM D ad cA X p s m args meth c cc own nL) {i : Int32} {v : Int32} (hin : inb i 1200 = true) (hd : decode cc pc = .ok (.iastore, 1)) (k : ZM D ad cA p l e R s m args below meth c nL Q (pc + 1) lv st (sa σ 1 i.toNatClampNeg v)) : ZM D ad cA p l e R s m args below meth c nL Q pc lv (.int v :: .int i :: .ref (ad 1) :: st) σ :=
  z_iast C (t0 := 0) (q0 := 1) rfl rfl hin rfl hd k
set_option maxHeartbeats 4000000 in
set_option maxRecDepth 100000 in
theorem pM_Md_218 {D : va_G} {ad : Nat → Nat} {cA : Nat → ClassId} {X : State → Prop} {p : Program} {l : Launch} {e : Env} {R : Room} {s : State} {m : MethodId} {args : Array Value} {below : List Frame} {meth : Method} {c : Code} {cc : ByteArray} {nL : Nat} {Q : State → Prop} {pc : Nat} {lv : List (Nat × Value)} {st : List Value} {σ : zS} (C : CM D ad cA X p s m args meth c cc "KindRoundsModel" nL) {v : Int32} (hd : decode cc pc = .ok (.putfield 218, 3)) (k : ZM D ad cA p l e R s m args below meth c nL Q (pc + 3) lv st (si σ 2 v)) : ZM D ad cA p l e R s m args below meth c nL Q pc lv (.int v :: .ref (ad 0) :: st) σ :=
  z_put C 2 (ty := .int) mM_1 i_Md t_Md t_Md_ok n_Md rfl oM_0 (Nat.le_of_ble_eq_true rfl) rfl rfl rfl rfl rfl (Nat.le_of_ble_eq_true rfl) rfl hd k
set_option maxHeartbeats 4000000 in
set_option maxRecDepth 100000 in
theorem gM_Md_221 {D : va_G} {ad : Nat → Nat} {cA : Nat → ClassId} {X : State → Prop} {p : Program} {l : Launch} {e : Env} {R : Room} {s : State} {m : MethodId} {args : Array Value} {below : List Frame} {meth : Method} {c : Code} {cc : ByteArray} {nL : Nat} {Q : State → Prop} {pc : Nat} {lv : List (Nat × Value)} {st : List Value} {σ : zS} (C : CM D ad cA X p s m args meth c cc "KindRoundsModel" nL) {v : Int32} (hv : gi σ 8 = v) (hd : decode cc pc = .ok (.getfield 221, 3)) (k : ZM D ad cA p l e R s m args below meth c nL Q (pc + 3) lv (.int v :: st) σ) : ZM D ad cA p l e R s m args below meth c nL Q pc lv (.ref (ad 0) :: st) σ := by
  subst hv
  exact z_get C 8 mM_2 i_Md rfl oM_0 (Nat.le_of_ble_eq_true rfl) rfl rfl hd k
set_option maxHeartbeats 4000000 in
set_option maxRecDepth 100000 in
theorem pM_Md_221 {D : va_G} {ad : Nat → Nat} {cA : Nat → ClassId} {X : State → Prop} {p : Program} {l : Launch} {e : Env} {R : Room} {s : State} {m : MethodId} {args : Array Value} {below : List Frame} {meth : Method} {c : Code} {cc : ByteArray} {nL : Nat} {Q : State → Prop} {pc : Nat} {lv : List (Nat × Value)} {st : List Value} {σ : zS} (C : CM D ad cA X p s m args meth c cc "KindRoundsModel" nL) {v : Int32} (hd : decode cc pc = .ok (.putfield 221, 3)) (k : ZM D ad cA p l e R s m args below meth c nL Q (pc + 3) lv st (si σ 8 v)) : ZM D ad cA p l e R s m args below meth c nL Q pc lv (.int v :: .ref (ad 0) :: st) σ :=
  z_put C 8 (ty := .int) mM_2 i_Md t_Md t_Md_ok n_Md rfl oM_0 (Nat.le_of_ble_eq_true rfl) rfl rfl rfl rfl rfl (Nat.le_of_ble_eq_true rfl) rfl hd k
set_option maxHeartbeats 4000000 in
set_option maxRecDepth 100000 in
theorem pM_Md_13 {D : va_G} {ad : Nat → Nat} {cA : Nat → ClassId} {X : State → Prop} {p : Program} {l : Launch} {e : Env} {R : Room} {s : State} {m : MethodId} {args : Array Value} {below : List Frame} {meth : Method} {c : Code} {cc : ByteArray} {nL : Nat} {Q : State → Prop} {pc : Nat} {lv : List (Nat × Value)} {st : List Value} {σ : zS} (C : CM D ad cA X p s m args meth c cc "KindRoundsModel" nL) {v : Int32} (hd : decode cc pc = .ok (.putfield 13, 3)) (k : ZM D ad cA p l e R s m args below meth c nL Q (pc + 3) lv st (si σ 9 v)) : ZM D ad cA p l e R s m args below meth c nL Q pc lv (.int v :: .ref (ad 0) :: st) σ :=
  z_put C 9 (ty := .int) mM_3 i_Md t_Md t_Md_ok n_Md rfl oM_0 (Nat.le_of_ble_eq_true rfl) rfl rfl rfl rfl rfl (Nat.le_of_ble_eq_true rfl) rfl hd k
set_option maxHeartbeats 4000000 in
set_option maxRecDepth 100000 in
theorem gM_Md_231 {D : va_G} {ad : Nat → Nat} {cA : Nat → ClassId} {X : State → Prop} {p : Program} {l : Launch} {e : Env} {R : Room} {s : State} {m : MethodId} {args : Array Value} {below : List Frame} {meth : Method} {c : Code} {cc : ByteArray} {nL : Nat} {Q : State → Prop} {pc : Nat} {lv : List (Nat × Value)} {st : List Value} {σ : zS} (C : CM D ad cA X p s m args meth c cc "KindRoundsModel" nL) {v : Int32} (hv : gi σ 3 = v) (hd : decode cc pc = .ok (.getfield 231, 3)) (k : ZM D ad cA p l e R s m args below meth c nL Q (pc + 3) lv (.int v :: st) σ) : ZM D ad cA p l e R s m args below meth c nL Q pc lv (.ref (ad 0) :: st) σ := by
  subst hv
  exact z_get C 3 mM_6 i_Md rfl oM_0 (Nat.le_of_ble_eq_true rfl) rfl rfl hd k
set_option maxHeartbeats 4000000 in
set_option maxRecDepth 100000 in
theorem pM_Md_231 {D : va_G} {ad : Nat → Nat} {cA : Nat → ClassId} {X : State → Prop} {p : Program} {l : Launch} {e : Env} {R : Room} {s : State} {m : MethodId} {args : Array Value} {below : List Frame} {meth : Method} {c : Code} {cc : ByteArray} {nL : Nat} {Q : State → Prop} {pc : Nat} {lv : List (Nat × Value)} {st : List Value} {σ : zS} (C : CM D ad cA X p s m args meth c cc "KindRoundsModel" nL) {v : Int32} (hd : decode cc pc = .ok (.putfield 231, 3)) (k : ZM D ad cA p l e R s m args below meth c nL Q (pc + 3) lv st (si σ 3 v)) : ZM D ad cA p l e R s m args below meth c nL Q pc lv (.int v :: .ref (ad 0) :: st) σ :=
  z_put C 3 (ty := .int) mM_6 i_Md t_Md t_Md_ok n_Md rfl oM_0 (Nat.le_of_ble_eq_true rfl) rfl rfl rfl rfl rfl (Nat.le_of_ble_eq_true rfl) rfl hd k
set_option maxHeartbeats 4000000 in
set_option maxRecDepth 100000 in
theorem pM_Md_241 {D : va_G} {ad : Nat → Nat} {cA : Nat → ClassId} {X : State → Prop} {p : Program} {l : Launch} {e : Env} {R : Room} {s : State} {m : MethodId} {args : Array Value} {below : List Frame} {meth : Method} {c : Code} {cc : ByteArray} {nL : Nat} {Q : State → Prop} {pc : Nat} {lv : List (Nat × Value)} {st : List Value} {σ : zS} (C : CM D ad cA X p s m args meth c cc "KindRoundsModel" nL) {v : Int32} (hd : decode cc pc = .ok (.putfield 241, 3)) (k : ZM D ad cA p l e R s m args below meth c nL Q (pc + 3) lv st (si σ 4 v)) : ZM D ad cA p l e R s m args below meth c nL Q pc lv (.int v :: .ref (ad 0) :: st) σ :=
  z_put C 4 (ty := .int) mM_7 i_Md t_Md t_Md_ok n_Md rfl oM_0 (Nat.le_of_ble_eq_true rfl) rfl rfl rfl rfl rfl (Nat.le_of_ble_eq_true rfl) rfl hd k
set_option maxHeartbeats 4000000 in
set_option maxRecDepth 100000 in
theorem pM_Md_248 {D : va_G} {ad : Nat → Nat} {cA : Nat → ClassId} {X : State → Prop} {p : Program} {l : Launch} {e : Env} {R : Room} {s : State} {m : MethodId} {args : Array Value} {below : List Frame} {meth : Method} {c : Code} {cc : ByteArray} {nL : Nat} {Q : State → Prop} {pc : Nat} {lv : List (Nat × Value)} {st : List Value} {σ : zS} (C : CM D ad cA X p s m args meth c cc "KindRoundsModel" nL) {v : Int32} (hd : decode cc pc = .ok (.putfield 248, 3)) (k : ZM D ad cA p l e R s m args below meth c nL Q (pc + 3) lv st (si σ 7 v)) : ZM D ad cA p l e R s m args below meth c nL Q pc lv (.int v :: .ref (ad 0) :: st) σ :=
  z_put C 7 (ty := .int) mM_9 i_Md t_Md t_Md_ok n_Md rfl oM_0 (Nat.le_of_ble_eq_true rfl) rfl rfl rfl rfl rfl (Nat.le_of_ble_eq_true rfl) rfl hd k
set_option maxHeartbeats 4000000 in
set_option maxRecDepth 100000 in
theorem gM_Md_238 {D : va_G} {ad : Nat → Nat} {cA : Nat → ClassId} {X : State → Prop} {p : Program} {l : Launch} {e : Env} {R : Room} {s : State} {m : MethodId} {args : Array Value} {below : List Frame} {meth : Method} {c : Code} {cc : ByteArray} {nL : Nat} {Q : State → Prop} {pc : Nat} {lv : List (Nat × Value)} {st : List Value} {σ : zS} (C : CM D ad cA X p s m args meth c cc "KindRoundsModel" nL) {v : Int32} (hv : gi σ 5 = v) (hd : decode cc pc = .ok (.getfield 238, 3)) (k : ZM D ad cA p l e R s m args below meth c nL Q (pc + 3) lv (.int v :: st) σ) : ZM D ad cA p l e R s m args below meth c nL Q pc lv (.ref (ad 0) :: st) σ := by
  subst hv
  exact z_get C 5 mM_10 i_Md rfl oM_0 (Nat.le_of_ble_eq_true rfl) rfl rfl hd k
set_option maxHeartbeats 4000000 in
set_option maxRecDepth 100000 in
theorem pM_Md_238 {D : va_G} {ad : Nat → Nat} {cA : Nat → ClassId} {X : State → Prop} {p : Program} {l : Launch} {e : Env} {R : Room} {s : State} {m : MethodId} {args : Array Value} {below : List Frame} {meth : Method} {c : Code} {cc : ByteArray} {nL : Nat} {Q : State → Prop} {pc : Nat} {lv : List (Nat × Value)} {st : List Value} {σ : zS} (C : CM D ad cA X p s m args meth c cc "KindRoundsModel" nL) {v : Int32} (hd : decode cc pc = .ok (.putfield 238, 3)) (k : ZM D ad cA p l e R s m args below meth c nL Q (pc + 3) lv st (si σ 5 v)) : ZM D ad cA p l e R s m args below meth c nL Q pc lv (.int v :: .ref (ad 0) :: st) σ :=
  z_put C 5 (ty := .int) mM_10 i_Md t_Md t_Md_ok n_Md rfl oM_0 (Nat.le_of_ble_eq_true rfl) rfl rfl rfl rfl rfl (Nat.le_of_ble_eq_true rfl) rfl hd k
set_option maxHeartbeats 4000000 in
set_option maxRecDepth 100000 in
theorem gM_Md_255 {D : va_G} {ad : Nat → Nat} {cA : Nat → ClassId} {X : State → Prop} {p : Program} {l : Launch} {e : Env} {R : Room} {s : State} {m : MethodId} {args : Array Value} {below : List Frame} {meth : Method} {c : Code} {cc : ByteArray} {nL : Nat} {Q : State → Prop} {pc : Nat} {lv : List (Nat × Value)} {st : List Value} {σ : zS} (C : CM D ad cA X p s m args meth c cc "KindRoundsModel" nL) {v : Int64} (hv : gl σ 6 = v) (hd : decode cc pc = .ok (.getfield 255, 3)) (k : ZM D ad cA p l e R s m args below meth c nL Q (pc + 3) lv (.long v :: st) σ) : ZM D ad cA p l e R s m args below meth c nL Q pc lv (.ref (ad 0) :: st) σ := by
  subst hv
  exact z_get C 6 mM_13 i_Md rfl oM_0 (Nat.le_of_ble_eq_true rfl) rfl rfl hd k
set_option maxHeartbeats 4000000 in
set_option maxRecDepth 100000 in
theorem pM_Md_255 {D : va_G} {ad : Nat → Nat} {cA : Nat → ClassId} {X : State → Prop} {p : Program} {l : Launch} {e : Env} {R : Room} {s : State} {m : MethodId} {args : Array Value} {below : List Frame} {meth : Method} {c : Code} {cc : ByteArray} {nL : Nat} {Q : State → Prop} {pc : Nat} {lv : List (Nat × Value)} {st : List Value} {σ : zS} (C : CM D ad cA X p s m args meth c cc "KindRoundsModel" nL) {v : Int64} (hd : decode cc pc = .ok (.putfield 255, 3)) (k : ZM D ad cA p l e R s m args below meth c nL Q (pc + 3) lv st (sl σ 6 v)) : ZM D ad cA p l e R s m args below meth c nL Q pc lv (.long v :: .ref (ad 0) :: st) σ :=
  z_put C 6 (ty := .long) mM_13 i_Md t_Md t_Md_ok n_Md rfl oM_0 (Nat.le_of_ble_eq_true rfl) rfl rfl rfl rfl rfl (Nat.le_of_ble_eq_true rfl) rfl hd k
set_option maxHeartbeats 4000000 in
set_option maxRecDepth 100000 in
theorem gM_Md_241 {D : va_G} {ad : Nat → Nat} {cA : Nat → ClassId} {X : State → Prop} {p : Program} {l : Launch} {e : Env} {R : Room} {s : State} {m : MethodId} {args : Array Value} {below : List Frame} {meth : Method} {c : Code} {cc : ByteArray} {nL : Nat} {Q : State → Prop} {pc : Nat} {lv : List (Nat × Value)} {st : List Value} {σ : zS} (C : CM D ad cA X p s m args meth c cc "KindRoundsModel" nL) {v : Int32} (hv : gi σ 4 = v) (hd : decode cc pc = .ok (.getfield 241, 3)) (k : ZM D ad cA p l e R s m args below meth c nL Q (pc + 3) lv (.int v :: st) σ) : ZM D ad cA p l e R s m args below meth c nL Q pc lv (.ref (ad 0) :: st) σ := by
  subst hv
  exact z_get C 4 mM_7 i_Md rfl oM_0 (Nat.le_of_ble_eq_true rfl) rfl rfl hd k
set_option maxHeartbeats 4000000 in
set_option maxRecDepth 100000 in
theorem gM_Md_248 {D : va_G} {ad : Nat → Nat} {cA : Nat → ClassId} {X : State → Prop} {p : Program} {l : Launch} {e : Env} {R : Room} {s : State} {m : MethodId} {args : Array Value} {below : List Frame} {meth : Method} {c : Code} {cc : ByteArray} {nL : Nat} {Q : State → Prop} {pc : Nat} {lv : List (Nat × Value)} {st : List Value} {σ : zS} (C : CM D ad cA X p s m args meth c cc "KindRoundsModel" nL) {v : Int32} (hv : gi σ 7 = v) (hd : decode cc pc = .ok (.getfield 248, 3)) (k : ZM D ad cA p l e R s m args below meth c nL Q (pc + 3) lv (.int v :: st) σ) : ZM D ad cA p l e R s m args below meth c nL Q pc lv (.ref (ad 0) :: st) σ := by
  subst hv
  exact z_get C 7 mM_9 i_Md rfl oM_0 (Nat.le_of_ble_eq_true rfl) rfl rfl hd k
set_option maxHeartbeats 4000000 in
set_option maxRecDepth 100000 in
theorem gM_Md_42 {D : va_G} {ad : Nat → Nat} {cA : Nat → ClassId} {X : State → Prop} {p : Program} {l : Launch} {e : Env} {R : Room} {s : State} {m : MethodId} {args : Array Value} {below : List Frame} {meth : Method} {c : Code} {cc : ByteArray} {nL : Nat} {Q : State → Prop} {pc : Nat} {lv : List (Nat × Value)} {st : List Value} {σ : zS} (C : CM D ad cA X p s m args meth c cc "KindRoundsModel" nL) (hd : decode cc pc = .ok (.getfield 42, 3)) (k : ZM D ad cA p l e R s m args below meth c nL Q (pc + 3) lv (.ref (ad 10) :: st) σ) : ZM D ad cA p l e R s m args below meth c nL Q pc lv (.ref (ad 0) :: st) σ :=
  z_get C 24 mM_22 i_Md rfl oM_0 (Nat.le_of_ble_eq_true rfl) rfl rfl hd k
set_option maxHeartbeats 4000000 in
set_option maxRecDepth 100000 in
theorem gM_Md_279 {D : va_G} {ad : Nat → Nat} {cA : Nat → ClassId} {X : State → Prop} {p : Program} {l : Launch} {e : Env} {R : Room} {s : State} {m : MethodId} {args : Array Value} {below : List Frame} {meth : Method} {c : Code} {cc : ByteArray} {nL : Nat} {Q : State → Prop} {pc : Nat} {lv : List (Nat × Value)} {st : List Value} {σ : zS} (C : CM D ad cA X p s m args meth c cc "KindRoundsModel" nL) {v : Int32} (hv : gi σ 31 = v) (hd : decode cc pc = .ok (.getfield 279, 3)) (k : ZM D ad cA p l e R s m args below meth c nL Q (pc + 3) lv (.int v :: st) σ) : ZM D ad cA p l e R s m args below meth c nL Q pc lv (.ref (ad 0) :: st) σ := by
  subst hv
  exact z_get C 31 mM_23 i_Md rfl oM_0 (Nat.le_of_ble_eq_true rfl) rfl rfl hd k
set_option maxHeartbeats 4000000 in
set_option maxRecDepth 100000 in
theorem alM_10 {D : va_G} {ad : Nat → Nat} {cA : Nat → ClassId} {X : State → Prop} {p : Program} {l : Launch} {e : Env} {R : Room} {s : State} {m : MethodId} {args : Array Value} {below : List Frame} {meth : Method} {c : Code} {cc : ByteArray} {nL : Nat} {Q : State → Prop} {pc : Nat} {lv : List (Nat × Value)} {st : List Value} {σ : zS} {own : String} (C : CM D ad cA X p s m args meth c cc own nL) {i : Int32} {v : Int32} (hv : ga σ 10 i.toNatClampNeg = v) (hin : inb i 1400 = true) (hd : decode cc pc = .ok (.iaload, 1)) (k : ZM D ad cA p l e R s m args below meth c nL Q (pc + 1) lv (.int v :: st) σ) : ZM D ad cA p l e R s m args below meth c nL Q pc lv (.int i :: .ref (ad 10) :: st) σ := by
  subst hv
  exact z_iald C (t0 := 9) (q0 := 10) rfl rfl hin hd k
set_option maxHeartbeats 4000000 in
set_option maxRecDepth 100000 in
theorem asM_10 {D : va_G} {ad : Nat → Nat} {cA : Nat → ClassId} {X : State → Prop} {p : Program} {l : Launch} {e : Env} {R : Room} {s : State} {m : MethodId} {args : Array Value} {below : List Frame} {meth : Method} {c : Code} {cc : ByteArray} {nL : Nat} {Q : State → Prop} {pc : Nat} {lv : List (Nat × Value)} {st : List Value} {σ : zS} {own : String} (C : CM D ad cA X p s m args meth c cc own nL) {i : Int32} {v : Int32} (hin : inb i 1400 = true) (hd : decode cc pc = .ok (.iastore, 1)) (k : ZM D ad cA p l e R s m args below meth c nL Q (pc + 1) lv st (sa σ 10 i.toNatClampNeg v)) : ZM D ad cA p l e R s m args below meth c nL Q pc lv (.int v :: .int i :: .ref (ad 10) :: st) σ :=
  z_iast C (t0 := 9) (q0 := 10) rfl rfl hin rfl hd k
set_option maxHeartbeats 4000000 in
set_option maxRecDepth 100000 in
theorem gM_Md_45 {D : va_G} {ad : Nat → Nat} {cA : Nat → ClassId} {X : State → Prop} {p : Program} {l : Launch} {e : Env} {R : Room} {s : State} {m : MethodId} {args : Array Value} {below : List Frame} {meth : Method} {c : Code} {cc : ByteArray} {nL : Nat} {Q : State → Prop} {pc : Nat} {lv : List (Nat × Value)} {st : List Value} {σ : zS} (C : CM D ad cA X p s m args meth c cc "KindRoundsModel" nL) (hd : decode cc pc = .ok (.getfield 45, 3)) (k : ZM D ad cA p l e R s m args below meth c nL Q (pc + 3) lv (.ref (ad 11) :: st) σ) : ZM D ad cA p l e R s m args below meth c nL Q pc lv (.ref (ad 0) :: st) σ :=
  z_get C 25 mM_24 i_Md rfl oM_0 (Nat.le_of_ble_eq_true rfl) rfl rfl hd k
set_option maxHeartbeats 4000000 in
set_option maxRecDepth 100000 in
theorem alM_11 {D : va_G} {ad : Nat → Nat} {cA : Nat → ClassId} {X : State → Prop} {p : Program} {l : Launch} {e : Env} {R : Room} {s : State} {m : MethodId} {args : Array Value} {below : List Frame} {meth : Method} {c : Code} {cc : ByteArray} {nL : Nat} {Q : State → Prop} {pc : Nat} {lv : List (Nat × Value)} {st : List Value} {σ : zS} {own : String} (C : CM D ad cA X p s m args meth c cc own nL) {i : Int32} {v : Int64} (hv : gb σ 11 i.toNatClampNeg = v) (hin : inb i 1400 = true) (hd : decode cc pc = .ok (.laload, 1)) (k : ZM D ad cA p l e R s m args below meth c nL Q (pc + 1) lv (.long v :: st) σ) : ZM D ad cA p l e R s m args below meth c nL Q pc lv (.int i :: .ref (ad 11) :: st) σ := by
  subst hv
  exact z_lald C (t0 := 10) (q0 := 11) rfl rfl hin hd k
set_option maxHeartbeats 4000000 in
set_option maxRecDepth 100000 in
theorem asM_11 {D : va_G} {ad : Nat → Nat} {cA : Nat → ClassId} {X : State → Prop} {p : Program} {l : Launch} {e : Env} {R : Room} {s : State} {m : MethodId} {args : Array Value} {below : List Frame} {meth : Method} {c : Code} {cc : ByteArray} {nL : Nat} {Q : State → Prop} {pc : Nat} {lv : List (Nat × Value)} {st : List Value} {σ : zS} {own : String} (C : CM D ad cA X p s m args meth c cc own nL) {i : Int32} {v : Int64} (hin : inb i 1400 = true) (hd : decode cc pc = .ok (.lastore, 1)) (k : ZM D ad cA p l e R s m args below meth c nL Q (pc + 1) lv st (sb σ 11 i.toNatClampNeg v)) : ZM D ad cA p l e R s m args below meth c nL Q pc lv (.long v :: .int i :: .ref (ad 11) :: st) σ :=
  z_last C (t0 := 10) (q0 := 11) rfl rfl hin rfl hd k
set_option maxHeartbeats 4000000 in
set_option maxRecDepth 100000 in
theorem gM_Md_48 {D : va_G} {ad : Nat → Nat} {cA : Nat → ClassId} {X : State → Prop} {p : Program} {l : Launch} {e : Env} {R : Room} {s : State} {m : MethodId} {args : Array Value} {below : List Frame} {meth : Method} {c : Code} {cc : ByteArray} {nL : Nat} {Q : State → Prop} {pc : Nat} {lv : List (Nat × Value)} {st : List Value} {σ : zS} (C : CM D ad cA X p s m args meth c cc "KindRoundsModel" nL) (hd : decode cc pc = .ok (.getfield 48, 3)) (k : ZM D ad cA p l e R s m args below meth c nL Q (pc + 3) lv (.ref (ad 12) :: st) σ) : ZM D ad cA p l e R s m args below meth c nL Q pc lv (.ref (ad 0) :: st) σ :=
  z_get C 26 mM_25 i_Md rfl oM_0 (Nat.le_of_ble_eq_true rfl) rfl rfl hd k
set_option maxHeartbeats 4000000 in
set_option maxRecDepth 100000 in
theorem alM_12 {D : va_G} {ad : Nat → Nat} {cA : Nat → ClassId} {X : State → Prop} {p : Program} {l : Launch} {e : Env} {R : Room} {s : State} {m : MethodId} {args : Array Value} {below : List Frame} {meth : Method} {c : Code} {cc : ByteArray} {nL : Nat} {Q : State → Prop} {pc : Nat} {lv : List (Nat × Value)} {st : List Value} {σ : zS} {own : String} (C : CM D ad cA X p s m args meth c cc own nL) {i : Int32} {v : Int32} (hv : ga σ 12 i.toNatClampNeg = v) (hin : inb i 1400 = true) (hd : decode cc pc = .ok (.iaload, 1)) (k : ZM D ad cA p l e R s m args below meth c nL Q (pc + 1) lv (.int v :: st) σ) : ZM D ad cA p l e R s m args below meth c nL Q pc lv (.int i :: .ref (ad 12) :: st) σ := by
  subst hv
  exact z_iald C (t0 := 11) (q0 := 12) rfl rfl hin hd k
set_option maxHeartbeats 4000000 in
set_option maxRecDepth 100000 in
theorem asM_12 {D : va_G} {ad : Nat → Nat} {cA : Nat → ClassId} {X : State → Prop} {p : Program} {l : Launch} {e : Env} {R : Room} {s : State} {m : MethodId} {args : Array Value} {below : List Frame} {meth : Method} {c : Code} {cc : ByteArray} {nL : Nat} {Q : State → Prop} {pc : Nat} {lv : List (Nat × Value)} {st : List Value} {σ : zS} {own : String} (C : CM D ad cA X p s m args meth c cc own nL) {i : Int32} {v : Int32} (hin : inb i 1400 = true) (hd : decode cc pc = .ok (.iastore, 1)) (k : ZM D ad cA p l e R s m args below meth c nL Q (pc + 1) lv st (sa σ 12 i.toNatClampNeg v)) : ZM D ad cA p l e R s m args below meth c nL Q pc lv (.int v :: .int i :: .ref (ad 12) :: st) σ :=
  z_iast C (t0 := 11) (q0 := 12) rfl rfl hin rfl hd k
set_option maxHeartbeats 4000000 in
set_option maxRecDepth 100000 in
theorem gM_Md_51 {D : va_G} {ad : Nat → Nat} {cA : Nat → ClassId} {X : State → Prop} {p : Program} {l : Launch} {e : Env} {R : Room} {s : State} {m : MethodId} {args : Array Value} {below : List Frame} {meth : Method} {c : Code} {cc : ByteArray} {nL : Nat} {Q : State → Prop} {pc : Nat} {lv : List (Nat × Value)} {st : List Value} {σ : zS} (C : CM D ad cA X p s m args meth c cc "KindRoundsModel" nL) (hd : decode cc pc = .ok (.getfield 51, 3)) (k : ZM D ad cA p l e R s m args below meth c nL Q (pc + 3) lv (.ref (ad 13) :: st) σ) : ZM D ad cA p l e R s m args below meth c nL Q pc lv (.ref (ad 0) :: st) σ :=
  z_get C 27 mM_26 i_Md rfl oM_0 (Nat.le_of_ble_eq_true rfl) rfl rfl hd k
set_option maxHeartbeats 4000000 in
set_option maxRecDepth 100000 in
theorem gM_Md_282 {D : va_G} {ad : Nat → Nat} {cA : Nat → ClassId} {X : State → Prop} {p : Program} {l : Launch} {e : Env} {R : Room} {s : State} {m : MethodId} {args : Array Value} {below : List Frame} {meth : Method} {c : Code} {cc : ByteArray} {nL : Nat} {Q : State → Prop} {pc : Nat} {lv : List (Nat × Value)} {st : List Value} {σ : zS} (C : CM D ad cA X p s m args meth c cc "KindRoundsModel" nL) {v : Int32} (hv : gi σ 32 = v) (hd : decode cc pc = .ok (.getfield 282, 3)) (k : ZM D ad cA p l e R s m args below meth c nL Q (pc + 3) lv (.int v :: st) σ) : ZM D ad cA p l e R s m args below meth c nL Q pc lv (.ref (ad 0) :: st) σ := by
  subst hv
  exact z_get C 32 mM_27 i_Md rfl oM_0 (Nat.le_of_ble_eq_true rfl) rfl rfl hd k
set_option maxHeartbeats 4000000 in
set_option maxRecDepth 100000 in
theorem alM_13 {D : va_G} {ad : Nat → Nat} {cA : Nat → ClassId} {X : State → Prop} {p : Program} {l : Launch} {e : Env} {R : Room} {s : State} {m : MethodId} {args : Array Value} {below : List Frame} {meth : Method} {c : Code} {cc : ByteArray} {nL : Nat} {Q : State → Prop} {pc : Nat} {lv : List (Nat × Value)} {st : List Value} {σ : zS} {own : String} (C : CM D ad cA X p s m args meth c cc own nL) {i : Int32} {v : Int32} (hv : ga σ 13 i.toNatClampNeg = v) (hin : inb i 1400 = true) (hd : decode cc pc = .ok (.iaload, 1)) (k : ZM D ad cA p l e R s m args below meth c nL Q (pc + 1) lv (.int v :: st) σ) : ZM D ad cA p l e R s m args below meth c nL Q pc lv (.int i :: .ref (ad 13) :: st) σ := by
  subst hv
  exact z_iald C (t0 := 12) (q0 := 13) rfl rfl hin hd k
set_option maxHeartbeats 4000000 in
set_option maxRecDepth 100000 in
theorem asM_13 {D : va_G} {ad : Nat → Nat} {cA : Nat → ClassId} {X : State → Prop} {p : Program} {l : Launch} {e : Env} {R : Room} {s : State} {m : MethodId} {args : Array Value} {below : List Frame} {meth : Method} {c : Code} {cc : ByteArray} {nL : Nat} {Q : State → Prop} {pc : Nat} {lv : List (Nat × Value)} {st : List Value} {σ : zS} {own : String} (C : CM D ad cA X p s m args meth c cc own nL) {i : Int32} {v : Int32} (hin : inb i 1400 = true) (hd : decode cc pc = .ok (.iastore, 1)) (k : ZM D ad cA p l e R s m args below meth c nL Q (pc + 1) lv st (sa σ 13 i.toNatClampNeg v)) : ZM D ad cA p l e R s m args below meth c nL Q pc lv (.int v :: .int i :: .ref (ad 13) :: st) σ :=
  z_iast C (t0 := 12) (q0 := 13) rfl rfl hin rfl hd k
set_option maxHeartbeats 4000000 in
set_option maxRecDepth 100000 in
theorem gM_Md_54 {D : va_G} {ad : Nat → Nat} {cA : Nat → ClassId} {X : State → Prop} {p : Program} {l : Launch} {e : Env} {R : Room} {s : State} {m : MethodId} {args : Array Value} {below : List Frame} {meth : Method} {c : Code} {cc : ByteArray} {nL : Nat} {Q : State → Prop} {pc : Nat} {lv : List (Nat × Value)} {st : List Value} {σ : zS} (C : CM D ad cA X p s m args meth c cc "KindRoundsModel" nL) (hd : decode cc pc = .ok (.getfield 54, 3)) (k : ZM D ad cA p l e R s m args below meth c nL Q (pc + 3) lv (.ref (ad 14) :: st) σ) : ZM D ad cA p l e R s m args below meth c nL Q pc lv (.ref (ad 0) :: st) σ :=
  z_get C 28 mM_28 i_Md rfl oM_0 (Nat.le_of_ble_eq_true rfl) rfl rfl hd k
set_option maxHeartbeats 4000000 in
set_option maxRecDepth 100000 in
theorem alM_14 {D : va_G} {ad : Nat → Nat} {cA : Nat → ClassId} {X : State → Prop} {p : Program} {l : Launch} {e : Env} {R : Room} {s : State} {m : MethodId} {args : Array Value} {below : List Frame} {meth : Method} {c : Code} {cc : ByteArray} {nL : Nat} {Q : State → Prop} {pc : Nat} {lv : List (Nat × Value)} {st : List Value} {σ : zS} {own : String} (C : CM D ad cA X p s m args meth c cc own nL) {i : Int32} {v : Int32} (hv : ga σ 14 i.toNatClampNeg = v) (hin : inb i 1400 = true) (hd : decode cc pc = .ok (.iaload, 1)) (k : ZM D ad cA p l e R s m args below meth c nL Q (pc + 1) lv (.int v :: st) σ) : ZM D ad cA p l e R s m args below meth c nL Q pc lv (.int i :: .ref (ad 14) :: st) σ := by
  subst hv
  exact z_iald C (t0 := 13) (q0 := 14) rfl rfl hin hd k
set_option maxHeartbeats 4000000 in
set_option maxRecDepth 100000 in
theorem asM_14 {D : va_G} {ad : Nat → Nat} {cA : Nat → ClassId} {X : State → Prop} {p : Program} {l : Launch} {e : Env} {R : Room} {s : State} {m : MethodId} {args : Array Value} {below : List Frame} {meth : Method} {c : Code} {cc : ByteArray} {nL : Nat} {Q : State → Prop} {pc : Nat} {lv : List (Nat × Value)} {st : List Value} {σ : zS} {own : String} (C : CM D ad cA X p s m args meth c cc own nL) {i : Int32} {v : Int32} (hin : inb i 1400 = true) (hd : decode cc pc = .ok (.iastore, 1)) (k : ZM D ad cA p l e R s m args below meth c nL Q (pc + 1) lv st (sa σ 14 i.toNatClampNeg v)) : ZM D ad cA p l e R s m args below meth c nL Q pc lv (.int v :: .int i :: .ref (ad 14) :: st) σ :=
  z_iast C (t0 := 13) (q0 := 14) rfl rfl hin rfl hd k
set_option maxHeartbeats 4000000 in
set_option maxRecDepth 100000 in
theorem gM_Md_57 {D : va_G} {ad : Nat → Nat} {cA : Nat → ClassId} {X : State → Prop} {p : Program} {l : Launch} {e : Env} {R : Room} {s : State} {m : MethodId} {args : Array Value} {below : List Frame} {meth : Method} {c : Code} {cc : ByteArray} {nL : Nat} {Q : State → Prop} {pc : Nat} {lv : List (Nat × Value)} {st : List Value} {σ : zS} (C : CM D ad cA X p s m args meth c cc "KindRoundsModel" nL) (hd : decode cc pc = .ok (.getfield 57, 3)) (k : ZM D ad cA p l e R s m args below meth c nL Q (pc + 3) lv (.ref (ad 15) :: st) σ) : ZM D ad cA p l e R s m args below meth c nL Q pc lv (.ref (ad 0) :: st) σ :=
  z_get C 29 mM_29 i_Md rfl oM_0 (Nat.le_of_ble_eq_true rfl) rfl rfl hd k
set_option maxHeartbeats 4000000 in
set_option maxRecDepth 100000 in
theorem alM_15 {D : va_G} {ad : Nat → Nat} {cA : Nat → ClassId} {X : State → Prop} {p : Program} {l : Launch} {e : Env} {R : Room} {s : State} {m : MethodId} {args : Array Value} {below : List Frame} {meth : Method} {c : Code} {cc : ByteArray} {nL : Nat} {Q : State → Prop} {pc : Nat} {lv : List (Nat × Value)} {st : List Value} {σ : zS} {own : String} (C : CM D ad cA X p s m args meth c cc own nL) {i : Int32} {v : Int32} (hv : ga σ 15 i.toNatClampNeg = v) (hin : inb i 1400 = true) (hd : decode cc pc = .ok (.baload, 1)) (k : ZM D ad cA p l e R s m args below meth c nL Q (pc + 1) lv (.int v :: st) σ) : ZM D ad cA p l e R s m args below meth c nL Q pc lv (.int i :: .ref (ad 15) :: st) σ := by
  subst hv
  exact z_zald C (t0 := 14) (q0 := 15) rfl rfl hin hd k
set_option maxHeartbeats 4000000 in
set_option maxRecDepth 100000 in
theorem asM_15 {D : va_G} {ad : Nat → Nat} {cA : Nat → ClassId} {X : State → Prop} {p : Program} {l : Launch} {e : Env} {R : Room} {s : State} {m : MethodId} {args : Array Value} {below : List Frame} {meth : Method} {c : Code} {cc : ByteArray} {nL : Nat} {Q : State → Prop} {pc : Nat} {lv : List (Nat × Value)} {st : List Value} {σ : zS} {own : String} (C : CM D ad cA X p s m args meth c cc own nL) {i : Int32} {v : Int32} (hin : inb i 1400 = true) (hd : decode cc pc = .ok (.bastore, 1)) (k : ZM D ad cA p l e R s m args below meth c nL Q (pc + 1) lv st (sa σ 15 i.toNatClampNeg (vp_nar .boolean v))) : ZM D ad cA p l e R s m args below meth c nL Q pc lv (.int v :: .int i :: .ref (ad 15) :: st) σ :=
  z_zast C (t0 := 14) (q0 := 15) rfl rfl hin rfl hd k
set_option maxHeartbeats 4000000 in
set_option maxRecDepth 100000 in
theorem gM_Md_61 {D : va_G} {ad : Nat → Nat} {cA : Nat → ClassId} {X : State → Prop} {p : Program} {l : Launch} {e : Env} {R : Room} {s : State} {m : MethodId} {args : Array Value} {below : List Frame} {meth : Method} {c : Code} {cc : ByteArray} {nL : Nat} {Q : State → Prop} {pc : Nat} {lv : List (Nat × Value)} {st : List Value} {σ : zS} (C : CM D ad cA X p s m args meth c cc "KindRoundsModel" nL) (hd : decode cc pc = .ok (.getfield 61, 3)) (k : ZM D ad cA p l e R s m args below meth c nL Q (pc + 3) lv (.ref (ad 16) :: st) σ) : ZM D ad cA p l e R s m args below meth c nL Q pc lv (.ref (ad 0) :: st) σ :=
  z_get C 30 mM_30 i_Md rfl oM_0 (Nat.le_of_ble_eq_true rfl) rfl rfl hd k
set_option maxHeartbeats 4000000 in
set_option maxRecDepth 100000 in
theorem alM_16 {D : va_G} {ad : Nat → Nat} {cA : Nat → ClassId} {X : State → Prop} {p : Program} {l : Launch} {e : Env} {R : Room} {s : State} {m : MethodId} {args : Array Value} {below : List Frame} {meth : Method} {c : Code} {cc : ByteArray} {nL : Nat} {Q : State → Prop} {pc : Nat} {lv : List (Nat × Value)} {st : List Value} {σ : zS} {own : String} (C : CM D ad cA X p s m args meth c cc own nL) {i : Int32} {v : Int32} (hv : ga σ 16 i.toNatClampNeg = v) (hin : inb i 1400 = true) (hd : decode cc pc = .ok (.iaload, 1)) (k : ZM D ad cA p l e R s m args below meth c nL Q (pc + 1) lv (.int v :: st) σ) : ZM D ad cA p l e R s m args below meth c nL Q pc lv (.int i :: .ref (ad 16) :: st) σ := by
  subst hv
  exact z_iald C (t0 := 15) (q0 := 16) rfl rfl hin hd k
set_option maxHeartbeats 4000000 in
set_option maxRecDepth 100000 in
theorem asM_16 {D : va_G} {ad : Nat → Nat} {cA : Nat → ClassId} {X : State → Prop} {p : Program} {l : Launch} {e : Env} {R : Room} {s : State} {m : MethodId} {args : Array Value} {below : List Frame} {meth : Method} {c : Code} {cc : ByteArray} {nL : Nat} {Q : State → Prop} {pc : Nat} {lv : List (Nat × Value)} {st : List Value} {σ : zS} {own : String} (C : CM D ad cA X p s m args meth c cc own nL) {i : Int32} {v : Int32} (hin : inb i 1400 = true) (hd : decode cc pc = .ok (.iastore, 1)) (k : ZM D ad cA p l e R s m args below meth c nL Q (pc + 1) lv st (sa σ 16 i.toNatClampNeg v)) : ZM D ad cA p l e R s m args below meth c nL Q pc lv (.int v :: .int i :: .ref (ad 16) :: st) σ :=
  z_iast C (t0 := 15) (q0 := 16) rfl rfl hin rfl hd k
set_option maxHeartbeats 4000000 in
set_option maxRecDepth 100000 in
theorem pM_Md_279 {D : va_G} {ad : Nat → Nat} {cA : Nat → ClassId} {X : State → Prop} {p : Program} {l : Launch} {e : Env} {R : Room} {s : State} {m : MethodId} {args : Array Value} {below : List Frame} {meth : Method} {c : Code} {cc : ByteArray} {nL : Nat} {Q : State → Prop} {pc : Nat} {lv : List (Nat × Value)} {st : List Value} {σ : zS} (C : CM D ad cA X p s m args meth c cc "KindRoundsModel" nL) {v : Int32} (hd : decode cc pc = .ok (.putfield 279, 3)) (k : ZM D ad cA p l e R s m args below meth c nL Q (pc + 3) lv st (si σ 31 v)) : ZM D ad cA p l e R s m args below meth c nL Q pc lv (.int v :: .ref (ad 0) :: st) σ :=
  z_put C 31 (ty := .int) mM_23 i_Md t_Md t_Md_ok n_Md rfl oM_0 (Nat.le_of_ble_eq_true rfl) rfl rfl rfl rfl rfl (Nat.le_of_ble_eq_true rfl) rfl hd k
set_option maxHeartbeats 4000000 in
set_option maxRecDepth 100000 in
theorem gM_Md_33 {D : va_G} {ad : Nat → Nat} {cA : Nat → ClassId} {X : State → Prop} {p : Program} {l : Launch} {e : Env} {R : Room} {s : State} {m : MethodId} {args : Array Value} {below : List Frame} {meth : Method} {c : Code} {cc : ByteArray} {nL : Nat} {Q : State → Prop} {pc : Nat} {lv : List (Nat × Value)} {st : List Value} {σ : zS} (C : CM D ad cA X p s m args meth c cc "KindRoundsModel" nL) (hd : decode cc pc = .ok (.getfield 33, 3)) (k : ZM D ad cA p l e R s m args below meth c nL Q (pc + 3) lv (.ref (ad 7) :: st) σ) : ZM D ad cA p l e R s m args below meth c nL Q pc lv (.ref (ad 0) :: st) σ :=
  z_get C 20 mM_31 i_Md rfl oM_0 (Nat.le_of_ble_eq_true rfl) rfl rfl hd k
set_option maxHeartbeats 4000000 in
set_option maxRecDepth 100000 in
theorem gM_Md_285 {D : va_G} {ad : Nat → Nat} {cA : Nat → ClassId} {X : State → Prop} {p : Program} {l : Launch} {e : Env} {R : Room} {s : State} {m : MethodId} {args : Array Value} {below : List Frame} {meth : Method} {c : Code} {cc : ByteArray} {nL : Nat} {Q : State → Prop} {pc : Nat} {lv : List (Nat × Value)} {st : List Value} {σ : zS} (C : CM D ad cA X p s m args meth c cc "KindRoundsModel" nL) {v : Int32} (hv : gi σ 23 = v) (hd : decode cc pc = .ok (.getfield 285, 3)) (k : ZM D ad cA p l e R s m args below meth c nL Q (pc + 3) lv (.int v :: st) σ) : ZM D ad cA p l e R s m args below meth c nL Q pc lv (.ref (ad 0) :: st) σ := by
  subst hv
  exact z_get C 23 mM_32 i_Md rfl oM_0 (Nat.le_of_ble_eq_true rfl) rfl rfl hd k
set_option maxHeartbeats 4000000 in
set_option maxRecDepth 100000 in
theorem alM_7 {D : va_G} {ad : Nat → Nat} {cA : Nat → ClassId} {X : State → Prop} {p : Program} {l : Launch} {e : Env} {R : Room} {s : State} {m : MethodId} {args : Array Value} {below : List Frame} {meth : Method} {c : Code} {cc : ByteArray} {nL : Nat} {Q : State → Prop} {pc : Nat} {lv : List (Nat × Value)} {st : List Value} {σ : zS} {own : String} (C : CM D ad cA X p s m args meth c cc own nL) {i : Int32} {v : Int32} (hv : ga σ 7 i.toNatClampNeg = v) (hin : inb i 1600 = true) (hd : decode cc pc = .ok (.iaload, 1)) (k : ZM D ad cA p l e R s m args below meth c nL Q (pc + 1) lv (.int v :: st) σ) : ZM D ad cA p l e R s m args below meth c nL Q pc lv (.int i :: .ref (ad 7) :: st) σ := by
  subst hv
  exact z_iald C (t0 := 6) (q0 := 7) rfl rfl hin hd k
set_option maxHeartbeats 4000000 in
set_option maxRecDepth 100000 in
theorem asM_7 {D : va_G} {ad : Nat → Nat} {cA : Nat → ClassId} {X : State → Prop} {p : Program} {l : Launch} {e : Env} {R : Room} {s : State} {m : MethodId} {args : Array Value} {below : List Frame} {meth : Method} {c : Code} {cc : ByteArray} {nL : Nat} {Q : State → Prop} {pc : Nat} {lv : List (Nat × Value)} {st : List Value} {σ : zS} {own : String} (C : CM D ad cA X p s m args meth c cc own nL) {i : Int32} {v : Int32} (hin : inb i 1600 = true) (hd : decode cc pc = .ok (.iastore, 1)) (k : ZM D ad cA p l e R s m args below meth c nL Q (pc + 1) lv st (sa σ 7 i.toNatClampNeg v)) : ZM D ad cA p l e R s m args below meth c nL Q pc lv (.int v :: .int i :: .ref (ad 7) :: st) σ :=
  z_iast C (t0 := 6) (q0 := 7) rfl rfl hin rfl hd k
set_option maxHeartbeats 4000000 in
set_option maxRecDepth 100000 in
theorem gM_Md_36 {D : va_G} {ad : Nat → Nat} {cA : Nat → ClassId} {X : State → Prop} {p : Program} {l : Launch} {e : Env} {R : Room} {s : State} {m : MethodId} {args : Array Value} {below : List Frame} {meth : Method} {c : Code} {cc : ByteArray} {nL : Nat} {Q : State → Prop} {pc : Nat} {lv : List (Nat × Value)} {st : List Value} {σ : zS} (C : CM D ad cA X p s m args meth c cc "KindRoundsModel" nL) (hd : decode cc pc = .ok (.getfield 36, 3)) (k : ZM D ad cA p l e R s m args below meth c nL Q (pc + 3) lv (.ref (ad 8) :: st) σ) : ZM D ad cA p l e R s m args below meth c nL Q pc lv (.ref (ad 0) :: st) σ :=
  z_get C 21 mM_33 i_Md rfl oM_0 (Nat.le_of_ble_eq_true rfl) rfl rfl hd k
set_option maxHeartbeats 4000000 in
set_option maxRecDepth 100000 in
theorem alM_8 {D : va_G} {ad : Nat → Nat} {cA : Nat → ClassId} {X : State → Prop} {p : Program} {l : Launch} {e : Env} {R : Room} {s : State} {m : MethodId} {args : Array Value} {below : List Frame} {meth : Method} {c : Code} {cc : ByteArray} {nL : Nat} {Q : State → Prop} {pc : Nat} {lv : List (Nat × Value)} {st : List Value} {σ : zS} {own : String} (C : CM D ad cA X p s m args meth c cc own nL) {i : Int32} {v : Int32} (hv : ga σ 8 i.toNatClampNeg = v) (hin : inb i 1600 = true) (hd : decode cc pc = .ok (.iaload, 1)) (k : ZM D ad cA p l e R s m args below meth c nL Q (pc + 1) lv (.int v :: st) σ) : ZM D ad cA p l e R s m args below meth c nL Q pc lv (.int i :: .ref (ad 8) :: st) σ := by
  subst hv
  exact z_iald C (t0 := 7) (q0 := 8) rfl rfl hin hd k
set_option maxHeartbeats 4000000 in
set_option maxRecDepth 100000 in
theorem asM_8 {D : va_G} {ad : Nat → Nat} {cA : Nat → ClassId} {X : State → Prop} {p : Program} {l : Launch} {e : Env} {R : Room} {s : State} {m : MethodId} {args : Array Value} {below : List Frame} {meth : Method} {c : Code} {cc : ByteArray} {nL : Nat} {Q : State → Prop} {pc : Nat} {lv : List (Nat × Value)} {st : List Value} {σ : zS} {own : String} (C : CM D ad cA X p s m args meth c cc own nL) {i : Int32} {v : Int32} (hin : inb i 1600 = true) (hd : decode cc pc = .ok (.iastore, 1)) (k : ZM D ad cA p l e R s m args below meth c nL Q (pc + 1) lv st (sa σ 8 i.toNatClampNeg v)) : ZM D ad cA p l e R s m args below meth c nL Q pc lv (.int v :: .int i :: .ref (ad 8) :: st) σ :=
  z_iast C (t0 := 7) (q0 := 8) rfl rfl hin rfl hd k
set_option maxHeartbeats 4000000 in
set_option maxRecDepth 100000 in
theorem gM_Md_39 {D : va_G} {ad : Nat → Nat} {cA : Nat → ClassId} {X : State → Prop} {p : Program} {l : Launch} {e : Env} {R : Room} {s : State} {m : MethodId} {args : Array Value} {below : List Frame} {meth : Method} {c : Code} {cc : ByteArray} {nL : Nat} {Q : State → Prop} {pc : Nat} {lv : List (Nat × Value)} {st : List Value} {σ : zS} (C : CM D ad cA X p s m args meth c cc "KindRoundsModel" nL) (hd : decode cc pc = .ok (.getfield 39, 3)) (k : ZM D ad cA p l e R s m args below meth c nL Q (pc + 3) lv (.ref (ad 9) :: st) σ) : ZM D ad cA p l e R s m args below meth c nL Q pc lv (.ref (ad 0) :: st) σ :=
  z_get C 22 mM_34 i_Md rfl oM_0 (Nat.le_of_ble_eq_true rfl) rfl rfl hd k
set_option maxHeartbeats 4000000 in
set_option maxRecDepth 100000 in
theorem alM_9 {D : va_G} {ad : Nat → Nat} {cA : Nat → ClassId} {X : State → Prop} {p : Program} {l : Launch} {e : Env} {R : Room} {s : State} {m : MethodId} {args : Array Value} {below : List Frame} {meth : Method} {c : Code} {cc : ByteArray} {nL : Nat} {Q : State → Prop} {pc : Nat} {lv : List (Nat × Value)} {st : List Value} {σ : zS} {own : String} (C : CM D ad cA X p s m args meth c cc own nL) {i : Int32} {v : Int32} (hv : ga σ 9 i.toNatClampNeg = v) (hin : inb i 1600 = true) (hd : decode cc pc = .ok (.iaload, 1)) (k : ZM D ad cA p l e R s m args below meth c nL Q (pc + 1) lv (.int v :: st) σ) : ZM D ad cA p l e R s m args below meth c nL Q pc lv (.int i :: .ref (ad 9) :: st) σ := by
  subst hv
  exact z_iald C (t0 := 8) (q0 := 9) rfl rfl hin hd k
set_option maxHeartbeats 4000000 in
set_option maxRecDepth 100000 in
theorem asM_9 {D : va_G} {ad : Nat → Nat} {cA : Nat → ClassId} {X : State → Prop} {p : Program} {l : Launch} {e : Env} {R : Room} {s : State} {m : MethodId} {args : Array Value} {below : List Frame} {meth : Method} {c : Code} {cc : ByteArray} {nL : Nat} {Q : State → Prop} {pc : Nat} {lv : List (Nat × Value)} {st : List Value} {σ : zS} {own : String} (C : CM D ad cA X p s m args meth c cc own nL) {i : Int32} {v : Int32} (hin : inb i 1600 = true) (hd : decode cc pc = .ok (.iastore, 1)) (k : ZM D ad cA p l e R s m args below meth c nL Q (pc + 1) lv st (sa σ 9 i.toNatClampNeg v)) : ZM D ad cA p l e R s m args below meth c nL Q pc lv (.int v :: .int i :: .ref (ad 9) :: st) σ :=
  z_iast C (t0 := 8) (q0 := 9) rfl rfl hin rfl hd k
set_option maxHeartbeats 4000000 in
set_option maxRecDepth 100000 in
theorem pM_Md_285 {D : va_G} {ad : Nat → Nat} {cA : Nat → ClassId} {X : State → Prop} {p : Program} {l : Launch} {e : Env} {R : Room} {s : State} {m : MethodId} {args : Array Value} {below : List Frame} {meth : Method} {c : Code} {cc : ByteArray} {nL : Nat} {Q : State → Prop} {pc : Nat} {lv : List (Nat × Value)} {st : List Value} {σ : zS} (C : CM D ad cA X p s m args meth c cc "KindRoundsModel" nL) {v : Int32} (hd : decode cc pc = .ok (.putfield 285, 3)) (k : ZM D ad cA p l e R s m args below meth c nL Q (pc + 3) lv st (si σ 23 v)) : ZM D ad cA p l e R s m args below meth c nL Q pc lv (.int v :: .ref (ad 0) :: st) σ :=
  z_put C 23 (ty := .int) mM_32 i_Md t_Md t_Md_ok n_Md rfl oM_0 (Nat.le_of_ble_eq_true rfl) rfl rfl rfl rfl rfl (Nat.le_of_ble_eq_true rfl) rfl hd k
set_option maxHeartbeats 4000000 in
set_option maxRecDepth 100000 in
theorem gM_Md_17 {D : va_G} {ad : Nat → Nat} {cA : Nat → ClassId} {X : State → Prop} {p : Program} {l : Launch} {e : Env} {R : Room} {s : State} {m : MethodId} {args : Array Value} {below : List Frame} {meth : Method} {c : Code} {cc : ByteArray} {nL : Nat} {Q : State → Prop} {pc : Nat} {lv : List (Nat × Value)} {st : List Value} {σ : zS} (C : CM D ad cA X p s m args meth c cc "KindRoundsModel" nL) (hd : decode cc pc = .ok (.getfield 17, 3)) (k : ZM D ad cA p l e R s m args below meth c nL Q (pc + 3) lv (.ref (ad 2) :: st) σ) : ZM D ad cA p l e R s m args below meth c nL Q pc lv (.ref (ad 0) :: st) σ :=
  z_get C 11 mM_35 i_Md rfl oM_0 (Nat.le_of_ble_eq_true rfl) rfl rfl hd k
set_option maxHeartbeats 4000000 in
set_option maxRecDepth 100000 in
theorem gM_Md_288 {D : va_G} {ad : Nat → Nat} {cA : Nat → ClassId} {X : State → Prop} {p : Program} {l : Launch} {e : Env} {R : Room} {s : State} {m : MethodId} {args : Array Value} {below : List Frame} {meth : Method} {c : Code} {cc : ByteArray} {nL : Nat} {Q : State → Prop} {pc : Nat} {lv : List (Nat × Value)} {st : List Value} {σ : zS} (C : CM D ad cA X p s m args meth c cc "KindRoundsModel" nL) {v : Int32} (hv : gi σ 16 = v) (hd : decode cc pc = .ok (.getfield 288, 3)) (k : ZM D ad cA p l e R s m args below meth c nL Q (pc + 3) lv (.int v :: st) σ) : ZM D ad cA p l e R s m args below meth c nL Q pc lv (.ref (ad 0) :: st) σ := by
  subst hv
  exact z_get C 16 mM_36 i_Md rfl oM_0 (Nat.le_of_ble_eq_true rfl) rfl rfl hd k
set_option maxHeartbeats 4000000 in
set_option maxRecDepth 100000 in
theorem alM_2 {D : va_G} {ad : Nat → Nat} {cA : Nat → ClassId} {X : State → Prop} {p : Program} {l : Launch} {e : Env} {R : Room} {s : State} {m : MethodId} {args : Array Value} {below : List Frame} {meth : Method} {c : Code} {cc : ByteArray} {nL : Nat} {Q : State → Prop} {pc : Nat} {lv : List (Nat × Value)} {st : List Value} {σ : zS} {own : String} (C : CM D ad cA X p s m args meth c cc own nL) {i : Int32} {v : Int32} (hv : ga σ 2 i.toNatClampNeg = v) (hin : inb i 1000 = true) (hd : decode cc pc = .ok (.iaload, 1)) (k : ZM D ad cA p l e R s m args below meth c nL Q (pc + 1) lv (.int v :: st) σ) : ZM D ad cA p l e R s m args below meth c nL Q pc lv (.int i :: .ref (ad 2) :: st) σ := by
  subst hv
  exact z_iald C (t0 := 1) (q0 := 2) rfl rfl hin hd k
set_option maxHeartbeats 4000000 in
set_option maxRecDepth 100000 in
theorem asM_2 {D : va_G} {ad : Nat → Nat} {cA : Nat → ClassId} {X : State → Prop} {p : Program} {l : Launch} {e : Env} {R : Room} {s : State} {m : MethodId} {args : Array Value} {below : List Frame} {meth : Method} {c : Code} {cc : ByteArray} {nL : Nat} {Q : State → Prop} {pc : Nat} {lv : List (Nat × Value)} {st : List Value} {σ : zS} {own : String} (C : CM D ad cA X p s m args meth c cc own nL) {i : Int32} {v : Int32} (hin : inb i 1000 = true) (hd : decode cc pc = .ok (.iastore, 1)) (k : ZM D ad cA p l e R s m args below meth c nL Q (pc + 1) lv st (sa σ 2 i.toNatClampNeg v)) : ZM D ad cA p l e R s m args below meth c nL Q pc lv (.int v :: .int i :: .ref (ad 2) :: st) σ :=
  z_iast C (t0 := 1) (q0 := 2) rfl rfl hin rfl hd k
set_option maxHeartbeats 4000000 in
set_option maxRecDepth 100000 in
theorem gM_Md_24 {D : va_G} {ad : Nat → Nat} {cA : Nat → ClassId} {X : State → Prop} {p : Program} {l : Launch} {e : Env} {R : Room} {s : State} {m : MethodId} {args : Array Value} {below : List Frame} {meth : Method} {c : Code} {cc : ByteArray} {nL : Nat} {Q : State → Prop} {pc : Nat} {lv : List (Nat × Value)} {st : List Value} {σ : zS} (C : CM D ad cA X p s m args meth c cc "KindRoundsModel" nL) (hd : decode cc pc = .ok (.getfield 24, 3)) (k : ZM D ad cA p l e R s m args below meth c nL Q (pc + 3) lv (.ref (ad 4) :: st) σ) : ZM D ad cA p l e R s m args below meth c nL Q pc lv (.ref (ad 0) :: st) σ :=
  z_get C 13 mM_37 i_Md rfl oM_0 (Nat.le_of_ble_eq_true rfl) rfl rfl hd k
set_option maxHeartbeats 4000000 in
set_option maxRecDepth 100000 in
theorem alM_4 {D : va_G} {ad : Nat → Nat} {cA : Nat → ClassId} {X : State → Prop} {p : Program} {l : Launch} {e : Env} {R : Room} {s : State} {m : MethodId} {args : Array Value} {below : List Frame} {meth : Method} {c : Code} {cc : ByteArray} {nL : Nat} {Q : State → Prop} {pc : Nat} {lv : List (Nat × Value)} {st : List Value} {σ : zS} {own : String} (C : CM D ad cA X p s m args meth c cc own nL) {i : Int32} {v : Int32} (hv : ga σ 4 i.toNatClampNeg = v) (hin : inb i 1000 = true) (hd : decode cc pc = .ok (.iaload, 1)) (k : ZM D ad cA p l e R s m args below meth c nL Q (pc + 1) lv (.int v :: st) σ) : ZM D ad cA p l e R s m args below meth c nL Q pc lv (.int i :: .ref (ad 4) :: st) σ := by
  subst hv
  exact z_iald C (t0 := 3) (q0 := 4) rfl rfl hin hd k
set_option maxHeartbeats 4000000 in
set_option maxRecDepth 100000 in
theorem asM_4 {D : va_G} {ad : Nat → Nat} {cA : Nat → ClassId} {X : State → Prop} {p : Program} {l : Launch} {e : Env} {R : Room} {s : State} {m : MethodId} {args : Array Value} {below : List Frame} {meth : Method} {c : Code} {cc : ByteArray} {nL : Nat} {Q : State → Prop} {pc : Nat} {lv : List (Nat × Value)} {st : List Value} {σ : zS} {own : String} (C : CM D ad cA X p s m args meth c cc own nL) {i : Int32} {v : Int32} (hin : inb i 1000 = true) (hd : decode cc pc = .ok (.iastore, 1)) (k : ZM D ad cA p l e R s m args below meth c nL Q (pc + 1) lv st (sa σ 4 i.toNatClampNeg v)) : ZM D ad cA p l e R s m args below meth c nL Q pc lv (.int v :: .int i :: .ref (ad 4) :: st) σ :=
  z_iast C (t0 := 3) (q0 := 4) rfl rfl hin rfl hd k
set_option maxHeartbeats 4000000 in
set_option maxRecDepth 100000 in
theorem gM_Md_27 {D : va_G} {ad : Nat → Nat} {cA : Nat → ClassId} {X : State → Prop} {p : Program} {l : Launch} {e : Env} {R : Room} {s : State} {m : MethodId} {args : Array Value} {below : List Frame} {meth : Method} {c : Code} {cc : ByteArray} {nL : Nat} {Q : State → Prop} {pc : Nat} {lv : List (Nat × Value)} {st : List Value} {σ : zS} (C : CM D ad cA X p s m args meth c cc "KindRoundsModel" nL) (hd : decode cc pc = .ok (.getfield 27, 3)) (k : ZM D ad cA p l e R s m args below meth c nL Q (pc + 3) lv (.ref (ad 5) :: st) σ) : ZM D ad cA p l e R s m args below meth c nL Q pc lv (.ref (ad 0) :: st) σ :=
  z_get C 14 mM_38 i_Md rfl oM_0 (Nat.le_of_ble_eq_true rfl) rfl rfl hd k
set_option maxHeartbeats 4000000 in
set_option maxRecDepth 100000 in
theorem alM_5 {D : va_G} {ad : Nat → Nat} {cA : Nat → ClassId} {X : State → Prop} {p : Program} {l : Launch} {e : Env} {R : Room} {s : State} {m : MethodId} {args : Array Value} {below : List Frame} {meth : Method} {c : Code} {cc : ByteArray} {nL : Nat} {Q : State → Prop} {pc : Nat} {lv : List (Nat × Value)} {st : List Value} {σ : zS} {own : String} (C : CM D ad cA X p s m args meth c cc own nL) {i : Int32} {v : Int32} (hv : ga σ 5 i.toNatClampNeg = v) (hin : inb i 1000 = true) (hd : decode cc pc = .ok (.iaload, 1)) (k : ZM D ad cA p l e R s m args below meth c nL Q (pc + 1) lv (.int v :: st) σ) : ZM D ad cA p l e R s m args below meth c nL Q pc lv (.int i :: .ref (ad 5) :: st) σ := by
  subst hv
  exact z_iald C (t0 := 4) (q0 := 5) rfl rfl hin hd k
set_option maxHeartbeats 4000000 in
set_option maxRecDepth 100000 in
theorem asM_5 {D : va_G} {ad : Nat → Nat} {cA : Nat → ClassId} {X : State → Prop} {p : Program} {l : Launch} {e : Env} {R : Room} {s : State} {m : MethodId} {args : Array Value} {below : List Frame} {meth : Method} {c : Code} {cc : ByteArray} {nL : Nat} {Q : State → Prop} {pc : Nat} {lv : List (Nat × Value)} {st : List Value} {σ : zS} {own : String} (C : CM D ad cA X p s m args meth c cc own nL) {i : Int32} {v : Int32} (hin : inb i 1000 = true) (hd : decode cc pc = .ok (.iastore, 1)) (k : ZM D ad cA p l e R s m args below meth c nL Q (pc + 1) lv st (sa σ 5 i.toNatClampNeg v)) : ZM D ad cA p l e R s m args below meth c nL Q pc lv (.int v :: .int i :: .ref (ad 5) :: st) σ :=
  z_iast C (t0 := 4) (q0 := 5) rfl rfl hin rfl hd k
set_option maxHeartbeats 4000000 in
set_option maxRecDepth 100000 in
theorem pM_Md_288 {D : va_G} {ad : Nat → Nat} {cA : Nat → ClassId} {X : State → Prop} {p : Program} {l : Launch} {e : Env} {R : Room} {s : State} {m : MethodId} {args : Array Value} {below : List Frame} {meth : Method} {c : Code} {cc : ByteArray} {nL : Nat} {Q : State → Prop} {pc : Nat} {lv : List (Nat × Value)} {st : List Value} {σ : zS} (C : CM D ad cA X p s m args meth c cc "KindRoundsModel" nL) {v : Int32} (hd : decode cc pc = .ok (.putfield 288, 3)) (k : ZM D ad cA p l e R s m args below meth c nL Q (pc + 3) lv st (si σ 16 v)) : ZM D ad cA p l e R s m args below meth c nL Q pc lv (.int v :: .ref (ad 0) :: st) σ :=
  z_put C 16 (ty := .int) mM_36 i_Md t_Md t_Md_ok n_Md rfl oM_0 (Nat.le_of_ble_eq_true rfl) rfl rfl rfl rfl rfl (Nat.le_of_ble_eq_true rfl) rfl hd k
set_option maxHeartbeats 4000000 in
set_option maxRecDepth 100000 in
theorem gM_Md_291 {D : va_G} {ad : Nat → Nat} {cA : Nat → ClassId} {X : State → Prop} {p : Program} {l : Launch} {e : Env} {R : Room} {s : State} {m : MethodId} {args : Array Value} {below : List Frame} {meth : Method} {c : Code} {cc : ByteArray} {nL : Nat} {Q : State → Prop} {pc : Nat} {lv : List (Nat × Value)} {st : List Value} {σ : zS} (C : CM D ad cA X p s m args meth c cc "KindRoundsModel" nL) {v : Int32} (hv : gi σ 17 = v) (hd : decode cc pc = .ok (.getfield 291, 3)) (k : ZM D ad cA p l e R s m args below meth c nL Q (pc + 3) lv (.int v :: st) σ) : ZM D ad cA p l e R s m args below meth c nL Q pc lv (.ref (ad 0) :: st) σ := by
  subst hv
  exact z_get C 17 mM_39 i_Md rfl oM_0 (Nat.le_of_ble_eq_true rfl) rfl rfl hd k
set_option maxHeartbeats 4000000 in
set_option maxRecDepth 100000 in
theorem pM_Md_291 {D : va_G} {ad : Nat → Nat} {cA : Nat → ClassId} {X : State → Prop} {p : Program} {l : Launch} {e : Env} {R : Room} {s : State} {m : MethodId} {args : Array Value} {below : List Frame} {meth : Method} {c : Code} {cc : ByteArray} {nL : Nat} {Q : State → Prop} {pc : Nat} {lv : List (Nat × Value)} {st : List Value} {σ : zS} (C : CM D ad cA X p s m args meth c cc "KindRoundsModel" nL) {v : Int32} (hd : decode cc pc = .ok (.putfield 291, 3)) (k : ZM D ad cA p l e R s m args below meth c nL Q (pc + 3) lv st (si σ 17 v)) : ZM D ad cA p l e R s m args below meth c nL Q pc lv (.int v :: .ref (ad 0) :: st) σ :=
  z_put C 17 (ty := .int) mM_39 i_Md t_Md t_Md_ok n_Md rfl oM_0 (Nat.le_of_ble_eq_true rfl) rfl rfl rfl rfl rfl (Nat.le_of_ble_eq_true rfl) rfl hd k
set_option maxHeartbeats 4000000 in
set_option maxRecDepth 100000 in
theorem gM_Md_294 {D : va_G} {ad : Nat → Nat} {cA : Nat → ClassId} {X : State → Prop} {p : Program} {l : Launch} {e : Env} {R : Room} {s : State} {m : MethodId} {args : Array Value} {below : List Frame} {meth : Method} {c : Code} {cc : ByteArray} {nL : Nat} {Q : State → Prop} {pc : Nat} {lv : List (Nat × Value)} {st : List Value} {σ : zS} (C : CM D ad cA X p s m args meth c cc "KindRoundsModel" nL) {v : Int32} (hv : gi σ 18 = v) (hd : decode cc pc = .ok (.getfield 294, 3)) (k : ZM D ad cA p l e R s m args below meth c nL Q (pc + 3) lv (.int v :: st) σ) : ZM D ad cA p l e R s m args below meth c nL Q pc lv (.ref (ad 0) :: st) σ := by
  subst hv
  exact z_get C 18 mM_40 i_Md rfl oM_0 (Nat.le_of_ble_eq_true rfl) rfl rfl hd k
set_option maxHeartbeats 4000000 in
set_option maxRecDepth 100000 in
theorem pM_Md_294 {D : va_G} {ad : Nat → Nat} {cA : Nat → ClassId} {X : State → Prop} {p : Program} {l : Launch} {e : Env} {R : Room} {s : State} {m : MethodId} {args : Array Value} {below : List Frame} {meth : Method} {c : Code} {cc : ByteArray} {nL : Nat} {Q : State → Prop} {pc : Nat} {lv : List (Nat × Value)} {st : List Value} {σ : zS} (C : CM D ad cA X p s m args meth c cc "KindRoundsModel" nL) {v : Int32} (hd : decode cc pc = .ok (.putfield 294, 3)) (k : ZM D ad cA p l e R s m args below meth c nL Q (pc + 3) lv st (si σ 18 v)) : ZM D ad cA p l e R s m args below meth c nL Q pc lv (.int v :: .ref (ad 0) :: st) σ :=
  z_put C 18 (ty := .int) mM_40 i_Md t_Md t_Md_ok n_Md rfl oM_0 (Nat.le_of_ble_eq_true rfl) rfl rfl rfl rfl rfl (Nat.le_of_ble_eq_true rfl) rfl hd k
set_option maxHeartbeats 4000000 in
set_option maxRecDepth 100000 in
theorem gM_Md_297 {D : va_G} {ad : Nat → Nat} {cA : Nat → ClassId} {X : State → Prop} {p : Program} {l : Launch} {e : Env} {R : Room} {s : State} {m : MethodId} {args : Array Value} {below : List Frame} {meth : Method} {c : Code} {cc : ByteArray} {nL : Nat} {Q : State → Prop} {pc : Nat} {lv : List (Nat × Value)} {st : List Value} {σ : zS} (C : CM D ad cA X p s m args meth c cc "KindRoundsModel" nL) {v : Int32} (hv : gi σ 42 = v) (hd : decode cc pc = .ok (.getfield 297, 3)) (k : ZM D ad cA p l e R s m args below meth c nL Q (pc + 3) lv (.int v :: st) σ) : ZM D ad cA p l e R s m args below meth c nL Q pc lv (.ref (ad 0) :: st) σ := by
  subst hv
  exact z_get C 42 mM_41 i_Md rfl oM_0 (Nat.le_of_ble_eq_true rfl) rfl rfl hd k
set_option maxHeartbeats 4000000 in
set_option maxRecDepth 100000 in
theorem pM_Md_297 {D : va_G} {ad : Nat → Nat} {cA : Nat → ClassId} {X : State → Prop} {p : Program} {l : Launch} {e : Env} {R : Room} {s : State} {m : MethodId} {args : Array Value} {below : List Frame} {meth : Method} {c : Code} {cc : ByteArray} {nL : Nat} {Q : State → Prop} {pc : Nat} {lv : List (Nat × Value)} {st : List Value} {σ : zS} (C : CM D ad cA X p s m args meth c cc "KindRoundsModel" nL) {v : Int32} (hd : decode cc pc = .ok (.putfield 297, 3)) (k : ZM D ad cA p l e R s m args below meth c nL Q (pc + 3) lv st (si σ 42 v)) : ZM D ad cA p l e R s m args below meth c nL Q pc lv (.int v :: .ref (ad 0) :: st) σ :=
  z_put C 42 (ty := .int) mM_41 i_Md t_Md t_Md_ok n_Md rfl oM_0 (Nat.le_of_ble_eq_true rfl) rfl rfl rfl rfl rfl (Nat.le_of_ble_eq_true rfl) rfl hd k
set_option maxHeartbeats 4000000 in
set_option maxRecDepth 100000 in
theorem gM_Md_64 {D : va_G} {ad : Nat → Nat} {cA : Nat → ClassId} {X : State → Prop} {p : Program} {l : Launch} {e : Env} {R : Room} {s : State} {m : MethodId} {args : Array Value} {below : List Frame} {meth : Method} {c : Code} {cc : ByteArray} {nL : Nat} {Q : State → Prop} {pc : Nat} {lv : List (Nat × Value)} {st : List Value} {σ : zS} (C : CM D ad cA X p s m args meth c cc "KindRoundsModel" nL) (hd : decode cc pc = .ok (.getfield 64, 3)) (k : ZM D ad cA p l e R s m args below meth c nL Q (pc + 3) lv (.ref (ad 17) :: st) σ) : ZM D ad cA p l e R s m args below meth c nL Q pc lv (.ref (ad 0) :: st) σ :=
  z_get C 33 mM_42 i_Md rfl oM_0 (Nat.le_of_ble_eq_true rfl) rfl rfl hd k
set_option maxHeartbeats 4000000 in
set_option maxRecDepth 100000 in
theorem alM_17 {D : va_G} {ad : Nat → Nat} {cA : Nat → ClassId} {X : State → Prop} {p : Program} {l : Launch} {e : Env} {R : Room} {s : State} {m : MethodId} {args : Array Value} {below : List Frame} {meth : Method} {c : Code} {cc : ByteArray} {nL : Nat} {Q : State → Prop} {pc : Nat} {lv : List (Nat × Value)} {st : List Value} {σ : zS} {own : String} (C : CM D ad cA X p s m args meth c cc own nL) {i : Int32} {v : Int32} (hv : ga σ 17 i.toNatClampNeg = v) (hin : inb i 12 = true) (hd : decode cc pc = .ok (.iaload, 1)) (k : ZM D ad cA p l e R s m args below meth c nL Q (pc + 1) lv (.int v :: st) σ) : ZM D ad cA p l e R s m args below meth c nL Q pc lv (.int i :: .ref (ad 17) :: st) σ := by
  subst hv
  exact z_iald C (t0 := 16) (q0 := 17) rfl rfl hin hd k
set_option maxHeartbeats 4000000 in
set_option maxRecDepth 100000 in
theorem asM_17 {D : va_G} {ad : Nat → Nat} {cA : Nat → ClassId} {X : State → Prop} {p : Program} {l : Launch} {e : Env} {R : Room} {s : State} {m : MethodId} {args : Array Value} {below : List Frame} {meth : Method} {c : Code} {cc : ByteArray} {nL : Nat} {Q : State → Prop} {pc : Nat} {lv : List (Nat × Value)} {st : List Value} {σ : zS} {own : String} (C : CM D ad cA X p s m args meth c cc own nL) {i : Int32} {v : Int32} (hin : inb i 12 = true) (hd : decode cc pc = .ok (.iastore, 1)) (k : ZM D ad cA p l e R s m args below meth c nL Q (pc + 1) lv st (sa σ 17 i.toNatClampNeg v)) : ZM D ad cA p l e R s m args below meth c nL Q pc lv (.int v :: .int i :: .ref (ad 17) :: st) σ :=
  z_iast C (t0 := 16) (q0 := 17) rfl rfl hin rfl hd k
set_option maxHeartbeats 4000000 in
set_option maxRecDepth 100000 in
theorem gM_Md_67 {D : va_G} {ad : Nat → Nat} {cA : Nat → ClassId} {X : State → Prop} {p : Program} {l : Launch} {e : Env} {R : Room} {s : State} {m : MethodId} {args : Array Value} {below : List Frame} {meth : Method} {c : Code} {cc : ByteArray} {nL : Nat} {Q : State → Prop} {pc : Nat} {lv : List (Nat × Value)} {st : List Value} {σ : zS} (C : CM D ad cA X p s m args meth c cc "KindRoundsModel" nL) (hd : decode cc pc = .ok (.getfield 67, 3)) (k : ZM D ad cA p l e R s m args below meth c nL Q (pc + 3) lv (.ref (ad 18) :: st) σ) : ZM D ad cA p l e R s m args below meth c nL Q pc lv (.ref (ad 0) :: st) σ :=
  z_get C 34 mM_43 i_Md rfl oM_0 (Nat.le_of_ble_eq_true rfl) rfl rfl hd k
set_option maxHeartbeats 4000000 in
set_option maxRecDepth 100000 in
theorem alM_18 {D : va_G} {ad : Nat → Nat} {cA : Nat → ClassId} {X : State → Prop} {p : Program} {l : Launch} {e : Env} {R : Room} {s : State} {m : MethodId} {args : Array Value} {below : List Frame} {meth : Method} {c : Code} {cc : ByteArray} {nL : Nat} {Q : State → Prop} {pc : Nat} {lv : List (Nat × Value)} {st : List Value} {σ : zS} {own : String} (C : CM D ad cA X p s m args meth c cc own nL) {i : Int32} {v : Int32} (hv : ga σ 18 i.toNatClampNeg = v) (hin : inb i 12 = true) (hd : decode cc pc = .ok (.iaload, 1)) (k : ZM D ad cA p l e R s m args below meth c nL Q (pc + 1) lv (.int v :: st) σ) : ZM D ad cA p l e R s m args below meth c nL Q pc lv (.int i :: .ref (ad 18) :: st) σ := by
  subst hv
  exact z_iald C (t0 := 17) (q0 := 18) rfl rfl hin hd k
set_option maxHeartbeats 4000000 in
set_option maxRecDepth 100000 in
theorem asM_18 {D : va_G} {ad : Nat → Nat} {cA : Nat → ClassId} {X : State → Prop} {p : Program} {l : Launch} {e : Env} {R : Room} {s : State} {m : MethodId} {args : Array Value} {below : List Frame} {meth : Method} {c : Code} {cc : ByteArray} {nL : Nat} {Q : State → Prop} {pc : Nat} {lv : List (Nat × Value)} {st : List Value} {σ : zS} {own : String} (C : CM D ad cA X p s m args meth c cc own nL) {i : Int32} {v : Int32} (hin : inb i 12 = true) (hd : decode cc pc = .ok (.iastore, 1)) (k : ZM D ad cA p l e R s m args below meth c nL Q (pc + 1) lv st (sa σ 18 i.toNatClampNeg v)) : ZM D ad cA p l e R s m args below meth c nL Q pc lv (.int v :: .int i :: .ref (ad 18) :: st) σ :=
  z_iast C (t0 := 17) (q0 := 18) rfl rfl hin rfl hd k
set_option maxHeartbeats 4000000 in
set_option maxRecDepth 100000 in
theorem gM_Md_70 {D : va_G} {ad : Nat → Nat} {cA : Nat → ClassId} {X : State → Prop} {p : Program} {l : Launch} {e : Env} {R : Room} {s : State} {m : MethodId} {args : Array Value} {below : List Frame} {meth : Method} {c : Code} {cc : ByteArray} {nL : Nat} {Q : State → Prop} {pc : Nat} {lv : List (Nat × Value)} {st : List Value} {σ : zS} (C : CM D ad cA X p s m args meth c cc "KindRoundsModel" nL) (hd : decode cc pc = .ok (.getfield 70, 3)) (k : ZM D ad cA p l e R s m args below meth c nL Q (pc + 3) lv (.ref (ad 19) :: st) σ) : ZM D ad cA p l e R s m args below meth c nL Q pc lv (.ref (ad 0) :: st) σ :=
  z_get C 35 mM_44 i_Md rfl oM_0 (Nat.le_of_ble_eq_true rfl) rfl rfl hd k
set_option maxHeartbeats 4000000 in
set_option maxRecDepth 100000 in
theorem alM_19 {D : va_G} {ad : Nat → Nat} {cA : Nat → ClassId} {X : State → Prop} {p : Program} {l : Launch} {e : Env} {R : Room} {s : State} {m : MethodId} {args : Array Value} {below : List Frame} {meth : Method} {c : Code} {cc : ByteArray} {nL : Nat} {Q : State → Prop} {pc : Nat} {lv : List (Nat × Value)} {st : List Value} {σ : zS} {own : String} (C : CM D ad cA X p s m args meth c cc own nL) {i : Int32} {v : Int32} (hv : ga σ 19 i.toNatClampNeg = v) (hin : inb i 12 = true) (hd : decode cc pc = .ok (.iaload, 1)) (k : ZM D ad cA p l e R s m args below meth c nL Q (pc + 1) lv (.int v :: st) σ) : ZM D ad cA p l e R s m args below meth c nL Q pc lv (.int i :: .ref (ad 19) :: st) σ := by
  subst hv
  exact z_iald C (t0 := 18) (q0 := 19) rfl rfl hin hd k
set_option maxHeartbeats 4000000 in
set_option maxRecDepth 100000 in
theorem asM_19 {D : va_G} {ad : Nat → Nat} {cA : Nat → ClassId} {X : State → Prop} {p : Program} {l : Launch} {e : Env} {R : Room} {s : State} {m : MethodId} {args : Array Value} {below : List Frame} {meth : Method} {c : Code} {cc : ByteArray} {nL : Nat} {Q : State → Prop} {pc : Nat} {lv : List (Nat × Value)} {st : List Value} {σ : zS} {own : String} (C : CM D ad cA X p s m args meth c cc own nL) {i : Int32} {v : Int32} (hin : inb i 12 = true) (hd : decode cc pc = .ok (.iastore, 1)) (k : ZM D ad cA p l e R s m args below meth c nL Q (pc + 1) lv st (sa σ 19 i.toNatClampNeg v)) : ZM D ad cA p l e R s m args below meth c nL Q pc lv (.int v :: .int i :: .ref (ad 19) :: st) σ :=
  z_iast C (t0 := 18) (q0 := 19) rfl rfl hin rfl hd k
set_option maxHeartbeats 4000000 in
set_option maxRecDepth 100000 in
theorem gM_Md_82 {D : va_G} {ad : Nat → Nat} {cA : Nat → ClassId} {X : State → Prop} {p : Program} {l : Launch} {e : Env} {R : Room} {s : State} {m : MethodId} {args : Array Value} {below : List Frame} {meth : Method} {c : Code} {cc : ByteArray} {nL : Nat} {Q : State → Prop} {pc : Nat} {lv : List (Nat × Value)} {st : List Value} {σ : zS} (C : CM D ad cA X p s m args meth c cc "KindRoundsModel" nL) (hd : decode cc pc = .ok (.getfield 82, 3)) (k : ZM D ad cA p l e R s m args below meth c nL Q (pc + 3) lv (.ref (ad 23) :: st) σ) : ZM D ad cA p l e R s m args below meth c nL Q pc lv (.ref (ad 0) :: st) σ :=
  z_get C 39 mM_45 i_Md rfl oM_0 (Nat.le_of_ble_eq_true rfl) rfl rfl hd k
set_option maxHeartbeats 4000000 in
set_option maxRecDepth 100000 in
theorem alM_23 {D : va_G} {ad : Nat → Nat} {cA : Nat → ClassId} {X : State → Prop} {p : Program} {l : Launch} {e : Env} {R : Room} {s : State} {m : MethodId} {args : Array Value} {below : List Frame} {meth : Method} {c : Code} {cc : ByteArray} {nL : Nat} {Q : State → Prop} {pc : Nat} {lv : List (Nat × Value)} {st : List Value} {σ : zS} {own : String} (C : CM D ad cA X p s m args meth c cc own nL) {i : Int32} {v : Int32} (hv : ga σ 23 i.toNatClampNeg = v) (hin : inb i 12 = true) (hd : decode cc pc = .ok (.iaload, 1)) (k : ZM D ad cA p l e R s m args below meth c nL Q (pc + 1) lv (.int v :: st) σ) : ZM D ad cA p l e R s m args below meth c nL Q pc lv (.int i :: .ref (ad 23) :: st) σ := by
  subst hv
  exact z_iald C (t0 := 22) (q0 := 23) rfl rfl hin hd k
set_option maxHeartbeats 4000000 in
set_option maxRecDepth 100000 in
theorem asM_23 {D : va_G} {ad : Nat → Nat} {cA : Nat → ClassId} {X : State → Prop} {p : Program} {l : Launch} {e : Env} {R : Room} {s : State} {m : MethodId} {args : Array Value} {below : List Frame} {meth : Method} {c : Code} {cc : ByteArray} {nL : Nat} {Q : State → Prop} {pc : Nat} {lv : List (Nat × Value)} {st : List Value} {σ : zS} {own : String} (C : CM D ad cA X p s m args meth c cc own nL) {i : Int32} {v : Int32} (hin : inb i 12 = true) (hd : decode cc pc = .ok (.iastore, 1)) (k : ZM D ad cA p l e R s m args below meth c nL Q (pc + 1) lv st (sa σ 23 i.toNatClampNeg v)) : ZM D ad cA p l e R s m args below meth c nL Q pc lv (.int v :: .int i :: .ref (ad 23) :: st) σ :=
  z_iast C (t0 := 22) (q0 := 23) rfl rfl hin rfl hd k
set_option maxHeartbeats 4000000 in
set_option maxRecDepth 100000 in
theorem gM_Md_85 {D : va_G} {ad : Nat → Nat} {cA : Nat → ClassId} {X : State → Prop} {p : Program} {l : Launch} {e : Env} {R : Room} {s : State} {m : MethodId} {args : Array Value} {below : List Frame} {meth : Method} {c : Code} {cc : ByteArray} {nL : Nat} {Q : State → Prop} {pc : Nat} {lv : List (Nat × Value)} {st : List Value} {σ : zS} (C : CM D ad cA X p s m args meth c cc "KindRoundsModel" nL) (hd : decode cc pc = .ok (.getfield 85, 3)) (k : ZM D ad cA p l e R s m args below meth c nL Q (pc + 3) lv (.ref (ad 24) :: st) σ) : ZM D ad cA p l e R s m args below meth c nL Q pc lv (.ref (ad 0) :: st) σ :=
  z_get C 40 mM_46 i_Md rfl oM_0 (Nat.le_of_ble_eq_true rfl) rfl rfl hd k
set_option maxHeartbeats 4000000 in
set_option maxRecDepth 100000 in
theorem alM_24 {D : va_G} {ad : Nat → Nat} {cA : Nat → ClassId} {X : State → Prop} {p : Program} {l : Launch} {e : Env} {R : Room} {s : State} {m : MethodId} {args : Array Value} {below : List Frame} {meth : Method} {c : Code} {cc : ByteArray} {nL : Nat} {Q : State → Prop} {pc : Nat} {lv : List (Nat × Value)} {st : List Value} {σ : zS} {own : String} (C : CM D ad cA X p s m args meth c cc own nL) {i : Int32} {v : Int32} (hv : ga σ 24 i.toNatClampNeg = v) (hin : inb i 12 = true) (hd : decode cc pc = .ok (.iaload, 1)) (k : ZM D ad cA p l e R s m args below meth c nL Q (pc + 1) lv (.int v :: st) σ) : ZM D ad cA p l e R s m args below meth c nL Q pc lv (.int i :: .ref (ad 24) :: st) σ := by
  subst hv
  exact z_iald C (t0 := 23) (q0 := 24) rfl rfl hin hd k
set_option maxHeartbeats 4000000 in
set_option maxRecDepth 100000 in
theorem asM_24 {D : va_G} {ad : Nat → Nat} {cA : Nat → ClassId} {X : State → Prop} {p : Program} {l : Launch} {e : Env} {R : Room} {s : State} {m : MethodId} {args : Array Value} {below : List Frame} {meth : Method} {c : Code} {cc : ByteArray} {nL : Nat} {Q : State → Prop} {pc : Nat} {lv : List (Nat × Value)} {st : List Value} {σ : zS} {own : String} (C : CM D ad cA X p s m args meth c cc own nL) {i : Int32} {v : Int32} (hin : inb i 12 = true) (hd : decode cc pc = .ok (.iastore, 1)) (k : ZM D ad cA p l e R s m args below meth c nL Q (pc + 1) lv st (sa σ 24 i.toNatClampNeg v)) : ZM D ad cA p l e R s m args below meth c nL Q pc lv (.int v :: .int i :: .ref (ad 24) :: st) σ :=
  z_iast C (t0 := 23) (q0 := 24) rfl rfl hin rfl hd k
set_option maxHeartbeats 4000000 in
set_option maxRecDepth 100000 in
theorem gM_Md_88 {D : va_G} {ad : Nat → Nat} {cA : Nat → ClassId} {X : State → Prop} {p : Program} {l : Launch} {e : Env} {R : Room} {s : State} {m : MethodId} {args : Array Value} {below : List Frame} {meth : Method} {c : Code} {cc : ByteArray} {nL : Nat} {Q : State → Prop} {pc : Nat} {lv : List (Nat × Value)} {st : List Value} {σ : zS} (C : CM D ad cA X p s m args meth c cc "KindRoundsModel" nL) (hd : decode cc pc = .ok (.getfield 88, 3)) (k : ZM D ad cA p l e R s m args below meth c nL Q (pc + 3) lv (.ref (ad 25) :: st) σ) : ZM D ad cA p l e R s m args below meth c nL Q pc lv (.ref (ad 0) :: st) σ :=
  z_get C 41 mM_47 i_Md rfl oM_0 (Nat.le_of_ble_eq_true rfl) rfl rfl hd k
set_option maxHeartbeats 4000000 in
set_option maxRecDepth 100000 in
theorem alM_25 {D : va_G} {ad : Nat → Nat} {cA : Nat → ClassId} {X : State → Prop} {p : Program} {l : Launch} {e : Env} {R : Room} {s : State} {m : MethodId} {args : Array Value} {below : List Frame} {meth : Method} {c : Code} {cc : ByteArray} {nL : Nat} {Q : State → Prop} {pc : Nat} {lv : List (Nat × Value)} {st : List Value} {σ : zS} {own : String} (C : CM D ad cA X p s m args meth c cc own nL) {i : Int32} {v : Int32} (hv : ga σ 25 i.toNatClampNeg = v) (hin : inb i 12 = true) (hd : decode cc pc = .ok (.iaload, 1)) (k : ZM D ad cA p l e R s m args below meth c nL Q (pc + 1) lv (.int v :: st) σ) : ZM D ad cA p l e R s m args below meth c nL Q pc lv (.int i :: .ref (ad 25) :: st) σ := by
  subst hv
  exact z_iald C (t0 := 24) (q0 := 25) rfl rfl hin hd k
set_option maxHeartbeats 4000000 in
set_option maxRecDepth 100000 in
theorem asM_25 {D : va_G} {ad : Nat → Nat} {cA : Nat → ClassId} {X : State → Prop} {p : Program} {l : Launch} {e : Env} {R : Room} {s : State} {m : MethodId} {args : Array Value} {below : List Frame} {meth : Method} {c : Code} {cc : ByteArray} {nL : Nat} {Q : State → Prop} {pc : Nat} {lv : List (Nat × Value)} {st : List Value} {σ : zS} {own : String} (C : CM D ad cA X p s m args meth c cc own nL) {i : Int32} {v : Int32} (hin : inb i 12 = true) (hd : decode cc pc = .ok (.iastore, 1)) (k : ZM D ad cA p l e R s m args below meth c nL Q (pc + 1) lv st (sa σ 25 i.toNatClampNeg v)) : ZM D ad cA p l e R s m args below meth c nL Q pc lv (.int v :: .int i :: .ref (ad 25) :: st) σ :=
  z_iast C (t0 := 24) (q0 := 25) rfl rfl hin rfl hd k
set_option maxHeartbeats 4000000 in
set_option maxRecDepth 100000 in
theorem gM_Md_76 {D : va_G} {ad : Nat → Nat} {cA : Nat → ClassId} {X : State → Prop} {p : Program} {l : Launch} {e : Env} {R : Room} {s : State} {m : MethodId} {args : Array Value} {below : List Frame} {meth : Method} {c : Code} {cc : ByteArray} {nL : Nat} {Q : State → Prop} {pc : Nat} {lv : List (Nat × Value)} {st : List Value} {σ : zS} (C : CM D ad cA X p s m args meth c cc "KindRoundsModel" nL) (hd : decode cc pc = .ok (.getfield 76, 3)) (k : ZM D ad cA p l e R s m args below meth c nL Q (pc + 3) lv (.ref (ad 21) :: st) σ) : ZM D ad cA p l e R s m args below meth c nL Q pc lv (.ref (ad 0) :: st) σ :=
  z_get C 37 mM_50 i_Md rfl oM_0 (Nat.le_of_ble_eq_true rfl) rfl rfl hd k
set_option maxHeartbeats 4000000 in
set_option maxRecDepth 100000 in
theorem alM_21 {D : va_G} {ad : Nat → Nat} {cA : Nat → ClassId} {X : State → Prop} {p : Program} {l : Launch} {e : Env} {R : Room} {s : State} {m : MethodId} {args : Array Value} {below : List Frame} {meth : Method} {c : Code} {cc : ByteArray} {nL : Nat} {Q : State → Prop} {pc : Nat} {lv : List (Nat × Value)} {st : List Value} {σ : zS} {own : String} (C : CM D ad cA X p s m args meth c cc own nL) {i : Int32} {v : Int32} (hv : ga σ 21 i.toNatClampNeg = v) (hin : inb i 12 = true) (hd : decode cc pc = .ok (.iaload, 1)) (k : ZM D ad cA p l e R s m args below meth c nL Q (pc + 1) lv (.int v :: st) σ) : ZM D ad cA p l e R s m args below meth c nL Q pc lv (.int i :: .ref (ad 21) :: st) σ := by
  subst hv
  exact z_iald C (t0 := 20) (q0 := 21) rfl rfl hin hd k
set_option maxHeartbeats 4000000 in
set_option maxRecDepth 100000 in
theorem asM_21 {D : va_G} {ad : Nat → Nat} {cA : Nat → ClassId} {X : State → Prop} {p : Program} {l : Launch} {e : Env} {R : Room} {s : State} {m : MethodId} {args : Array Value} {below : List Frame} {meth : Method} {c : Code} {cc : ByteArray} {nL : Nat} {Q : State → Prop} {pc : Nat} {lv : List (Nat × Value)} {st : List Value} {σ : zS} {own : String} (C : CM D ad cA X p s m args meth c cc own nL) {i : Int32} {v : Int32} (hin : inb i 12 = true) (hd : decode cc pc = .ok (.iastore, 1)) (k : ZM D ad cA p l e R s m args below meth c nL Q (pc + 1) lv st (sa σ 21 i.toNatClampNeg v)) : ZM D ad cA p l e R s m args below meth c nL Q pc lv (.int v :: .int i :: .ref (ad 21) :: st) σ :=
  z_iast C (t0 := 20) (q0 := 21) rfl rfl hin rfl hd k
set_option maxHeartbeats 4000000 in
set_option maxRecDepth 100000 in
theorem gM_Md_73 {D : va_G} {ad : Nat → Nat} {cA : Nat → ClassId} {X : State → Prop} {p : Program} {l : Launch} {e : Env} {R : Room} {s : State} {m : MethodId} {args : Array Value} {below : List Frame} {meth : Method} {c : Code} {cc : ByteArray} {nL : Nat} {Q : State → Prop} {pc : Nat} {lv : List (Nat × Value)} {st : List Value} {σ : zS} (C : CM D ad cA X p s m args meth c cc "KindRoundsModel" nL) (hd : decode cc pc = .ok (.getfield 73, 3)) (k : ZM D ad cA p l e R s m args below meth c nL Q (pc + 3) lv (.ref (ad 20) :: st) σ) : ZM D ad cA p l e R s m args below meth c nL Q pc lv (.ref (ad 0) :: st) σ :=
  z_get C 36 mM_51 i_Md rfl oM_0 (Nat.le_of_ble_eq_true rfl) rfl rfl hd k
set_option maxHeartbeats 4000000 in
set_option maxRecDepth 100000 in
theorem alM_20 {D : va_G} {ad : Nat → Nat} {cA : Nat → ClassId} {X : State → Prop} {p : Program} {l : Launch} {e : Env} {R : Room} {s : State} {m : MethodId} {args : Array Value} {below : List Frame} {meth : Method} {c : Code} {cc : ByteArray} {nL : Nat} {Q : State → Prop} {pc : Nat} {lv : List (Nat × Value)} {st : List Value} {σ : zS} {own : String} (C : CM D ad cA X p s m args meth c cc own nL) {i : Int32} {v : Int32} (hv : ga σ 20 i.toNatClampNeg = v) (hin : inb i 12 = true) (hd : decode cc pc = .ok (.iaload, 1)) (k : ZM D ad cA p l e R s m args below meth c nL Q (pc + 1) lv (.int v :: st) σ) : ZM D ad cA p l e R s m args below meth c nL Q pc lv (.int i :: .ref (ad 20) :: st) σ := by
  subst hv
  exact z_iald C (t0 := 19) (q0 := 20) rfl rfl hin hd k
set_option maxHeartbeats 4000000 in
set_option maxRecDepth 100000 in
theorem asM_20 {D : va_G} {ad : Nat → Nat} {cA : Nat → ClassId} {X : State → Prop} {p : Program} {l : Launch} {e : Env} {R : Room} {s : State} {m : MethodId} {args : Array Value} {below : List Frame} {meth : Method} {c : Code} {cc : ByteArray} {nL : Nat} {Q : State → Prop} {pc : Nat} {lv : List (Nat × Value)} {st : List Value} {σ : zS} {own : String} (C : CM D ad cA X p s m args meth c cc own nL) {i : Int32} {v : Int32} (hin : inb i 12 = true) (hd : decode cc pc = .ok (.iastore, 1)) (k : ZM D ad cA p l e R s m args below meth c nL Q (pc + 1) lv st (sa σ 20 i.toNatClampNeg v)) : ZM D ad cA p l e R s m args below meth c nL Q pc lv (.int v :: .int i :: .ref (ad 20) :: st) σ :=
  z_iast C (t0 := 19) (q0 := 20) rfl rfl hin rfl hd k
set_option maxHeartbeats 4000000 in
set_option maxRecDepth 100000 in
theorem gM_Md_79 {D : va_G} {ad : Nat → Nat} {cA : Nat → ClassId} {X : State → Prop} {p : Program} {l : Launch} {e : Env} {R : Room} {s : State} {m : MethodId} {args : Array Value} {below : List Frame} {meth : Method} {c : Code} {cc : ByteArray} {nL : Nat} {Q : State → Prop} {pc : Nat} {lv : List (Nat × Value)} {st : List Value} {σ : zS} (C : CM D ad cA X p s m args meth c cc "KindRoundsModel" nL) (hd : decode cc pc = .ok (.getfield 79, 3)) (k : ZM D ad cA p l e R s m args below meth c nL Q (pc + 3) lv (.ref (ad 22) :: st) σ) : ZM D ad cA p l e R s m args below meth c nL Q pc lv (.ref (ad 0) :: st) σ :=
  z_get C 38 mM_52 i_Md rfl oM_0 (Nat.le_of_ble_eq_true rfl) rfl rfl hd k
set_option maxHeartbeats 4000000 in
set_option maxRecDepth 100000 in
theorem alM_22 {D : va_G} {ad : Nat → Nat} {cA : Nat → ClassId} {X : State → Prop} {p : Program} {l : Launch} {e : Env} {R : Room} {s : State} {m : MethodId} {args : Array Value} {below : List Frame} {meth : Method} {c : Code} {cc : ByteArray} {nL : Nat} {Q : State → Prop} {pc : Nat} {lv : List (Nat × Value)} {st : List Value} {σ : zS} {own : String} (C : CM D ad cA X p s m args meth c cc own nL) {i : Int32} {v : Int32} (hv : ga σ 22 i.toNatClampNeg = v) (hin : inb i 12 = true) (hd : decode cc pc = .ok (.iaload, 1)) (k : ZM D ad cA p l e R s m args below meth c nL Q (pc + 1) lv (.int v :: st) σ) : ZM D ad cA p l e R s m args below meth c nL Q pc lv (.int i :: .ref (ad 22) :: st) σ := by
  subst hv
  exact z_iald C (t0 := 21) (q0 := 22) rfl rfl hin hd k
set_option maxHeartbeats 4000000 in
set_option maxRecDepth 100000 in
theorem asM_22 {D : va_G} {ad : Nat → Nat} {cA : Nat → ClassId} {X : State → Prop} {p : Program} {l : Launch} {e : Env} {R : Room} {s : State} {m : MethodId} {args : Array Value} {below : List Frame} {meth : Method} {c : Code} {cc : ByteArray} {nL : Nat} {Q : State → Prop} {pc : Nat} {lv : List (Nat × Value)} {st : List Value} {σ : zS} {own : String} (C : CM D ad cA X p s m args meth c cc own nL) {i : Int32} {v : Int32} (hin : inb i 12 = true) (hd : decode cc pc = .ok (.iastore, 1)) (k : ZM D ad cA p l e R s m args below meth c nL Q (pc + 1) lv st (sa σ 22 i.toNatClampNeg v)) : ZM D ad cA p l e R s m args below meth c nL Q pc lv (.int v :: .int i :: .ref (ad 22) :: st) σ :=
  z_iast C (t0 := 21) (q0 := 22) rfl rfl hin rfl hd k
set_option maxHeartbeats 4000000 in
set_option maxRecDepth 100000 in
theorem gM_Md_310 {D : va_G} {ad : Nat → Nat} {cA : Nat → ClassId} {X : State → Prop} {p : Program} {l : Launch} {e : Env} {R : Room} {s : State} {m : MethodId} {args : Array Value} {below : List Frame} {meth : Method} {c : Code} {cc : ByteArray} {nL : Nat} {Q : State → Prop} {pc : Nat} {lv : List (Nat × Value)} {st : List Value} {σ : zS} (C : CM D ad cA X p s m args meth c cc "KindRoundsModel" nL) {v : Int32} (hv : gi σ 67 = v) (hd : decode cc pc = .ok (.getfield 310, 3)) (k : ZM D ad cA p l e R s m args below meth c nL Q (pc + 3) lv (.int v :: st) σ) : ZM D ad cA p l e R s m args below meth c nL Q pc lv (.ref (ad 0) :: st) σ := by
  subst hv
  exact z_get C 67 mM_55 i_Md rfl oM_0 (Nat.le_of_ble_eq_true rfl) rfl rfl hd k
set_option maxHeartbeats 4000000 in
set_option maxRecDepth 100000 in
theorem gM_Md_20 {D : va_G} {ad : Nat → Nat} {cA : Nat → ClassId} {X : State → Prop} {p : Program} {l : Launch} {e : Env} {R : Room} {s : State} {m : MethodId} {args : Array Value} {below : List Frame} {meth : Method} {c : Code} {cc : ByteArray} {nL : Nat} {Q : State → Prop} {pc : Nat} {lv : List (Nat × Value)} {st : List Value} {σ : zS} (C : CM D ad cA X p s m args meth c cc "KindRoundsModel" nL) (hd : decode cc pc = .ok (.getfield 20, 3)) (k : ZM D ad cA p l e R s m args below meth c nL Q (pc + 3) lv (.ref (ad 3) :: st) σ) : ZM D ad cA p l e R s m args below meth c nL Q pc lv (.ref (ad 0) :: st) σ :=
  z_get C 12 mM_56 i_Md rfl oM_0 (Nat.le_of_ble_eq_true rfl) rfl rfl hd k
set_option maxHeartbeats 4000000 in
set_option maxRecDepth 100000 in
theorem alM_3 {D : va_G} {ad : Nat → Nat} {cA : Nat → ClassId} {X : State → Prop} {p : Program} {l : Launch} {e : Env} {R : Room} {s : State} {m : MethodId} {args : Array Value} {below : List Frame} {meth : Method} {c : Code} {cc : ByteArray} {nL : Nat} {Q : State → Prop} {pc : Nat} {lv : List (Nat × Value)} {st : List Value} {σ : zS} {own : String} (C : CM D ad cA X p s m args meth c cc own nL) {i : Int32} {v : Int64} (hv : gb σ 3 i.toNatClampNeg = v) (hin : inb i 1000 = true) (hd : decode cc pc = .ok (.laload, 1)) (k : ZM D ad cA p l e R s m args below meth c nL Q (pc + 1) lv (.long v :: st) σ) : ZM D ad cA p l e R s m args below meth c nL Q pc lv (.int i :: .ref (ad 3) :: st) σ := by
  subst hv
  exact z_lald C (t0 := 2) (q0 := 3) rfl rfl hin hd k
set_option maxHeartbeats 4000000 in
set_option maxRecDepth 100000 in
theorem asM_3 {D : va_G} {ad : Nat → Nat} {cA : Nat → ClassId} {X : State → Prop} {p : Program} {l : Launch} {e : Env} {R : Room} {s : State} {m : MethodId} {args : Array Value} {below : List Frame} {meth : Method} {c : Code} {cc : ByteArray} {nL : Nat} {Q : State → Prop} {pc : Nat} {lv : List (Nat × Value)} {st : List Value} {σ : zS} {own : String} (C : CM D ad cA X p s m args meth c cc own nL) {i : Int32} {v : Int64} (hin : inb i 1000 = true) (hd : decode cc pc = .ok (.lastore, 1)) (k : ZM D ad cA p l e R s m args below meth c nL Q (pc + 1) lv st (sb σ 3 i.toNatClampNeg v)) : ZM D ad cA p l e R s m args below meth c nL Q pc lv (.long v :: .int i :: .ref (ad 3) :: st) σ :=
  z_last C (t0 := 2) (q0 := 3) rfl rfl hin rfl hd k
set_option maxHeartbeats 4000000 in
set_option maxRecDepth 100000 in
theorem pM_Md_332 {D : va_G} {ad : Nat → Nat} {cA : Nat → ClassId} {X : State → Prop} {p : Program} {l : Launch} {e : Env} {R : Room} {s : State} {m : MethodId} {args : Array Value} {below : List Frame} {meth : Method} {c : Code} {cc : ByteArray} {nL : Nat} {Q : State → Prop} {pc : Nat} {lv : List (Nat × Value)} {st : List Value} {σ : zS} (C : CM D ad cA X p s m args meth c cc "KindRoundsModel" nL) {v : Int32} (hd : decode cc pc = .ok (.putfield 332, 3)) (k : ZM D ad cA p l e R s m args below meth c nL Q (pc + 3) lv st (si σ 19 v)) : ZM D ad cA p l e R s m args below meth c nL Q pc lv (.int v :: .ref (ad 0) :: st) σ :=
  z_put C 19 (ty := .int) mM_63 i_Md t_Md t_Md_ok n_Md rfl oM_0 (Nat.le_of_ble_eq_true rfl) rfl rfl rfl rfl rfl (Nat.le_of_ble_eq_true rfl) rfl hd k
set_option maxHeartbeats 4000000 in
set_option maxRecDepth 100000 in
theorem gM_Md_91 {D : va_G} {ad : Nat → Nat} {cA : Nat → ClassId} {X : State → Prop} {p : Program} {l : Launch} {e : Env} {R : Room} {s : State} {m : MethodId} {args : Array Value} {below : List Frame} {meth : Method} {c : Code} {cc : ByteArray} {nL : Nat} {Q : State → Prop} {pc : Nat} {lv : List (Nat × Value)} {st : List Value} {σ : zS} (C : CM D ad cA X p s m args meth c cc "KindRoundsModel" nL) (hd : decode cc pc = .ok (.getfield 91, 3)) (k : ZM D ad cA p l e R s m args below meth c nL Q (pc + 3) lv (.ref (ad 26) :: st) σ) : ZM D ad cA p l e R s m args below meth c nL Q pc lv (.ref (ad 0) :: st) σ :=
  z_get C 43 mM_67 i_Md rfl oM_0 (Nat.le_of_ble_eq_true rfl) rfl rfl hd k
set_option maxHeartbeats 4000000 in
set_option maxRecDepth 100000 in
theorem gM_Md_209 {D : va_G} {ad : Nat → Nat} {cA : Nat → ClassId} {X : State → Prop} {p : Program} {l : Launch} {e : Env} {R : Room} {s : State} {m : MethodId} {args : Array Value} {below : List Frame} {meth : Method} {c : Code} {cc : ByteArray} {nL : Nat} {Q : State → Prop} {pc : Nat} {lv : List (Nat × Value)} {st : List Value} {σ : zS} (C : CM D ad cA X p s m args meth c cc "KindRoundsModel" nL) {v : Int32} (hv : gi σ 48 = v) (hd : decode cc pc = .ok (.getfield 209, 3)) (k : ZM D ad cA p l e R s m args below meth c nL Q (pc + 3) lv (.int v :: st) σ) : ZM D ad cA p l e R s m args below meth c nL Q pc lv (.ref (ad 0) :: st) σ := by
  subst hv
  exact z_get C 48 mM_68 i_Md rfl oM_0 (Nat.le_of_ble_eq_true rfl) rfl rfl hd k
set_option maxHeartbeats 4000000 in
set_option maxRecDepth 100000 in
theorem alM_26 {D : va_G} {ad : Nat → Nat} {cA : Nat → ClassId} {X : State → Prop} {p : Program} {l : Launch} {e : Env} {R : Room} {s : State} {m : MethodId} {args : Array Value} {below : List Frame} {meth : Method} {c : Code} {cc : ByteArray} {nL : Nat} {Q : State → Prop} {pc : Nat} {lv : List (Nat × Value)} {st : List Value} {σ : zS} {own : String} (C : CM D ad cA X p s m args meth c cc own nL) {i : Int32} {v : Int32} (hv : ga σ 26 i.toNatClampNeg = v) (hin : inb i 4000 = true) (hd : decode cc pc = .ok (.iaload, 1)) (k : ZM D ad cA p l e R s m args below meth c nL Q (pc + 1) lv (.int v :: st) σ) : ZM D ad cA p l e R s m args below meth c nL Q pc lv (.int i :: .ref (ad 26) :: st) σ := by
  subst hv
  exact z_iald C (t0 := 25) (q0 := 26) rfl rfl hin hd k
set_option maxHeartbeats 4000000 in
set_option maxRecDepth 100000 in
theorem asM_26 {D : va_G} {ad : Nat → Nat} {cA : Nat → ClassId} {X : State → Prop} {p : Program} {l : Launch} {e : Env} {R : Room} {s : State} {m : MethodId} {args : Array Value} {below : List Frame} {meth : Method} {c : Code} {cc : ByteArray} {nL : Nat} {Q : State → Prop} {pc : Nat} {lv : List (Nat × Value)} {st : List Value} {σ : zS} {own : String} (C : CM D ad cA X p s m args meth c cc own nL) {i : Int32} {v : Int32} (hin : inb i 4000 = true) (hd : decode cc pc = .ok (.iastore, 1)) (k : ZM D ad cA p l e R s m args below meth c nL Q (pc + 1) lv st (sa σ 26 i.toNatClampNeg v)) : ZM D ad cA p l e R s m args below meth c nL Q pc lv (.int v :: .int i :: .ref (ad 26) :: st) σ :=
  z_iast C (t0 := 25) (q0 := 26) rfl rfl hin rfl hd k
set_option maxHeartbeats 4000000 in
set_option maxRecDepth 100000 in
theorem gM_Md_94 {D : va_G} {ad : Nat → Nat} {cA : Nat → ClassId} {X : State → Prop} {p : Program} {l : Launch} {e : Env} {R : Room} {s : State} {m : MethodId} {args : Array Value} {below : List Frame} {meth : Method} {c : Code} {cc : ByteArray} {nL : Nat} {Q : State → Prop} {pc : Nat} {lv : List (Nat × Value)} {st : List Value} {σ : zS} (C : CM D ad cA X p s m args meth c cc "KindRoundsModel" nL) (hd : decode cc pc = .ok (.getfield 94, 3)) (k : ZM D ad cA p l e R s m args below meth c nL Q (pc + 3) lv (.ref (ad 27) :: st) σ) : ZM D ad cA p l e R s m args below meth c nL Q pc lv (.ref (ad 0) :: st) σ :=
  z_get C 44 mM_69 i_Md rfl oM_0 (Nat.le_of_ble_eq_true rfl) rfl rfl hd k
set_option maxHeartbeats 4000000 in
set_option maxRecDepth 100000 in
theorem alM_27 {D : va_G} {ad : Nat → Nat} {cA : Nat → ClassId} {X : State → Prop} {p : Program} {l : Launch} {e : Env} {R : Room} {s : State} {m : MethodId} {args : Array Value} {below : List Frame} {meth : Method} {c : Code} {cc : ByteArray} {nL : Nat} {Q : State → Prop} {pc : Nat} {lv : List (Nat × Value)} {st : List Value} {σ : zS} {own : String} (C : CM D ad cA X p s m args meth c cc own nL) {i : Int32} {v : Int32} (hv : ga σ 27 i.toNatClampNeg = v) (hin : inb i 4000 = true) (hd : decode cc pc = .ok (.iaload, 1)) (k : ZM D ad cA p l e R s m args below meth c nL Q (pc + 1) lv (.int v :: st) σ) : ZM D ad cA p l e R s m args below meth c nL Q pc lv (.int i :: .ref (ad 27) :: st) σ := by
  subst hv
  exact z_iald C (t0 := 26) (q0 := 27) rfl rfl hin hd k
set_option maxHeartbeats 4000000 in
set_option maxRecDepth 100000 in
theorem asM_27 {D : va_G} {ad : Nat → Nat} {cA : Nat → ClassId} {X : State → Prop} {p : Program} {l : Launch} {e : Env} {R : Room} {s : State} {m : MethodId} {args : Array Value} {below : List Frame} {meth : Method} {c : Code} {cc : ByteArray} {nL : Nat} {Q : State → Prop} {pc : Nat} {lv : List (Nat × Value)} {st : List Value} {σ : zS} {own : String} (C : CM D ad cA X p s m args meth c cc own nL) {i : Int32} {v : Int32} (hin : inb i 4000 = true) (hd : decode cc pc = .ok (.iastore, 1)) (k : ZM D ad cA p l e R s m args below meth c nL Q (pc + 1) lv st (sa σ 27 i.toNatClampNeg v)) : ZM D ad cA p l e R s m args below meth c nL Q pc lv (.int v :: .int i :: .ref (ad 27) :: st) σ :=
  z_iast C (t0 := 26) (q0 := 27) rfl rfl hin rfl hd k
set_option maxHeartbeats 4000000 in
set_option maxRecDepth 100000 in
theorem gM_Md_97 {D : va_G} {ad : Nat → Nat} {cA : Nat → ClassId} {X : State → Prop} {p : Program} {l : Launch} {e : Env} {R : Room} {s : State} {m : MethodId} {args : Array Value} {below : List Frame} {meth : Method} {c : Code} {cc : ByteArray} {nL : Nat} {Q : State → Prop} {pc : Nat} {lv : List (Nat × Value)} {st : List Value} {σ : zS} (C : CM D ad cA X p s m args meth c cc "KindRoundsModel" nL) (hd : decode cc pc = .ok (.getfield 97, 3)) (k : ZM D ad cA p l e R s m args below meth c nL Q (pc + 3) lv (.ref (ad 28) :: st) σ) : ZM D ad cA p l e R s m args below meth c nL Q pc lv (.ref (ad 0) :: st) σ :=
  z_get C 45 mM_70 i_Md rfl oM_0 (Nat.le_of_ble_eq_true rfl) rfl rfl hd k
set_option maxHeartbeats 4000000 in
set_option maxRecDepth 100000 in
theorem alM_28 {D : va_G} {ad : Nat → Nat} {cA : Nat → ClassId} {X : State → Prop} {p : Program} {l : Launch} {e : Env} {R : Room} {s : State} {m : MethodId} {args : Array Value} {below : List Frame} {meth : Method} {c : Code} {cc : ByteArray} {nL : Nat} {Q : State → Prop} {pc : Nat} {lv : List (Nat × Value)} {st : List Value} {σ : zS} {own : String} (C : CM D ad cA X p s m args meth c cc own nL) {i : Int32} {v : Int32} (hv : ga σ 28 i.toNatClampNeg = v) (hin : inb i 4000 = true) (hd : decode cc pc = .ok (.iaload, 1)) (k : ZM D ad cA p l e R s m args below meth c nL Q (pc + 1) lv (.int v :: st) σ) : ZM D ad cA p l e R s m args below meth c nL Q pc lv (.int i :: .ref (ad 28) :: st) σ := by
  subst hv
  exact z_iald C (t0 := 27) (q0 := 28) rfl rfl hin hd k
set_option maxHeartbeats 4000000 in
set_option maxRecDepth 100000 in
theorem asM_28 {D : va_G} {ad : Nat → Nat} {cA : Nat → ClassId} {X : State → Prop} {p : Program} {l : Launch} {e : Env} {R : Room} {s : State} {m : MethodId} {args : Array Value} {below : List Frame} {meth : Method} {c : Code} {cc : ByteArray} {nL : Nat} {Q : State → Prop} {pc : Nat} {lv : List (Nat × Value)} {st : List Value} {σ : zS} {own : String} (C : CM D ad cA X p s m args meth c cc own nL) {i : Int32} {v : Int32} (hin : inb i 4000 = true) (hd : decode cc pc = .ok (.iastore, 1)) (k : ZM D ad cA p l e R s m args below meth c nL Q (pc + 1) lv st (sa σ 28 i.toNatClampNeg v)) : ZM D ad cA p l e R s m args below meth c nL Q pc lv (.int v :: .int i :: .ref (ad 28) :: st) σ :=
  z_iast C (t0 := 27) (q0 := 28) rfl rfl hin rfl hd k
set_option maxHeartbeats 4000000 in
set_option maxRecDepth 100000 in
theorem gM_Md_100 {D : va_G} {ad : Nat → Nat} {cA : Nat → ClassId} {X : State → Prop} {p : Program} {l : Launch} {e : Env} {R : Room} {s : State} {m : MethodId} {args : Array Value} {below : List Frame} {meth : Method} {c : Code} {cc : ByteArray} {nL : Nat} {Q : State → Prop} {pc : Nat} {lv : List (Nat × Value)} {st : List Value} {σ : zS} (C : CM D ad cA X p s m args meth c cc "KindRoundsModel" nL) (hd : decode cc pc = .ok (.getfield 100, 3)) (k : ZM D ad cA p l e R s m args below meth c nL Q (pc + 3) lv (.ref (ad 29) :: st) σ) : ZM D ad cA p l e R s m args below meth c nL Q pc lv (.ref (ad 0) :: st) σ :=
  z_get C 46 mM_71 i_Md rfl oM_0 (Nat.le_of_ble_eq_true rfl) rfl rfl hd k
set_option maxHeartbeats 4000000 in
set_option maxRecDepth 100000 in
theorem alM_29 {D : va_G} {ad : Nat → Nat} {cA : Nat → ClassId} {X : State → Prop} {p : Program} {l : Launch} {e : Env} {R : Room} {s : State} {m : MethodId} {args : Array Value} {below : List Frame} {meth : Method} {c : Code} {cc : ByteArray} {nL : Nat} {Q : State → Prop} {pc : Nat} {lv : List (Nat × Value)} {st : List Value} {σ : zS} {own : String} (C : CM D ad cA X p s m args meth c cc own nL) {i : Int32} {v : Int32} (hv : ga σ 29 i.toNatClampNeg = v) (hin : inb i 4000 = true) (hd : decode cc pc = .ok (.iaload, 1)) (k : ZM D ad cA p l e R s m args below meth c nL Q (pc + 1) lv (.int v :: st) σ) : ZM D ad cA p l e R s m args below meth c nL Q pc lv (.int i :: .ref (ad 29) :: st) σ := by
  subst hv
  exact z_iald C (t0 := 28) (q0 := 29) rfl rfl hin hd k
set_option maxHeartbeats 4000000 in
set_option maxRecDepth 100000 in
theorem asM_29 {D : va_G} {ad : Nat → Nat} {cA : Nat → ClassId} {X : State → Prop} {p : Program} {l : Launch} {e : Env} {R : Room} {s : State} {m : MethodId} {args : Array Value} {below : List Frame} {meth : Method} {c : Code} {cc : ByteArray} {nL : Nat} {Q : State → Prop} {pc : Nat} {lv : List (Nat × Value)} {st : List Value} {σ : zS} {own : String} (C : CM D ad cA X p s m args meth c cc own nL) {i : Int32} {v : Int32} (hin : inb i 4000 = true) (hd : decode cc pc = .ok (.iastore, 1)) (k : ZM D ad cA p l e R s m args below meth c nL Q (pc + 1) lv st (sa σ 29 i.toNatClampNeg v)) : ZM D ad cA p l e R s m args below meth c nL Q pc lv (.int v :: .int i :: .ref (ad 29) :: st) σ :=
  z_iast C (t0 := 28) (q0 := 29) rfl rfl hin rfl hd k
set_option maxHeartbeats 4000000 in
set_option maxRecDepth 100000 in
theorem pM_Md_209 {D : va_G} {ad : Nat → Nat} {cA : Nat → ClassId} {X : State → Prop} {p : Program} {l : Launch} {e : Env} {R : Room} {s : State} {m : MethodId} {args : Array Value} {below : List Frame} {meth : Method} {c : Code} {cc : ByteArray} {nL : Nat} {Q : State → Prop} {pc : Nat} {lv : List (Nat × Value)} {st : List Value} {σ : zS} (C : CM D ad cA X p s m args meth c cc "KindRoundsModel" nL) {v : Int32} (hd : decode cc pc = .ok (.putfield 209, 3)) (k : ZM D ad cA p l e R s m args below meth c nL Q (pc + 3) lv st (si σ 48 v)) : ZM D ad cA p l e R s m args below meth c nL Q pc lv (.int v :: .ref (ad 0) :: st) σ :=
  z_put C 48 (ty := .int) mM_68 i_Md t_Md t_Md_ok n_Md rfl oM_0 (Nat.le_of_ble_eq_true rfl) rfl rfl rfl rfl rfl (Nat.le_of_ble_eq_true rfl) rfl hd k
set_option maxHeartbeats 4000000 in
set_option maxRecDepth 100000 in
theorem gM_Md_109 {D : va_G} {ad : Nat → Nat} {cA : Nat → ClassId} {X : State → Prop} {p : Program} {l : Launch} {e : Env} {R : Room} {s : State} {m : MethodId} {args : Array Value} {below : List Frame} {meth : Method} {c : Code} {cc : ByteArray} {nL : Nat} {Q : State → Prop} {pc : Nat} {lv : List (Nat × Value)} {st : List Value} {σ : zS} (C : CM D ad cA X p s m args meth c cc "KindRoundsModel" nL) (hd : decode cc pc = .ok (.getfield 109, 3)) (k : ZM D ad cA p l e R s m args below meth c nL Q (pc + 3) lv (.ref (ad 32) :: st) σ) : ZM D ad cA p l e R s m args below meth c nL Q pc lv (.ref (ad 0) :: st) σ :=
  z_get C 51 mM_72 i_Md rfl oM_0 (Nat.le_of_ble_eq_true rfl) rfl rfl hd k
set_option maxHeartbeats 4000000 in
set_option maxRecDepth 100000 in
theorem alM_32 {D : va_G} {ad : Nat → Nat} {cA : Nat → ClassId} {X : State → Prop} {p : Program} {l : Launch} {e : Env} {R : Room} {s : State} {m : MethodId} {args : Array Value} {below : List Frame} {meth : Method} {c : Code} {cc : ByteArray} {nL : Nat} {Q : State → Prop} {pc : Nat} {lv : List (Nat × Value)} {st : List Value} {σ : zS} {own : String} (C : CM D ad cA X p s m args meth c cc own nL) {i : Int32} {v : Int32} (hv : ga σ 32 i.toNatClampNeg = v) (hin : inb i 12 = true) (hd : decode cc pc = .ok (.iaload, 1)) (k : ZM D ad cA p l e R s m args below meth c nL Q (pc + 1) lv (.int v :: st) σ) : ZM D ad cA p l e R s m args below meth c nL Q pc lv (.int i :: .ref (ad 32) :: st) σ := by
  subst hv
  exact z_iald C (t0 := 31) (q0 := 32) rfl rfl hin hd k
set_option maxHeartbeats 4000000 in
set_option maxRecDepth 100000 in
theorem asM_32 {D : va_G} {ad : Nat → Nat} {cA : Nat → ClassId} {X : State → Prop} {p : Program} {l : Launch} {e : Env} {R : Room} {s : State} {m : MethodId} {args : Array Value} {below : List Frame} {meth : Method} {c : Code} {cc : ByteArray} {nL : Nat} {Q : State → Prop} {pc : Nat} {lv : List (Nat × Value)} {st : List Value} {σ : zS} {own : String} (C : CM D ad cA X p s m args meth c cc own nL) {i : Int32} {v : Int32} (hin : inb i 12 = true) (hd : decode cc pc = .ok (.iastore, 1)) (k : ZM D ad cA p l e R s m args below meth c nL Q (pc + 1) lv st (sa σ 32 i.toNatClampNeg v)) : ZM D ad cA p l e R s m args below meth c nL Q pc lv (.int v :: .int i :: .ref (ad 32) :: st) σ :=
  z_iast C (t0 := 31) (q0 := 32) rfl rfl hin rfl hd k
set_option maxHeartbeats 4000000 in
set_option maxRecDepth 100000 in
theorem gM_Md_106 {D : va_G} {ad : Nat → Nat} {cA : Nat → ClassId} {X : State → Prop} {p : Program} {l : Launch} {e : Env} {R : Room} {s : State} {m : MethodId} {args : Array Value} {below : List Frame} {meth : Method} {c : Code} {cc : ByteArray} {nL : Nat} {Q : State → Prop} {pc : Nat} {lv : List (Nat × Value)} {st : List Value} {σ : zS} (C : CM D ad cA X p s m args meth c cc "KindRoundsModel" nL) (hd : decode cc pc = .ok (.getfield 106, 3)) (k : ZM D ad cA p l e R s m args below meth c nL Q (pc + 3) lv (.ref (ad 31) :: st) σ) : ZM D ad cA p l e R s m args below meth c nL Q pc lv (.ref (ad 0) :: st) σ :=
  z_get C 50 mM_74 i_Md rfl oM_0 (Nat.le_of_ble_eq_true rfl) rfl rfl hd k
set_option maxHeartbeats 4000000 in
set_option maxRecDepth 100000 in
theorem alM_31 {D : va_G} {ad : Nat → Nat} {cA : Nat → ClassId} {X : State → Prop} {p : Program} {l : Launch} {e : Env} {R : Room} {s : State} {m : MethodId} {args : Array Value} {below : List Frame} {meth : Method} {c : Code} {cc : ByteArray} {nL : Nat} {Q : State → Prop} {pc : Nat} {lv : List (Nat × Value)} {st : List Value} {σ : zS} {own : String} (C : CM D ad cA X p s m args meth c cc own nL) {i : Int32} {v : Int32} (hv : ga σ 31 i.toNatClampNeg = v) (hin : inb i 12 = true) (hd : decode cc pc = .ok (.iaload, 1)) (k : ZM D ad cA p l e R s m args below meth c nL Q (pc + 1) lv (.int v :: st) σ) : ZM D ad cA p l e R s m args below meth c nL Q pc lv (.int i :: .ref (ad 31) :: st) σ := by
  subst hv
  exact z_iald C (t0 := 30) (q0 := 31) rfl rfl hin hd k
set_option maxHeartbeats 4000000 in
set_option maxRecDepth 100000 in
theorem asM_31 {D : va_G} {ad : Nat → Nat} {cA : Nat → ClassId} {X : State → Prop} {p : Program} {l : Launch} {e : Env} {R : Room} {s : State} {m : MethodId} {args : Array Value} {below : List Frame} {meth : Method} {c : Code} {cc : ByteArray} {nL : Nat} {Q : State → Prop} {pc : Nat} {lv : List (Nat × Value)} {st : List Value} {σ : zS} {own : String} (C : CM D ad cA X p s m args meth c cc own nL) {i : Int32} {v : Int32} (hin : inb i 12 = true) (hd : decode cc pc = .ok (.iastore, 1)) (k : ZM D ad cA p l e R s m args below meth c nL Q (pc + 1) lv st (sa σ 31 i.toNatClampNeg v)) : ZM D ad cA p l e R s m args below meth c nL Q pc lv (.int v :: .int i :: .ref (ad 31) :: st) σ :=
  z_iast C (t0 := 30) (q0 := 31) rfl rfl hin rfl hd k
set_option maxHeartbeats 4000000 in
set_option maxRecDepth 100000 in
theorem gM_Md_206 {D : va_G} {ad : Nat → Nat} {cA : Nat → ClassId} {X : State → Prop} {p : Program} {l : Launch} {e : Env} {R : Room} {s : State} {m : MethodId} {args : Array Value} {below : List Frame} {meth : Method} {c : Code} {cc : ByteArray} {nL : Nat} {Q : State → Prop} {pc : Nat} {lv : List (Nat × Value)} {st : List Value} {σ : zS} (C : CM D ad cA X p s m args meth c cc "KindRoundsModel" nL) {v : Int32} (hv : gi σ 49 = v) (hd : decode cc pc = .ok (.getfield 206, 3)) (k : ZM D ad cA p l e R s m args below meth c nL Q (pc + 3) lv (.int v :: st) σ) : ZM D ad cA p l e R s m args below meth c nL Q pc lv (.ref (ad 0) :: st) σ := by
  subst hv
  exact z_get C 49 mM_77 i_Md rfl oM_0 (Nat.le_of_ble_eq_true rfl) rfl rfl hd k
set_option maxHeartbeats 4000000 in
set_option maxRecDepth 100000 in
theorem pM_Md_354 {D : va_G} {ad : Nat → Nat} {cA : Nat → ClassId} {X : State → Prop} {p : Program} {l : Launch} {e : Env} {R : Room} {s : State} {m : MethodId} {args : Array Value} {below : List Frame} {meth : Method} {c : Code} {cc : ByteArray} {nL : Nat} {Q : State → Prop} {pc : Nat} {lv : List (Nat × Value)} {st : List Value} {σ : zS} (C : CM D ad cA X p s m args meth c cc "KindRoundsModel" nL) {v : Int32} (hb : isB v = true) (hd : decode cc pc = .ok (.putfield 354, 3)) (k : ZM D ad cA p l e R s m args below meth c nL Q (pc + 3) lv st (si σ 10 v)) : ZM D ad cA p l e R s m args below meth c nL Q pc lv (.int v :: .ref (ad 0) :: st) σ :=
  z_put C 10 (ty := .boolean) mM_78 i_Md t_Md t_Md_ok n_Md rfl oM_0 (Nat.le_of_ble_eq_true rfl) rfl rfl rfl (isB_n hb) (isB_f hb) (Nat.le_of_ble_eq_true rfl) rfl hd k
set_option maxHeartbeats 4000000 in
set_option maxRecDepth 100000 in
theorem pM_Md_282 {D : va_G} {ad : Nat → Nat} {cA : Nat → ClassId} {X : State → Prop} {p : Program} {l : Launch} {e : Env} {R : Room} {s : State} {m : MethodId} {args : Array Value} {below : List Frame} {meth : Method} {c : Code} {cc : ByteArray} {nL : Nat} {Q : State → Prop} {pc : Nat} {lv : List (Nat × Value)} {st : List Value} {σ : zS} (C : CM D ad cA X p s m args meth c cc "KindRoundsModel" nL) {v : Int32} (hd : decode cc pc = .ok (.putfield 282, 3)) (k : ZM D ad cA p l e R s m args below meth c nL Q (pc + 3) lv st (si σ 32 v)) : ZM D ad cA p l e R s m args below meth c nL Q pc lv (.int v :: .ref (ad 0) :: st) σ :=
  z_put C 32 (ty := .int) mM_27 i_Md t_Md t_Md_ok n_Md rfl oM_0 (Nat.le_of_ble_eq_true rfl) rfl rfl rfl rfl rfl (Nat.le_of_ble_eq_true rfl) rfl hd k
set_option maxHeartbeats 4000000 in
set_option maxRecDepth 100000 in
theorem pM_Md_310 {D : va_G} {ad : Nat → Nat} {cA : Nat → ClassId} {X : State → Prop} {p : Program} {l : Launch} {e : Env} {R : Room} {s : State} {m : MethodId} {args : Array Value} {below : List Frame} {meth : Method} {c : Code} {cc : ByteArray} {nL : Nat} {Q : State → Prop} {pc : Nat} {lv : List (Nat × Value)} {st : List Value} {σ : zS} (C : CM D ad cA X p s m args meth c cc "KindRoundsModel" nL) {v : Int32} (hd : decode cc pc = .ok (.putfield 310, 3)) (k : ZM D ad cA p l e R s m args below meth c nL Q (pc + 3) lv st (si σ 67 v)) : ZM D ad cA p l e R s m args below meth c nL Q pc lv (.int v :: .ref (ad 0) :: st) σ :=
  z_put C 67 (ty := .int) mM_55 i_Md t_Md t_Md_ok n_Md rfl oM_0 (Nat.le_of_ble_eq_true rfl) rfl rfl rfl rfl rfl (Nat.le_of_ble_eq_true rfl) rfl hd k
set_option maxHeartbeats 4000000 in
set_option maxRecDepth 100000 in
theorem gM_Md_133 {D : va_G} {ad : Nat → Nat} {cA : Nat → ClassId} {X : State → Prop} {p : Program} {l : Launch} {e : Env} {R : Room} {s : State} {m : MethodId} {args : Array Value} {below : List Frame} {meth : Method} {c : Code} {cc : ByteArray} {nL : Nat} {Q : State → Prop} {pc : Nat} {lv : List (Nat × Value)} {st : List Value} {σ : zS} (C : CM D ad cA X p s m args meth c cc "KindRoundsModel" nL) (hd : decode cc pc = .ok (.getfield 133, 3)) (k : ZM D ad cA p l e R s m args below meth c nL Q (pc + 3) lv (.ref (ad 40) :: st) σ) : ZM D ad cA p l e R s m args below meth c nL Q pc lv (.ref (ad 0) :: st) σ :=
  z_get C 60 mM_79 i_Md rfl oM_0 (Nat.le_of_ble_eq_true rfl) rfl rfl hd k
set_option maxHeartbeats 4000000 in
set_option maxRecDepth 100000 in
theorem alM_40 {D : va_G} {ad : Nat → Nat} {cA : Nat → ClassId} {X : State → Prop} {p : Program} {l : Launch} {e : Env} {R : Room} {s : State} {m : MethodId} {args : Array Value} {below : List Frame} {meth : Method} {c : Code} {cc : ByteArray} {nL : Nat} {Q : State → Prop} {pc : Nat} {lv : List (Nat × Value)} {st : List Value} {σ : zS} {own : String} (C : CM D ad cA X p s m args meth c cc own nL) {i : Int32} {v : Int32} (hv : ga σ 40 i.toNatClampNeg = v) (hin : inb i 17 = true) (hd : decode cc pc = .ok (.iaload, 1)) (k : ZM D ad cA p l e R s m args below meth c nL Q (pc + 1) lv (.int v :: st) σ) : ZM D ad cA p l e R s m args below meth c nL Q pc lv (.int i :: .ref (ad 40) :: st) σ := by
  subst hv
  exact z_iald C (t0 := 39) (q0 := 40) rfl rfl hin hd k
set_option maxHeartbeats 4000000 in
set_option maxRecDepth 100000 in
theorem asM_40 {D : va_G} {ad : Nat → Nat} {cA : Nat → ClassId} {X : State → Prop} {p : Program} {l : Launch} {e : Env} {R : Room} {s : State} {m : MethodId} {args : Array Value} {below : List Frame} {meth : Method} {c : Code} {cc : ByteArray} {nL : Nat} {Q : State → Prop} {pc : Nat} {lv : List (Nat × Value)} {st : List Value} {σ : zS} {own : String} (C : CM D ad cA X p s m args meth c cc own nL) {i : Int32} {v : Int32} (hin : inb i 17 = true) (hd : decode cc pc = .ok (.iastore, 1)) (k : ZM D ad cA p l e R s m args below meth c nL Q (pc + 1) lv st (sa σ 40 i.toNatClampNeg v)) : ZM D ad cA p l e R s m args below meth c nL Q pc lv (.int v :: .int i :: .ref (ad 40) :: st) σ :=
  z_iast C (t0 := 39) (q0 := 40) rfl rfl hin rfl hd k
set_option maxHeartbeats 4000000 in
set_option maxRecDepth 100000 in
theorem gM_Md_364 {D : va_G} {ad : Nat → Nat} {cA : Nat → ClassId} {X : State → Prop} {p : Program} {l : Launch} {e : Env} {R : Room} {s : State} {m : MethodId} {args : Array Value} {below : List Frame} {meth : Method} {c : Code} {cc : ByteArray} {nL : Nat} {Q : State → Prop} {pc : Nat} {lv : List (Nat × Value)} {st : List Value} {σ : zS} (C : CM D ad cA X p s m args meth c cc "KindRoundsModel" nL) {v : Int32} (hv : gi σ 52 = v) (hd : decode cc pc = .ok (.getfield 364, 3)) (k : ZM D ad cA p l e R s m args below meth c nL Q (pc + 3) lv (.int v :: st) σ) : ZM D ad cA p l e R s m args below meth c nL Q pc lv (.ref (ad 0) :: st) σ := by
  subst hv
  exact z_get C 52 mM_81 i_Md rfl oM_0 (Nat.le_of_ble_eq_true rfl) rfl rfl hd k
set_option maxHeartbeats 4000000 in
set_option maxRecDepth 100000 in
theorem pM_Md_364 {D : va_G} {ad : Nat → Nat} {cA : Nat → ClassId} {X : State → Prop} {p : Program} {l : Launch} {e : Env} {R : Room} {s : State} {m : MethodId} {args : Array Value} {below : List Frame} {meth : Method} {c : Code} {cc : ByteArray} {nL : Nat} {Q : State → Prop} {pc : Nat} {lv : List (Nat × Value)} {st : List Value} {σ : zS} (C : CM D ad cA X p s m args meth c cc "KindRoundsModel" nL) {v : Int32} (hd : decode cc pc = .ok (.putfield 364, 3)) (k : ZM D ad cA p l e R s m args below meth c nL Q (pc + 3) lv st (si σ 52 v)) : ZM D ad cA p l e R s m args below meth c nL Q pc lv (.int v :: .ref (ad 0) :: st) σ :=
  z_put C 52 (ty := .int) mM_81 i_Md t_Md t_Md_ok n_Md rfl oM_0 (Nat.le_of_ble_eq_true rfl) rfl rfl rfl rfl rfl (Nat.le_of_ble_eq_true rfl) rfl hd k
set_option maxHeartbeats 4000000 in
set_option maxRecDepth 100000 in
theorem gM_Md_112 {D : va_G} {ad : Nat → Nat} {cA : Nat → ClassId} {X : State → Prop} {p : Program} {l : Launch} {e : Env} {R : Room} {s : State} {m : MethodId} {args : Array Value} {below : List Frame} {meth : Method} {c : Code} {cc : ByteArray} {nL : Nat} {Q : State → Prop} {pc : Nat} {lv : List (Nat × Value)} {st : List Value} {σ : zS} (C : CM D ad cA X p s m args meth c cc "KindRoundsModel" nL) (hd : decode cc pc = .ok (.getfield 112, 3)) (k : ZM D ad cA p l e R s m args below meth c nL Q (pc + 3) lv (.ref (ad 33) :: st) σ) : ZM D ad cA p l e R s m args below meth c nL Q pc lv (.ref (ad 0) :: st) σ :=
  z_get C 53 mM_82 i_Md rfl oM_0 (Nat.le_of_ble_eq_true rfl) rfl rfl hd k
set_option maxHeartbeats 4000000 in
set_option maxRecDepth 100000 in
theorem alM_33 {D : va_G} {ad : Nat → Nat} {cA : Nat → ClassId} {X : State → Prop} {p : Program} {l : Launch} {e : Env} {R : Room} {s : State} {m : MethodId} {args : Array Value} {below : List Frame} {meth : Method} {c : Code} {cc : ByteArray} {nL : Nat} {Q : State → Prop} {pc : Nat} {lv : List (Nat × Value)} {st : List Value} {σ : zS} {own : String} (C : CM D ad cA X p s m args meth c cc own nL) {i : Int32} {v : Int32} (hv : ga σ 33 i.toNatClampNeg = v) (hin : inb i 17 = true) (hd : decode cc pc = .ok (.iaload, 1)) (k : ZM D ad cA p l e R s m args below meth c nL Q (pc + 1) lv (.int v :: st) σ) : ZM D ad cA p l e R s m args below meth c nL Q pc lv (.int i :: .ref (ad 33) :: st) σ := by
  subst hv
  exact z_iald C (t0 := 32) (q0 := 33) rfl rfl hin hd k
set_option maxHeartbeats 4000000 in
set_option maxRecDepth 100000 in
theorem asM_33 {D : va_G} {ad : Nat → Nat} {cA : Nat → ClassId} {X : State → Prop} {p : Program} {l : Launch} {e : Env} {R : Room} {s : State} {m : MethodId} {args : Array Value} {below : List Frame} {meth : Method} {c : Code} {cc : ByteArray} {nL : Nat} {Q : State → Prop} {pc : Nat} {lv : List (Nat × Value)} {st : List Value} {σ : zS} {own : String} (C : CM D ad cA X p s m args meth c cc own nL) {i : Int32} {v : Int32} (hin : inb i 17 = true) (hd : decode cc pc = .ok (.iastore, 1)) (k : ZM D ad cA p l e R s m args below meth c nL Q (pc + 1) lv st (sa σ 33 i.toNatClampNeg v)) : ZM D ad cA p l e R s m args below meth c nL Q pc lv (.int v :: .int i :: .ref (ad 33) :: st) σ :=
  z_iast C (t0 := 32) (q0 := 33) rfl rfl hin rfl hd k
set_option maxHeartbeats 4000000 in
set_option maxRecDepth 100000 in
theorem gM_Md_115 {D : va_G} {ad : Nat → Nat} {cA : Nat → ClassId} {X : State → Prop} {p : Program} {l : Launch} {e : Env} {R : Room} {s : State} {m : MethodId} {args : Array Value} {below : List Frame} {meth : Method} {c : Code} {cc : ByteArray} {nL : Nat} {Q : State → Prop} {pc : Nat} {lv : List (Nat × Value)} {st : List Value} {σ : zS} (C : CM D ad cA X p s m args meth c cc "KindRoundsModel" nL) (hd : decode cc pc = .ok (.getfield 115, 3)) (k : ZM D ad cA p l e R s m args below meth c nL Q (pc + 3) lv (.ref (ad 34) :: st) σ) : ZM D ad cA p l e R s m args below meth c nL Q pc lv (.ref (ad 0) :: st) σ :=
  z_get C 54 mM_83 i_Md rfl oM_0 (Nat.le_of_ble_eq_true rfl) rfl rfl hd k
set_option maxHeartbeats 4000000 in
set_option maxRecDepth 100000 in
theorem alM_34 {D : va_G} {ad : Nat → Nat} {cA : Nat → ClassId} {X : State → Prop} {p : Program} {l : Launch} {e : Env} {R : Room} {s : State} {m : MethodId} {args : Array Value} {below : List Frame} {meth : Method} {c : Code} {cc : ByteArray} {nL : Nat} {Q : State → Prop} {pc : Nat} {lv : List (Nat × Value)} {st : List Value} {σ : zS} {own : String} (C : CM D ad cA X p s m args meth c cc own nL) {i : Int32} {v : Int64} (hv : gb σ 34 i.toNatClampNeg = v) (hin : inb i 17 = true) (hd : decode cc pc = .ok (.laload, 1)) (k : ZM D ad cA p l e R s m args below meth c nL Q (pc + 1) lv (.long v :: st) σ) : ZM D ad cA p l e R s m args below meth c nL Q pc lv (.int i :: .ref (ad 34) :: st) σ := by
  subst hv
  exact z_lald C (t0 := 33) (q0 := 34) rfl rfl hin hd k
set_option maxHeartbeats 4000000 in
set_option maxRecDepth 100000 in
theorem asM_34 {D : va_G} {ad : Nat → Nat} {cA : Nat → ClassId} {X : State → Prop} {p : Program} {l : Launch} {e : Env} {R : Room} {s : State} {m : MethodId} {args : Array Value} {below : List Frame} {meth : Method} {c : Code} {cc : ByteArray} {nL : Nat} {Q : State → Prop} {pc : Nat} {lv : List (Nat × Value)} {st : List Value} {σ : zS} {own : String} (C : CM D ad cA X p s m args meth c cc own nL) {i : Int32} {v : Int64} (hin : inb i 17 = true) (hd : decode cc pc = .ok (.lastore, 1)) (k : ZM D ad cA p l e R s m args below meth c nL Q (pc + 1) lv st (sb σ 34 i.toNatClampNeg v)) : ZM D ad cA p l e R s m args below meth c nL Q pc lv (.long v :: .int i :: .ref (ad 34) :: st) σ :=
  z_last C (t0 := 33) (q0 := 34) rfl rfl hin rfl hd k
set_option maxHeartbeats 4000000 in
set_option maxRecDepth 100000 in
theorem gM_Md_118 {D : va_G} {ad : Nat → Nat} {cA : Nat → ClassId} {X : State → Prop} {p : Program} {l : Launch} {e : Env} {R : Room} {s : State} {m : MethodId} {args : Array Value} {below : List Frame} {meth : Method} {c : Code} {cc : ByteArray} {nL : Nat} {Q : State → Prop} {pc : Nat} {lv : List (Nat × Value)} {st : List Value} {σ : zS} (C : CM D ad cA X p s m args meth c cc "KindRoundsModel" nL) (hd : decode cc pc = .ok (.getfield 118, 3)) (k : ZM D ad cA p l e R s m args below meth c nL Q (pc + 3) lv (.ref (ad 35) :: st) σ) : ZM D ad cA p l e R s m args below meth c nL Q pc lv (.ref (ad 0) :: st) σ :=
  z_get C 55 mM_84 i_Md rfl oM_0 (Nat.le_of_ble_eq_true rfl) rfl rfl hd k
set_option maxHeartbeats 4000000 in
set_option maxRecDepth 100000 in
theorem alM_35 {D : va_G} {ad : Nat → Nat} {cA : Nat → ClassId} {X : State → Prop} {p : Program} {l : Launch} {e : Env} {R : Room} {s : State} {m : MethodId} {args : Array Value} {below : List Frame} {meth : Method} {c : Code} {cc : ByteArray} {nL : Nat} {Q : State → Prop} {pc : Nat} {lv : List (Nat × Value)} {st : List Value} {σ : zS} {own : String} (C : CM D ad cA X p s m args meth c cc own nL) {i : Int32} {v : Int32} (hv : ga σ 35 i.toNatClampNeg = v) (hin : inb i 17 = true) (hd : decode cc pc = .ok (.iaload, 1)) (k : ZM D ad cA p l e R s m args below meth c nL Q (pc + 1) lv (.int v :: st) σ) : ZM D ad cA p l e R s m args below meth c nL Q pc lv (.int i :: .ref (ad 35) :: st) σ := by
  subst hv
  exact z_iald C (t0 := 34) (q0 := 35) rfl rfl hin hd k
set_option maxHeartbeats 4000000 in
set_option maxRecDepth 100000 in
theorem asM_35 {D : va_G} {ad : Nat → Nat} {cA : Nat → ClassId} {X : State → Prop} {p : Program} {l : Launch} {e : Env} {R : Room} {s : State} {m : MethodId} {args : Array Value} {below : List Frame} {meth : Method} {c : Code} {cc : ByteArray} {nL : Nat} {Q : State → Prop} {pc : Nat} {lv : List (Nat × Value)} {st : List Value} {σ : zS} {own : String} (C : CM D ad cA X p s m args meth c cc own nL) {i : Int32} {v : Int32} (hin : inb i 17 = true) (hd : decode cc pc = .ok (.iastore, 1)) (k : ZM D ad cA p l e R s m args below meth c nL Q (pc + 1) lv st (sa σ 35 i.toNatClampNeg v)) : ZM D ad cA p l e R s m args below meth c nL Q pc lv (.int v :: .int i :: .ref (ad 35) :: st) σ :=
  z_iast C (t0 := 34) (q0 := 35) rfl rfl hin rfl hd k
set_option maxHeartbeats 4000000 in
set_option maxRecDepth 100000 in
theorem gM_Md_121 {D : va_G} {ad : Nat → Nat} {cA : Nat → ClassId} {X : State → Prop} {p : Program} {l : Launch} {e : Env} {R : Room} {s : State} {m : MethodId} {args : Array Value} {below : List Frame} {meth : Method} {c : Code} {cc : ByteArray} {nL : Nat} {Q : State → Prop} {pc : Nat} {lv : List (Nat × Value)} {st : List Value} {σ : zS} (C : CM D ad cA X p s m args meth c cc "KindRoundsModel" nL) (hd : decode cc pc = .ok (.getfield 121, 3)) (k : ZM D ad cA p l e R s m args below meth c nL Q (pc + 3) lv (.ref (ad 36) :: st) σ) : ZM D ad cA p l e R s m args below meth c nL Q pc lv (.ref (ad 0) :: st) σ :=
  z_get C 56 mM_85 i_Md rfl oM_0 (Nat.le_of_ble_eq_true rfl) rfl rfl hd k
set_option maxHeartbeats 4000000 in
set_option maxRecDepth 100000 in
theorem alM_36 {D : va_G} {ad : Nat → Nat} {cA : Nat → ClassId} {X : State → Prop} {p : Program} {l : Launch} {e : Env} {R : Room} {s : State} {m : MethodId} {args : Array Value} {below : List Frame} {meth : Method} {c : Code} {cc : ByteArray} {nL : Nat} {Q : State → Prop} {pc : Nat} {lv : List (Nat × Value)} {st : List Value} {σ : zS} {own : String} (C : CM D ad cA X p s m args meth c cc own nL) {i : Int32} {v : Int32} (hv : ga σ 36 i.toNatClampNeg = v) (hin : inb i 17 = true) (hd : decode cc pc = .ok (.iaload, 1)) (k : ZM D ad cA p l e R s m args below meth c nL Q (pc + 1) lv (.int v :: st) σ) : ZM D ad cA p l e R s m args below meth c nL Q pc lv (.int i :: .ref (ad 36) :: st) σ := by
  subst hv
  exact z_iald C (t0 := 35) (q0 := 36) rfl rfl hin hd k
set_option maxHeartbeats 4000000 in
set_option maxRecDepth 100000 in
theorem asM_36 {D : va_G} {ad : Nat → Nat} {cA : Nat → ClassId} {X : State → Prop} {p : Program} {l : Launch} {e : Env} {R : Room} {s : State} {m : MethodId} {args : Array Value} {below : List Frame} {meth : Method} {c : Code} {cc : ByteArray} {nL : Nat} {Q : State → Prop} {pc : Nat} {lv : List (Nat × Value)} {st : List Value} {σ : zS} {own : String} (C : CM D ad cA X p s m args meth c cc own nL) {i : Int32} {v : Int32} (hin : inb i 17 = true) (hd : decode cc pc = .ok (.iastore, 1)) (k : ZM D ad cA p l e R s m args below meth c nL Q (pc + 1) lv st (sa σ 36 i.toNatClampNeg v)) : ZM D ad cA p l e R s m args below meth c nL Q pc lv (.int v :: .int i :: .ref (ad 36) :: st) σ :=
  z_iast C (t0 := 35) (q0 := 36) rfl rfl hin rfl hd k
set_option maxHeartbeats 4000000 in
set_option maxRecDepth 100000 in
theorem gM_Md_127 {D : va_G} {ad : Nat → Nat} {cA : Nat → ClassId} {X : State → Prop} {p : Program} {l : Launch} {e : Env} {R : Room} {s : State} {m : MethodId} {args : Array Value} {below : List Frame} {meth : Method} {c : Code} {cc : ByteArray} {nL : Nat} {Q : State → Prop} {pc : Nat} {lv : List (Nat × Value)} {st : List Value} {σ : zS} (C : CM D ad cA X p s m args meth c cc "KindRoundsModel" nL) (hd : decode cc pc = .ok (.getfield 127, 3)) (k : ZM D ad cA p l e R s m args below meth c nL Q (pc + 3) lv (.ref (ad 38) :: st) σ) : ZM D ad cA p l e R s m args below meth c nL Q pc lv (.ref (ad 0) :: st) σ :=
  z_get C 58 mM_86 i_Md rfl oM_0 (Nat.le_of_ble_eq_true rfl) rfl rfl hd k
set_option maxHeartbeats 4000000 in
set_option maxRecDepth 100000 in
theorem alM_38 {D : va_G} {ad : Nat → Nat} {cA : Nat → ClassId} {X : State → Prop} {p : Program} {l : Launch} {e : Env} {R : Room} {s : State} {m : MethodId} {args : Array Value} {below : List Frame} {meth : Method} {c : Code} {cc : ByteArray} {nL : Nat} {Q : State → Prop} {pc : Nat} {lv : List (Nat × Value)} {st : List Value} {σ : zS} {own : String} (C : CM D ad cA X p s m args meth c cc own nL) {i : Int32} {v : Int32} (hv : ga σ 38 i.toNatClampNeg = v) (hin : inb i 17 = true) (hd : decode cc pc = .ok (.iaload, 1)) (k : ZM D ad cA p l e R s m args below meth c nL Q (pc + 1) lv (.int v :: st) σ) : ZM D ad cA p l e R s m args below meth c nL Q pc lv (.int i :: .ref (ad 38) :: st) σ := by
  subst hv
  exact z_iald C (t0 := 37) (q0 := 38) rfl rfl hin hd k
set_option maxHeartbeats 4000000 in
set_option maxRecDepth 100000 in
theorem asM_38 {D : va_G} {ad : Nat → Nat} {cA : Nat → ClassId} {X : State → Prop} {p : Program} {l : Launch} {e : Env} {R : Room} {s : State} {m : MethodId} {args : Array Value} {below : List Frame} {meth : Method} {c : Code} {cc : ByteArray} {nL : Nat} {Q : State → Prop} {pc : Nat} {lv : List (Nat × Value)} {st : List Value} {σ : zS} {own : String} (C : CM D ad cA X p s m args meth c cc own nL) {i : Int32} {v : Int32} (hin : inb i 17 = true) (hd : decode cc pc = .ok (.iastore, 1)) (k : ZM D ad cA p l e R s m args below meth c nL Q (pc + 1) lv st (sa σ 38 i.toNatClampNeg v)) : ZM D ad cA p l e R s m args below meth c nL Q pc lv (.int v :: .int i :: .ref (ad 38) :: st) σ :=
  z_iast C (t0 := 37) (q0 := 38) rfl rfl hin rfl hd k
set_option maxHeartbeats 4000000 in
set_option maxRecDepth 100000 in
theorem gM_Md_130 {D : va_G} {ad : Nat → Nat} {cA : Nat → ClassId} {X : State → Prop} {p : Program} {l : Launch} {e : Env} {R : Room} {s : State} {m : MethodId} {args : Array Value} {below : List Frame} {meth : Method} {c : Code} {cc : ByteArray} {nL : Nat} {Q : State → Prop} {pc : Nat} {lv : List (Nat × Value)} {st : List Value} {σ : zS} (C : CM D ad cA X p s m args meth c cc "KindRoundsModel" nL) (hd : decode cc pc = .ok (.getfield 130, 3)) (k : ZM D ad cA p l e R s m args below meth c nL Q (pc + 3) lv (.ref (ad 39) :: st) σ) : ZM D ad cA p l e R s m args below meth c nL Q pc lv (.ref (ad 0) :: st) σ :=
  z_get C 59 mM_87 i_Md rfl oM_0 (Nat.le_of_ble_eq_true rfl) rfl rfl hd k
set_option maxHeartbeats 4000000 in
set_option maxRecDepth 100000 in
theorem alM_39 {D : va_G} {ad : Nat → Nat} {cA : Nat → ClassId} {X : State → Prop} {p : Program} {l : Launch} {e : Env} {R : Room} {s : State} {m : MethodId} {args : Array Value} {below : List Frame} {meth : Method} {c : Code} {cc : ByteArray} {nL : Nat} {Q : State → Prop} {pc : Nat} {lv : List (Nat × Value)} {st : List Value} {σ : zS} {own : String} (C : CM D ad cA X p s m args meth c cc own nL) {i : Int32} {v : Int32} (hv : ga σ 39 i.toNatClampNeg = v) (hin : inb i 17 = true) (hd : decode cc pc = .ok (.iaload, 1)) (k : ZM D ad cA p l e R s m args below meth c nL Q (pc + 1) lv (.int v :: st) σ) : ZM D ad cA p l e R s m args below meth c nL Q pc lv (.int i :: .ref (ad 39) :: st) σ := by
  subst hv
  exact z_iald C (t0 := 38) (q0 := 39) rfl rfl hin hd k
set_option maxHeartbeats 4000000 in
set_option maxRecDepth 100000 in
theorem asM_39 {D : va_G} {ad : Nat → Nat} {cA : Nat → ClassId} {X : State → Prop} {p : Program} {l : Launch} {e : Env} {R : Room} {s : State} {m : MethodId} {args : Array Value} {below : List Frame} {meth : Method} {c : Code} {cc : ByteArray} {nL : Nat} {Q : State → Prop} {pc : Nat} {lv : List (Nat × Value)} {st : List Value} {σ : zS} {own : String} (C : CM D ad cA X p s m args meth c cc own nL) {i : Int32} {v : Int32} (hin : inb i 17 = true) (hd : decode cc pc = .ok (.iastore, 1)) (k : ZM D ad cA p l e R s m args below meth c nL Q (pc + 1) lv st (sa σ 39 i.toNatClampNeg v)) : ZM D ad cA p l e R s m args below meth c nL Q pc lv (.int v :: .int i :: .ref (ad 39) :: st) σ :=
  z_iast C (t0 := 38) (q0 := 39) rfl rfl hin rfl hd k
set_option maxHeartbeats 4000000 in
set_option maxRecDepth 100000 in
theorem gM_Md_373 {D : va_G} {ad : Nat → Nat} {cA : Nat → ClassId} {X : State → Prop} {p : Program} {l : Launch} {e : Env} {R : Room} {s : State} {m : MethodId} {args : Array Value} {below : List Frame} {meth : Method} {c : Code} {cc : ByteArray} {nL : Nat} {Q : State → Prop} {pc : Nat} {lv : List (Nat × Value)} {st : List Value} {σ : zS} (C : CM D ad cA X p s m args meth c cc "KindRoundsModel" nL) {v : Int32} (hv : gi σ 62 = v) (hd : decode cc pc = .ok (.getfield 373, 3)) (k : ZM D ad cA p l e R s m args below meth c nL Q (pc + 3) lv (.int v :: st) σ) : ZM D ad cA p l e R s m args below meth c nL Q pc lv (.ref (ad 0) :: st) σ := by
  subst hv
  exact z_get C 62 mM_91 i_Md rfl oM_0 (Nat.le_of_ble_eq_true rfl) rfl rfl hd k
set_option maxHeartbeats 4000000 in
set_option maxRecDepth 100000 in
theorem pM_Md_373 {D : va_G} {ad : Nat → Nat} {cA : Nat → ClassId} {X : State → Prop} {p : Program} {l : Launch} {e : Env} {R : Room} {s : State} {m : MethodId} {args : Array Value} {below : List Frame} {meth : Method} {c : Code} {cc : ByteArray} {nL : Nat} {Q : State → Prop} {pc : Nat} {lv : List (Nat × Value)} {st : List Value} {σ : zS} (C : CM D ad cA X p s m args meth c cc "KindRoundsModel" nL) {v : Int32} (hd : decode cc pc = .ok (.putfield 373, 3)) (k : ZM D ad cA p l e R s m args below meth c nL Q (pc + 3) lv st (si σ 62 v)) : ZM D ad cA p l e R s m args below meth c nL Q pc lv (.int v :: .ref (ad 0) :: st) σ :=
  z_put C 62 (ty := .int) mM_91 i_Md t_Md t_Md_ok n_Md rfl oM_0 (Nat.le_of_ble_eq_true rfl) rfl rfl rfl rfl rfl (Nat.le_of_ble_eq_true rfl) rfl hd k
set_option maxHeartbeats 4000000 in
set_option maxRecDepth 100000 in
theorem gM_Md_139 {D : va_G} {ad : Nat → Nat} {cA : Nat → ClassId} {X : State → Prop} {p : Program} {l : Launch} {e : Env} {R : Room} {s : State} {m : MethodId} {args : Array Value} {below : List Frame} {meth : Method} {c : Code} {cc : ByteArray} {nL : Nat} {Q : State → Prop} {pc : Nat} {lv : List (Nat × Value)} {st : List Value} {σ : zS} (C : CM D ad cA X p s m args meth c cc "KindRoundsModel" nL) (hd : decode cc pc = .ok (.getfield 139, 3)) (k : ZM D ad cA p l e R s m args below meth c nL Q (pc + 3) lv (.ref (ad 42) :: st) σ) : ZM D ad cA p l e R s m args below meth c nL Q pc lv (.ref (ad 0) :: st) σ :=
  z_get C 63 mM_92 i_Md rfl oM_0 (Nat.le_of_ble_eq_true rfl) rfl rfl hd k
set_option maxHeartbeats 4000000 in
set_option maxRecDepth 100000 in
theorem alM_42 {D : va_G} {ad : Nat → Nat} {cA : Nat → ClassId} {X : State → Prop} {p : Program} {l : Launch} {e : Env} {R : Room} {s : State} {m : MethodId} {args : Array Value} {below : List Frame} {meth : Method} {c : Code} {cc : ByteArray} {nL : Nat} {Q : State → Prop} {pc : Nat} {lv : List (Nat × Value)} {st : List Value} {σ : zS} {own : String} (C : CM D ad cA X p s m args meth c cc own nL) {i : Int32} {v : Int64} (hv : gb σ 42 i.toNatClampNeg = v) (hin : inb i 300 = true) (hd : decode cc pc = .ok (.laload, 1)) (k : ZM D ad cA p l e R s m args below meth c nL Q (pc + 1) lv (.long v :: st) σ) : ZM D ad cA p l e R s m args below meth c nL Q pc lv (.int i :: .ref (ad 42) :: st) σ := by
  subst hv
  exact z_lald C (t0 := 41) (q0 := 42) rfl rfl hin hd k
set_option maxHeartbeats 4000000 in
set_option maxRecDepth 100000 in
theorem asM_42 {D : va_G} {ad : Nat → Nat} {cA : Nat → ClassId} {X : State → Prop} {p : Program} {l : Launch} {e : Env} {R : Room} {s : State} {m : MethodId} {args : Array Value} {below : List Frame} {meth : Method} {c : Code} {cc : ByteArray} {nL : Nat} {Q : State → Prop} {pc : Nat} {lv : List (Nat × Value)} {st : List Value} {σ : zS} {own : String} (C : CM D ad cA X p s m args meth c cc own nL) {i : Int32} {v : Int64} (hin : inb i 300 = true) (hd : decode cc pc = .ok (.lastore, 1)) (k : ZM D ad cA p l e R s m args below meth c nL Q (pc + 1) lv st (sb σ 42 i.toNatClampNeg v)) : ZM D ad cA p l e R s m args below meth c nL Q pc lv (.long v :: .int i :: .ref (ad 42) :: st) σ :=
  z_last C (t0 := 41) (q0 := 42) rfl rfl hin rfl hd k
set_option maxHeartbeats 4000000 in
set_option maxRecDepth 100000 in
theorem gM_Md_142 {D : va_G} {ad : Nat → Nat} {cA : Nat → ClassId} {X : State → Prop} {p : Program} {l : Launch} {e : Env} {R : Room} {s : State} {m : MethodId} {args : Array Value} {below : List Frame} {meth : Method} {c : Code} {cc : ByteArray} {nL : Nat} {Q : State → Prop} {pc : Nat} {lv : List (Nat × Value)} {st : List Value} {σ : zS} (C : CM D ad cA X p s m args meth c cc "KindRoundsModel" nL) (hd : decode cc pc = .ok (.getfield 142, 3)) (k : ZM D ad cA p l e R s m args below meth c nL Q (pc + 3) lv (.ref (ad 43) :: st) σ) : ZM D ad cA p l e R s m args below meth c nL Q pc lv (.ref (ad 0) :: st) σ :=
  z_get C 64 mM_93 i_Md rfl oM_0 (Nat.le_of_ble_eq_true rfl) rfl rfl hd k
set_option maxHeartbeats 4000000 in
set_option maxRecDepth 100000 in
theorem alM_43 {D : va_G} {ad : Nat → Nat} {cA : Nat → ClassId} {X : State → Prop} {p : Program} {l : Launch} {e : Env} {R : Room} {s : State} {m : MethodId} {args : Array Value} {below : List Frame} {meth : Method} {c : Code} {cc : ByteArray} {nL : Nat} {Q : State → Prop} {pc : Nat} {lv : List (Nat × Value)} {st : List Value} {σ : zS} {own : String} (C : CM D ad cA X p s m args meth c cc own nL) {i : Int32} {v : Int32} (hv : ga σ 43 i.toNatClampNeg = v) (hin : inb i 300 = true) (hd : decode cc pc = .ok (.iaload, 1)) (k : ZM D ad cA p l e R s m args below meth c nL Q (pc + 1) lv (.int v :: st) σ) : ZM D ad cA p l e R s m args below meth c nL Q pc lv (.int i :: .ref (ad 43) :: st) σ := by
  subst hv
  exact z_iald C (t0 := 42) (q0 := 43) rfl rfl hin hd k
set_option maxHeartbeats 4000000 in
set_option maxRecDepth 100000 in
theorem asM_43 {D : va_G} {ad : Nat → Nat} {cA : Nat → ClassId} {X : State → Prop} {p : Program} {l : Launch} {e : Env} {R : Room} {s : State} {m : MethodId} {args : Array Value} {below : List Frame} {meth : Method} {c : Code} {cc : ByteArray} {nL : Nat} {Q : State → Prop} {pc : Nat} {lv : List (Nat × Value)} {st : List Value} {σ : zS} {own : String} (C : CM D ad cA X p s m args meth c cc own nL) {i : Int32} {v : Int32} (hin : inb i 300 = true) (hd : decode cc pc = .ok (.iastore, 1)) (k : ZM D ad cA p l e R s m args below meth c nL Q (pc + 1) lv st (sa σ 43 i.toNatClampNeg v)) : ZM D ad cA p l e R s m args below meth c nL Q pc lv (.int v :: .int i :: .ref (ad 43) :: st) σ :=
  z_iast C (t0 := 42) (q0 := 43) rfl rfl hin rfl hd k
set_option maxHeartbeats 4000000 in
set_option maxRecDepth 100000 in
theorem gM_Md_145 {D : va_G} {ad : Nat → Nat} {cA : Nat → ClassId} {X : State → Prop} {p : Program} {l : Launch} {e : Env} {R : Room} {s : State} {m : MethodId} {args : Array Value} {below : List Frame} {meth : Method} {c : Code} {cc : ByteArray} {nL : Nat} {Q : State → Prop} {pc : Nat} {lv : List (Nat × Value)} {st : List Value} {σ : zS} (C : CM D ad cA X p s m args meth c cc "KindRoundsModel" nL) (hd : decode cc pc = .ok (.getfield 145, 3)) (k : ZM D ad cA p l e R s m args below meth c nL Q (pc + 3) lv (.ref (ad 44) :: st) σ) : ZM D ad cA p l e R s m args below meth c nL Q pc lv (.ref (ad 0) :: st) σ :=
  z_get C 65 mM_94 i_Md rfl oM_0 (Nat.le_of_ble_eq_true rfl) rfl rfl hd k
set_option maxHeartbeats 4000000 in
set_option maxRecDepth 100000 in
theorem alM_44 {D : va_G} {ad : Nat → Nat} {cA : Nat → ClassId} {X : State → Prop} {p : Program} {l : Launch} {e : Env} {R : Room} {s : State} {m : MethodId} {args : Array Value} {below : List Frame} {meth : Method} {c : Code} {cc : ByteArray} {nL : Nat} {Q : State → Prop} {pc : Nat} {lv : List (Nat × Value)} {st : List Value} {σ : zS} {own : String} (C : CM D ad cA X p s m args meth c cc own nL) {i : Int32} {v : Int32} (hv : ga σ 44 i.toNatClampNeg = v) (hin : inb i 300 = true) (hd : decode cc pc = .ok (.iaload, 1)) (k : ZM D ad cA p l e R s m args below meth c nL Q (pc + 1) lv (.int v :: st) σ) : ZM D ad cA p l e R s m args below meth c nL Q pc lv (.int i :: .ref (ad 44) :: st) σ := by
  subst hv
  exact z_iald C (t0 := 43) (q0 := 44) rfl rfl hin hd k
set_option maxHeartbeats 4000000 in
set_option maxRecDepth 100000 in
theorem asM_44 {D : va_G} {ad : Nat → Nat} {cA : Nat → ClassId} {X : State → Prop} {p : Program} {l : Launch} {e : Env} {R : Room} {s : State} {m : MethodId} {args : Array Value} {below : List Frame} {meth : Method} {c : Code} {cc : ByteArray} {nL : Nat} {Q : State → Prop} {pc : Nat} {lv : List (Nat × Value)} {st : List Value} {σ : zS} {own : String} (C : CM D ad cA X p s m args meth c cc own nL) {i : Int32} {v : Int32} (hin : inb i 300 = true) (hd : decode cc pc = .ok (.iastore, 1)) (k : ZM D ad cA p l e R s m args below meth c nL Q (pc + 1) lv st (sa σ 44 i.toNatClampNeg v)) : ZM D ad cA p l e R s m args below meth c nL Q pc lv (.int v :: .int i :: .ref (ad 44) :: st) σ :=
  z_iast C (t0 := 43) (q0 := 44) rfl rfl hin rfl hd k
set_option maxHeartbeats 4000000 in
set_option maxRecDepth 100000 in
theorem gM_Md_124 {D : va_G} {ad : Nat → Nat} {cA : Nat → ClassId} {X : State → Prop} {p : Program} {l : Launch} {e : Env} {R : Room} {s : State} {m : MethodId} {args : Array Value} {below : List Frame} {meth : Method} {c : Code} {cc : ByteArray} {nL : Nat} {Q : State → Prop} {pc : Nat} {lv : List (Nat × Value)} {st : List Value} {σ : zS} (C : CM D ad cA X p s m args meth c cc "KindRoundsModel" nL) (hd : decode cc pc = .ok (.getfield 124, 3)) (k : ZM D ad cA p l e R s m args below meth c nL Q (pc + 3) lv (.ref (ad 37) :: st) σ) : ZM D ad cA p l e R s m args below meth c nL Q pc lv (.ref (ad 0) :: st) σ :=
  z_get C 57 mM_96 i_Md rfl oM_0 (Nat.le_of_ble_eq_true rfl) rfl rfl hd k
set_option maxHeartbeats 4000000 in
set_option maxRecDepth 100000 in
theorem alM_37 {D : va_G} {ad : Nat → Nat} {cA : Nat → ClassId} {X : State → Prop} {p : Program} {l : Launch} {e : Env} {R : Room} {s : State} {m : MethodId} {args : Array Value} {below : List Frame} {meth : Method} {c : Code} {cc : ByteArray} {nL : Nat} {Q : State → Prop} {pc : Nat} {lv : List (Nat × Value)} {st : List Value} {σ : zS} {own : String} (C : CM D ad cA X p s m args meth c cc own nL) {i : Int32} {v : Int64} (hv : gb σ 37 i.toNatClampNeg = v) (hin : inb i 51 = true) (hd : decode cc pc = .ok (.laload, 1)) (k : ZM D ad cA p l e R s m args below meth c nL Q (pc + 1) lv (.long v :: st) σ) : ZM D ad cA p l e R s m args below meth c nL Q pc lv (.int i :: .ref (ad 37) :: st) σ := by
  subst hv
  exact z_lald C (t0 := 36) (q0 := 37) rfl rfl hin hd k
set_option maxHeartbeats 4000000 in
set_option maxRecDepth 100000 in
theorem asM_37 {D : va_G} {ad : Nat → Nat} {cA : Nat → ClassId} {X : State → Prop} {p : Program} {l : Launch} {e : Env} {R : Room} {s : State} {m : MethodId} {args : Array Value} {below : List Frame} {meth : Method} {c : Code} {cc : ByteArray} {nL : Nat} {Q : State → Prop} {pc : Nat} {lv : List (Nat × Value)} {st : List Value} {σ : zS} {own : String} (C : CM D ad cA X p s m args meth c cc own nL) {i : Int32} {v : Int64} (hin : inb i 51 = true) (hd : decode cc pc = .ok (.lastore, 1)) (k : ZM D ad cA p l e R s m args below meth c nL Q (pc + 1) lv st (sb σ 37 i.toNatClampNeg v)) : ZM D ad cA p l e R s m args below meth c nL Q pc lv (.long v :: .int i :: .ref (ad 37) :: st) σ :=
  z_last C (t0 := 36) (q0 := 37) rfl rfl hin rfl hd k
set_option maxHeartbeats 4000000 in
set_option maxRecDepth 100000 in
theorem gM_Md_136 {D : va_G} {ad : Nat → Nat} {cA : Nat → ClassId} {X : State → Prop} {p : Program} {l : Launch} {e : Env} {R : Room} {s : State} {m : MethodId} {args : Array Value} {below : List Frame} {meth : Method} {c : Code} {cc : ByteArray} {nL : Nat} {Q : State → Prop} {pc : Nat} {lv : List (Nat × Value)} {st : List Value} {σ : zS} (C : CM D ad cA X p s m args meth c cc "KindRoundsModel" nL) (hd : decode cc pc = .ok (.getfield 136, 3)) (k : ZM D ad cA p l e R s m args below meth c nL Q (pc + 3) lv (.ref (ad 41) :: st) σ) : ZM D ad cA p l e R s m args below meth c nL Q pc lv (.ref (ad 0) :: st) σ :=
  z_get C 61 mM_99 i_Md rfl oM_0 (Nat.le_of_ble_eq_true rfl) rfl rfl hd k
set_option maxHeartbeats 4000000 in
set_option maxRecDepth 100000 in
theorem alM_41 {D : va_G} {ad : Nat → Nat} {cA : Nat → ClassId} {X : State → Prop} {p : Program} {l : Launch} {e : Env} {R : Room} {s : State} {m : MethodId} {args : Array Value} {below : List Frame} {meth : Method} {c : Code} {cc : ByteArray} {nL : Nat} {Q : State → Prop} {pc : Nat} {lv : List (Nat × Value)} {st : List Value} {σ : zS} {own : String} (C : CM D ad cA X p s m args meth c cc own nL) {i : Int32} {v : Int32} (hv : ga σ 41 i.toNatClampNeg = v) (hin : inb i 17 = true) (hd : decode cc pc = .ok (.iaload, 1)) (k : ZM D ad cA p l e R s m args below meth c nL Q (pc + 1) lv (.int v :: st) σ) : ZM D ad cA p l e R s m args below meth c nL Q pc lv (.int i :: .ref (ad 41) :: st) σ := by
  subst hv
  exact z_iald C (t0 := 40) (q0 := 41) rfl rfl hin hd k
set_option maxHeartbeats 4000000 in
set_option maxRecDepth 100000 in
theorem asM_41 {D : va_G} {ad : Nat → Nat} {cA : Nat → ClassId} {X : State → Prop} {p : Program} {l : Launch} {e : Env} {R : Room} {s : State} {m : MethodId} {args : Array Value} {below : List Frame} {meth : Method} {c : Code} {cc : ByteArray} {nL : Nat} {Q : State → Prop} {pc : Nat} {lv : List (Nat × Value)} {st : List Value} {σ : zS} {own : String} (C : CM D ad cA X p s m args meth c cc own nL) {i : Int32} {v : Int32} (hin : inb i 17 = true) (hd : decode cc pc = .ok (.iastore, 1)) (k : ZM D ad cA p l e R s m args below meth c nL Q (pc + 1) lv st (sa σ 41 i.toNatClampNeg v)) : ZM D ad cA p l e R s m args below meth c nL Q pc lv (.int v :: .int i :: .ref (ad 41) :: st) σ :=
  z_iast C (t0 := 40) (q0 := 41) rfl rfl hin rfl hd k
set_option maxHeartbeats 4000000 in
set_option maxRecDepth 100000 in
theorem gM_Md_332 {D : va_G} {ad : Nat → Nat} {cA : Nat → ClassId} {X : State → Prop} {p : Program} {l : Launch} {e : Env} {R : Room} {s : State} {m : MethodId} {args : Array Value} {below : List Frame} {meth : Method} {c : Code} {cc : ByteArray} {nL : Nat} {Q : State → Prop} {pc : Nat} {lv : List (Nat × Value)} {st : List Value} {σ : zS} (C : CM D ad cA X p s m args meth c cc "KindRoundsModel" nL) {v : Int32} (hv : gi σ 19 = v) (hd : decode cc pc = .ok (.getfield 332, 3)) (k : ZM D ad cA p l e R s m args below meth c nL Q (pc + 3) lv (.int v :: st) σ) : ZM D ad cA p l e R s m args below meth c nL Q pc lv (.ref (ad 0) :: st) σ := by
  subst hv
  exact z_get C 19 mM_63 i_Md rfl oM_0 (Nat.le_of_ble_eq_true rfl) rfl rfl hd k
set_option maxHeartbeats 4000000 in
set_option maxRecDepth 100000 in
theorem gM_Md_392 {D : va_G} {ad : Nat → Nat} {cA : Nat → ClassId} {X : State → Prop} {p : Program} {l : Launch} {e : Env} {R : Room} {s : State} {m : MethodId} {args : Array Value} {below : List Frame} {meth : Method} {c : Code} {cc : ByteArray} {nL : Nat} {Q : State → Prop} {pc : Nat} {lv : List (Nat × Value)} {st : List Value} {σ : zS} (C : CM D ad cA X p s m args meth c cc "KindRoundsModel" nL) {v : Int32} (hv : gi σ 66 = v) (hd : decode cc pc = .ok (.getfield 392, 3)) (k : ZM D ad cA p l e R s m args below meth c nL Q (pc + 3) lv (.int v :: st) σ) : ZM D ad cA p l e R s m args below meth c nL Q pc lv (.ref (ad 0) :: st) σ := by
  subst hv
  exact z_get C 66 mM_102 i_Md rfl oM_0 (Nat.le_of_ble_eq_true rfl) rfl rfl hd k
set_option maxHeartbeats 4000000 in
set_option maxRecDepth 100000 in
theorem pM_Md_392 {D : va_G} {ad : Nat → Nat} {cA : Nat → ClassId} {X : State → Prop} {p : Program} {l : Launch} {e : Env} {R : Room} {s : State} {m : MethodId} {args : Array Value} {below : List Frame} {meth : Method} {c : Code} {cc : ByteArray} {nL : Nat} {Q : State → Prop} {pc : Nat} {lv : List (Nat × Value)} {st : List Value} {σ : zS} (C : CM D ad cA X p s m args meth c cc "KindRoundsModel" nL) {v : Int32} (hd : decode cc pc = .ok (.putfield 392, 3)) (k : ZM D ad cA p l e R s m args below meth c nL Q (pc + 3) lv st (si σ 66 v)) : ZM D ad cA p l e R s m args below meth c nL Q pc lv (.int v :: .ref (ad 0) :: st) σ :=
  z_put C 66 (ty := .int) mM_102 i_Md t_Md t_Md_ok n_Md rfl oM_0 (Nat.le_of_ble_eq_true rfl) rfl rfl rfl rfl rfl (Nat.le_of_ble_eq_true rfl) rfl hd k
set_option maxHeartbeats 4000000 in
set_option maxRecDepth 100000 in
theorem pM_Md_206 {D : va_G} {ad : Nat → Nat} {cA : Nat → ClassId} {X : State → Prop} {p : Program} {l : Launch} {e : Env} {R : Room} {s : State} {m : MethodId} {args : Array Value} {below : List Frame} {meth : Method} {c : Code} {cc : ByteArray} {nL : Nat} {Q : State → Prop} {pc : Nat} {lv : List (Nat × Value)} {st : List Value} {σ : zS} (C : CM D ad cA X p s m args meth c cc "KindRoundsModel" nL) {v : Int32} (hd : decode cc pc = .ok (.putfield 206, 3)) (k : ZM D ad cA p l e R s m args below meth c nL Q (pc + 3) lv st (si σ 49 v)) : ZM D ad cA p l e R s m args below meth c nL Q pc lv (.int v :: .ref (ad 0) :: st) σ :=
  z_put C 49 (ty := .int) mM_77 i_Md t_Md t_Md_ok n_Md rfl oM_0 (Nat.le_of_ble_eq_true rfl) rfl rfl rfl rfl rfl (Nat.le_of_ble_eq_true rfl) rfl hd k
set_option maxHeartbeats 4000000 in
set_option maxRecDepth 100000 in
theorem arM_isNd {ad : Nat → Nat} {cA : Nat → ClassId} {σ : zS} {x : Nat} (h : isNd x = true) : (wdM ad cA σ)[x]? = some (ad x, .inl (cA x, 256, .inl (ga σ x))) := by
  rcases isNd_or h with rfl | rfl <;> rfl
set_option maxHeartbeats 4000000 in
set_option maxRecDepth 100000 in
theorem atM_isNd {cA : Nat → ClassId} {x : Nat} (h : isNd x = true) : (tysM cA)[x - 1]? = some (cA x, .boolean) := by
  rcases isNd_or h with rfl | rfl <;> rfl
set_option maxHeartbeats 4000000 in
set_option maxRecDepth 100000 in
theorem aSM_isNd {ad : Nat → Nat} {cA : Nat → ClassId} {σ : zS} {x : Nat} (h : isNd x = true) {f : Nat → Int32} : (wdM ad cA σ).set x (ad x, .inl (cA x, 256, .inl f)) = wdM ad cA (sA σ x f) := by
  rcases isNd_or h with rfl | rfl <;> rfl
set_option maxHeartbeats 4000000 in
set_option maxRecDepth 100000 in
theorem alM_isNd {D : va_G} {ad : Nat → Nat} {cA : Nat → ClassId} {X : State → Prop} {p : Program} {l : Launch} {e : Env} {R : Room} {s : State} {m : MethodId} {args : Array Value} {below : List Frame} {meth : Method} {c : Code} {cc : ByteArray} {nL : Nat} {Q : State → Prop} {pc : Nat} {lv : List (Nat × Value)} {st : List Value} {σ : zS} {own : String} (C : CM D ad cA X p s m args meth c cc own nL) {x : Nat} (hx : isNd x = true) {i : Int32} {v : Int32} (hv : ga σ x i.toNatClampNeg = v) (hin : inb i 256 = true) (hd : decode cc pc = .ok (.baload, 1)) (k : ZM D ad cA p l e R s m args below meth c nL Q (pc + 1) lv (.int v :: st) σ) : ZM D ad cA p l e R s m args below meth c nL Q pc lv (.int i :: .ref (ad x) :: st) σ := by
  subst hv
  exact z_zald C (t0 := x - 1) (arM_isNd hx) (atM_isNd hx) hin hd k
set_option maxHeartbeats 4000000 in
set_option maxRecDepth 100000 in
theorem asM_isNd {D : va_G} {ad : Nat → Nat} {cA : Nat → ClassId} {X : State → Prop} {p : Program} {l : Launch} {e : Env} {R : Room} {s : State} {m : MethodId} {args : Array Value} {below : List Frame} {meth : Method} {c : Code} {cc : ByteArray} {nL : Nat} {Q : State → Prop} {pc : Nat} {lv : List (Nat × Value)} {st : List Value} {σ : zS} {own : String} (C : CM D ad cA X p s m args meth c cc own nL) {x : Nat} (hx : isNd x = true) {i : Int32} {v : Int32} (hin : inb i 256 = true) (hd : decode cc pc = .ok (.bastore, 1)) (k : ZM D ad cA p l e R s m args below meth c nL Q (pc + 1) lv st (sa σ x i.toNatClampNeg (vp_nar .boolean v))) : ZM D ad cA p l e R s m args below meth c nL Q pc lv (.int v :: .int i :: .ref (ad x) :: st) σ :=
  z_zast C (t0 := x - 1) (arM_isNd hx) (atM_isNd hx) hin (aSM_isNd hx) hd k
set_option maxHeartbeats 4000000 in
set_option maxRecDepth 100000 in
theorem alM_47 {D : va_G} {ad : Nat → Nat} {cA : Nat → ClassId} {X : State → Prop} {p : Program} {l : Launch} {e : Env} {R : Room} {s : State} {m : MethodId} {args : Array Value} {below : List Frame} {meth : Method} {c : Code} {cc : ByteArray} {nL : Nat} {Q : State → Prop} {pc : Nat} {lv : List (Nat × Value)} {st : List Value} {σ : zS} {own : String} (C : CM D ad cA X p s m args meth c cc own nL) {i : Int32} {v : Int32} (hv : ga σ 47 i.toNatClampNeg = v) (hin : inb i 256 = true) (hd : decode cc pc = .ok (.baload, 1)) (k : ZM D ad cA p l e R s m args below meth c nL Q (pc + 1) lv (.int v :: st) σ) : ZM D ad cA p l e R s m args below meth c nL Q pc lv (.int i :: .ref (ad 47) :: st) σ := by
  subst hv
  exact z_zald C (t0 := 46) (q0 := 47) rfl rfl hin hd k
set_option maxHeartbeats 4000000 in
set_option maxRecDepth 100000 in
theorem asM_47 {D : va_G} {ad : Nat → Nat} {cA : Nat → ClassId} {X : State → Prop} {p : Program} {l : Launch} {e : Env} {R : Room} {s : State} {m : MethodId} {args : Array Value} {below : List Frame} {meth : Method} {c : Code} {cc : ByteArray} {nL : Nat} {Q : State → Prop} {pc : Nat} {lv : List (Nat × Value)} {st : List Value} {σ : zS} {own : String} (C : CM D ad cA X p s m args meth c cc own nL) {i : Int32} {v : Int32} (hin : inb i 256 = true) (hd : decode cc pc = .ok (.bastore, 1)) (k : ZM D ad cA p l e R s m args below meth c nL Q (pc + 1) lv st (sa σ 47 i.toNatClampNeg (vp_nar .boolean v))) : ZM D ad cA p l e R s m args below meth c nL Q pc lv (.int v :: .int i :: .ref (ad 47) :: st) σ :=
  z_zast C (t0 := 46) (q0 := 47) rfl rfl hin rfl hd k
set_option maxHeartbeats 4000000 in
set_option maxRecDepth 100000 in
theorem gM_Md_151 {D : va_G} {ad : Nat → Nat} {cA : Nat → ClassId} {X : State → Prop} {p : Program} {l : Launch} {e : Env} {R : Room} {s : State} {m : MethodId} {args : Array Value} {below : List Frame} {meth : Method} {c : Code} {cc : ByteArray} {nL : Nat} {Q : State → Prop} {pc : Nat} {lv : List (Nat × Value)} {st : List Value} {σ : zS} (C : CM D ad cA X p s m args meth c cc "KindRoundsModel" nL) (hd : decode cc pc = .ok (.getfield 151, 3)) (k : ZM D ad cA p l e R s m args below meth c nL Q (pc + 3) lv (.ref (ad 46) :: st) σ) : ZM D ad cA p l e R s m args below meth c nL Q pc lv (.ref (ad 0) :: st) σ :=
  z_get C 69 mM_111 i_Md rfl oM_0 (Nat.le_of_ble_eq_true rfl) rfl rfl hd k
set_option maxHeartbeats 4000000 in
set_option maxRecDepth 100000 in
theorem alM_46 {D : va_G} {ad : Nat → Nat} {cA : Nat → ClassId} {X : State → Prop} {p : Program} {l : Launch} {e : Env} {R : Room} {s : State} {m : MethodId} {args : Array Value} {below : List Frame} {meth : Method} {c : Code} {cc : ByteArray} {nL : Nat} {Q : State → Prop} {pc : Nat} {lv : List (Nat × Value)} {st : List Value} {σ : zS} {own : String} (C : CM D ad cA X p s m args meth c cc own nL) {i : Int32} {v : Int32} (hv : ga σ 46 i.toNatClampNeg = v) (hin : inb i 256 = true) (hd : decode cc pc = .ok (.baload, 1)) (k : ZM D ad cA p l e R s m args below meth c nL Q (pc + 1) lv (.int v :: st) σ) : ZM D ad cA p l e R s m args below meth c nL Q pc lv (.int i :: .ref (ad 46) :: st) σ := by
  subst hv
  exact z_zald C (t0 := 45) (q0 := 46) rfl rfl hin hd k
set_option maxHeartbeats 4000000 in
set_option maxRecDepth 100000 in
theorem asM_46 {D : va_G} {ad : Nat → Nat} {cA : Nat → ClassId} {X : State → Prop} {p : Program} {l : Launch} {e : Env} {R : Room} {s : State} {m : MethodId} {args : Array Value} {below : List Frame} {meth : Method} {c : Code} {cc : ByteArray} {nL : Nat} {Q : State → Prop} {pc : Nat} {lv : List (Nat × Value)} {st : List Value} {σ : zS} {own : String} (C : CM D ad cA X p s m args meth c cc own nL) {i : Int32} {v : Int32} (hin : inb i 256 = true) (hd : decode cc pc = .ok (.bastore, 1)) (k : ZM D ad cA p l e R s m args below meth c nL Q (pc + 1) lv st (sa σ 46 i.toNatClampNeg (vp_nar .boolean v))) : ZM D ad cA p l e R s m args below meth c nL Q pc lv (.int v :: .int i :: .ref (ad 46) :: st) σ :=
  z_zast C (t0 := 45) (q0 := 46) rfl rfl hin rfl hd k
set_option maxHeartbeats 4000000 in
set_option maxRecDepth 100000 in
theorem gM_Md_154 {D : va_G} {ad : Nat → Nat} {cA : Nat → ClassId} {X : State → Prop} {p : Program} {l : Launch} {e : Env} {R : Room} {s : State} {m : MethodId} {args : Array Value} {below : List Frame} {meth : Method} {c : Code} {cc : ByteArray} {nL : Nat} {Q : State → Prop} {pc : Nat} {lv : List (Nat × Value)} {st : List Value} {σ : zS} (C : CM D ad cA X p s m args meth c cc "KindRoundsModel" nL) (hd : decode cc pc = .ok (.getfield 154, 3)) (k : ZM D ad cA p l e R s m args below meth c nL Q (pc + 3) lv (.ref (ad 47) :: st) σ) : ZM D ad cA p l e R s m args below meth c nL Q pc lv (.ref (ad 0) :: st) σ :=
  z_get C 70 mM_112 i_Md rfl oM_0 (Nat.le_of_ble_eq_true rfl) rfl rfl hd k
set_option maxHeartbeats 4000000 in
set_option maxRecDepth 100000 in
theorem gM_Md_157 {D : va_G} {ad : Nat → Nat} {cA : Nat → ClassId} {X : State → Prop} {p : Program} {l : Launch} {e : Env} {R : Room} {s : State} {m : MethodId} {args : Array Value} {below : List Frame} {meth : Method} {c : Code} {cc : ByteArray} {nL : Nat} {Q : State → Prop} {pc : Nat} {lv : List (Nat × Value)} {st : List Value} {σ : zS} (C : CM D ad cA X p s m args meth c cc "KindRoundsModel" nL) (hd : decode cc pc = .ok (.getfield 157, 3)) (k : ZM D ad cA p l e R s m args below meth c nL Q (pc + 3) lv (.ref (ad 48) :: st) σ) : ZM D ad cA p l e R s m args below meth c nL Q pc lv (.ref (ad 0) :: st) σ :=
  z_get C 72 mM_116 i_Md rfl oM_0 (Nat.le_of_ble_eq_true rfl) rfl rfl hd k
set_option maxHeartbeats 4000000 in
set_option maxRecDepth 100000 in
theorem alM_48 {D : va_G} {ad : Nat → Nat} {cA : Nat → ClassId} {X : State → Prop} {p : Program} {l : Launch} {e : Env} {R : Room} {s : State} {m : MethodId} {args : Array Value} {below : List Frame} {meth : Method} {c : Code} {cc : ByteArray} {nL : Nat} {Q : State → Prop} {pc : Nat} {lv : List (Nat × Value)} {st : List Value} {σ : zS} {own : String} (C : CM D ad cA X p s m args meth c cc own nL) {i : Int32} {v : Int32} (hv : ga σ 48 i.toNatClampNeg = v) (hin : inb i 16 = true) (hd : decode cc pc = .ok (.iaload, 1)) (k : ZM D ad cA p l e R s m args below meth c nL Q (pc + 1) lv (.int v :: st) σ) : ZM D ad cA p l e R s m args below meth c nL Q pc lv (.int i :: .ref (ad 48) :: st) σ := by
  subst hv
  exact z_iald C (t0 := 47) (q0 := 48) rfl rfl hin hd k
set_option maxHeartbeats 4000000 in
set_option maxRecDepth 100000 in
theorem asM_48 {D : va_G} {ad : Nat → Nat} {cA : Nat → ClassId} {X : State → Prop} {p : Program} {l : Launch} {e : Env} {R : Room} {s : State} {m : MethodId} {args : Array Value} {below : List Frame} {meth : Method} {c : Code} {cc : ByteArray} {nL : Nat} {Q : State → Prop} {pc : Nat} {lv : List (Nat × Value)} {st : List Value} {σ : zS} {own : String} (C : CM D ad cA X p s m args meth c cc own nL) {i : Int32} {v : Int32} (hin : inb i 16 = true) (hd : decode cc pc = .ok (.iastore, 1)) (k : ZM D ad cA p l e R s m args below meth c nL Q (pc + 1) lv st (sa σ 48 i.toNatClampNeg v)) : ZM D ad cA p l e R s m args below meth c nL Q pc lv (.int v :: .int i :: .ref (ad 48) :: st) σ :=
  z_iast C (t0 := 47) (q0 := 48) rfl rfl hin rfl hd k
set_option maxHeartbeats 4000000 in
set_option maxRecDepth 100000 in
theorem gM_Md_432 {D : va_G} {ad : Nat → Nat} {cA : Nat → ClassId} {X : State → Prop} {p : Program} {l : Launch} {e : Env} {R : Room} {s : State} {m : MethodId} {args : Array Value} {below : List Frame} {meth : Method} {c : Code} {cc : ByteArray} {nL : Nat} {Q : State → Prop} {pc : Nat} {lv : List (Nat × Value)} {st : List Value} {σ : zS} (C : CM D ad cA X p s m args meth c cc "KindRoundsModel" nL) {v : Int32} (hv : gi σ 71 = v) (hd : decode cc pc = .ok (.getfield 432, 3)) (k : ZM D ad cA p l e R s m args below meth c nL Q (pc + 3) lv (.int v :: st) σ) : ZM D ad cA p l e R s m args below meth c nL Q pc lv (.ref (ad 0) :: st) σ := by
  subst hv
  exact z_get C 71 mM_117 i_Md rfl oM_0 (Nat.le_of_ble_eq_true rfl) rfl rfl hd k
set_option maxHeartbeats 4000000 in
set_option maxRecDepth 100000 in
theorem pM_Md_432 {D : va_G} {ad : Nat → Nat} {cA : Nat → ClassId} {X : State → Prop} {p : Program} {l : Launch} {e : Env} {R : Room} {s : State} {m : MethodId} {args : Array Value} {below : List Frame} {meth : Method} {c : Code} {cc : ByteArray} {nL : Nat} {Q : State → Prop} {pc : Nat} {lv : List (Nat × Value)} {st : List Value} {σ : zS} (C : CM D ad cA X p s m args meth c cc "KindRoundsModel" nL) {v : Int32} (hd : decode cc pc = .ok (.putfield 432, 3)) (k : ZM D ad cA p l e R s m args below meth c nL Q (pc + 3) lv st (si σ 71 v)) : ZM D ad cA p l e R s m args below meth c nL Q pc lv (.int v :: .ref (ad 0) :: st) σ :=
  z_put C 71 (ty := .int) mM_117 i_Md t_Md t_Md_ok n_Md rfl oM_0 (Nat.le_of_ble_eq_true rfl) rfl rfl rfl rfl rfl (Nat.le_of_ble_eq_true rfl) rfl hd k
set_option maxHeartbeats 4000000 in
set_option maxRecDepth 100000 in
theorem alM_49 {D : va_G} {ad : Nat → Nat} {cA : Nat → ClassId} {X : State → Prop} {p : Program} {l : Launch} {e : Env} {R : Room} {s : State} {m : MethodId} {args : Array Value} {below : List Frame} {meth : Method} {c : Code} {cc : ByteArray} {nL : Nat} {Q : State → Prop} {pc : Nat} {lv : List (Nat × Value)} {st : List Value} {σ : zS} {own : String} (C : CM D ad cA X p s m args meth c cc own nL) {i : Int32} {v : Int32} (hv : ga σ 49 i.toNatClampNeg = v) (hin : inb i 16 = true) (hd : decode cc pc = .ok (.iaload, 1)) (k : ZM D ad cA p l e R s m args below meth c nL Q (pc + 1) lv (.int v :: st) σ) : ZM D ad cA p l e R s m args below meth c nL Q pc lv (.int i :: .ref (ad 49) :: st) σ := by
  subst hv
  exact z_iald C (t0 := 48) (q0 := 49) rfl rfl hin hd k
set_option maxHeartbeats 4000000 in
set_option maxRecDepth 100000 in
theorem asM_49 {D : va_G} {ad : Nat → Nat} {cA : Nat → ClassId} {X : State → Prop} {p : Program} {l : Launch} {e : Env} {R : Room} {s : State} {m : MethodId} {args : Array Value} {below : List Frame} {meth : Method} {c : Code} {cc : ByteArray} {nL : Nat} {Q : State → Prop} {pc : Nat} {lv : List (Nat × Value)} {st : List Value} {σ : zS} {own : String} (C : CM D ad cA X p s m args meth c cc own nL) {i : Int32} {v : Int32} (hin : inb i 16 = true) (hd : decode cc pc = .ok (.iastore, 1)) (k : ZM D ad cA p l e R s m args below meth c nL Q (pc + 1) lv st (sa σ 49 i.toNatClampNeg v)) : ZM D ad cA p l e R s m args below meth c nL Q pc lv (.int v :: .int i :: .ref (ad 49) :: st) σ :=
  z_iast C (t0 := 48) (q0 := 49) rfl rfl hin rfl hd k
set_option maxHeartbeats 4000000 in
set_option maxRecDepth 100000 in
theorem gM_Md_160 {D : va_G} {ad : Nat → Nat} {cA : Nat → ClassId} {X : State → Prop} {p : Program} {l : Launch} {e : Env} {R : Room} {s : State} {m : MethodId} {args : Array Value} {below : List Frame} {meth : Method} {c : Code} {cc : ByteArray} {nL : Nat} {Q : State → Prop} {pc : Nat} {lv : List (Nat × Value)} {st : List Value} {σ : zS} (C : CM D ad cA X p s m args meth c cc "KindRoundsModel" nL) (hd : decode cc pc = .ok (.getfield 160, 3)) (k : ZM D ad cA p l e R s m args below meth c nL Q (pc + 3) lv (.ref (ad 49) :: st) σ) : ZM D ad cA p l e R s m args below meth c nL Q pc lv (.ref (ad 0) :: st) σ :=
  z_get C 73 mM_120 i_Md rfl oM_0 (Nat.le_of_ble_eq_true rfl) rfl rfl hd k
set_option maxHeartbeats 4000000 in
set_option maxRecDepth 100000 in
theorem gM_Md_163 {D : va_G} {ad : Nat → Nat} {cA : Nat → ClassId} {X : State → Prop} {p : Program} {l : Launch} {e : Env} {R : Room} {s : State} {m : MethodId} {args : Array Value} {below : List Frame} {meth : Method} {c : Code} {cc : ByteArray} {nL : Nat} {Q : State → Prop} {pc : Nat} {lv : List (Nat × Value)} {st : List Value} {σ : zS} (C : CM D ad cA X p s m args meth c cc "KindRoundsModel" nL) (hd : decode cc pc = .ok (.getfield 163, 3)) (k : ZM D ad cA p l e R s m args below meth c nL Q (pc + 3) lv (.ref (ad 50) :: st) σ) : ZM D ad cA p l e R s m args below meth c nL Q pc lv (.ref (ad 0) :: st) σ :=
  z_get C 74 mM_121 i_Md rfl oM_0 (Nat.le_of_ble_eq_true rfl) rfl rfl hd k
set_option maxHeartbeats 4000000 in
set_option maxRecDepth 100000 in
theorem alM_50 {D : va_G} {ad : Nat → Nat} {cA : Nat → ClassId} {X : State → Prop} {p : Program} {l : Launch} {e : Env} {R : Room} {s : State} {m : MethodId} {args : Array Value} {below : List Frame} {meth : Method} {c : Code} {cc : ByteArray} {nL : Nat} {Q : State → Prop} {pc : Nat} {lv : List (Nat × Value)} {st : List Value} {σ : zS} {own : String} (C : CM D ad cA X p s m args meth c cc own nL) {i : Int32} {v : Int32} (hv : ga σ 50 i.toNatClampNeg = v) (hin : inb i 48 = true) (hd : decode cc pc = .ok (.iaload, 1)) (k : ZM D ad cA p l e R s m args below meth c nL Q (pc + 1) lv (.int v :: st) σ) : ZM D ad cA p l e R s m args below meth c nL Q pc lv (.int i :: .ref (ad 50) :: st) σ := by
  subst hv
  exact z_iald C (t0 := 49) (q0 := 50) rfl rfl hin hd k
set_option maxHeartbeats 4000000 in
set_option maxRecDepth 100000 in
theorem asM_50 {D : va_G} {ad : Nat → Nat} {cA : Nat → ClassId} {X : State → Prop} {p : Program} {l : Launch} {e : Env} {R : Room} {s : State} {m : MethodId} {args : Array Value} {below : List Frame} {meth : Method} {c : Code} {cc : ByteArray} {nL : Nat} {Q : State → Prop} {pc : Nat} {lv : List (Nat × Value)} {st : List Value} {σ : zS} {own : String} (C : CM D ad cA X p s m args meth c cc own nL) {i : Int32} {v : Int32} (hin : inb i 48 = true) (hd : decode cc pc = .ok (.iastore, 1)) (k : ZM D ad cA p l e R s m args below meth c nL Q (pc + 1) lv st (sa σ 50 i.toNatClampNeg v)) : ZM D ad cA p l e R s m args below meth c nL Q pc lv (.int v :: .int i :: .ref (ad 50) :: st) σ :=
  z_iast C (t0 := 49) (q0 := 50) rfl rfl hin rfl hd k
set_option maxHeartbeats 4000000 in
set_option maxRecDepth 100000 in
theorem alM_51 {D : va_G} {ad : Nat → Nat} {cA : Nat → ClassId} {X : State → Prop} {p : Program} {l : Launch} {e : Env} {R : Room} {s : State} {m : MethodId} {args : Array Value} {below : List Frame} {meth : Method} {c : Code} {cc : ByteArray} {nL : Nat} {Q : State → Prop} {pc : Nat} {lv : List (Nat × Value)} {st : List Value} {σ : zS} {own : String} (C : CM D ad cA X p s m args meth c cc own nL) {i : Int32} {v : Int32} (hv : ga σ 51 i.toNatClampNeg = v) (hin : inb i 16 = true) (hd : decode cc pc = .ok (.iaload, 1)) (k : ZM D ad cA p l e R s m args below meth c nL Q (pc + 1) lv (.int v :: st) σ) : ZM D ad cA p l e R s m args below meth c nL Q pc lv (.int i :: .ref (ad 51) :: st) σ := by
  subst hv
  exact z_iald C (t0 := 50) (q0 := 51) rfl rfl hin hd k
set_option maxHeartbeats 4000000 in
set_option maxRecDepth 100000 in
theorem asM_51 {D : va_G} {ad : Nat → Nat} {cA : Nat → ClassId} {X : State → Prop} {p : Program} {l : Launch} {e : Env} {R : Room} {s : State} {m : MethodId} {args : Array Value} {below : List Frame} {meth : Method} {c : Code} {cc : ByteArray} {nL : Nat} {Q : State → Prop} {pc : Nat} {lv : List (Nat × Value)} {st : List Value} {σ : zS} {own : String} (C : CM D ad cA X p s m args meth c cc own nL) {i : Int32} {v : Int32} (hin : inb i 16 = true) (hd : decode cc pc = .ok (.iastore, 1)) (k : ZM D ad cA p l e R s m args below meth c nL Q (pc + 1) lv st (sa σ 51 i.toNatClampNeg v)) : ZM D ad cA p l e R s m args below meth c nL Q pc lv (.int v :: .int i :: .ref (ad 51) :: st) σ :=
  z_iast C (t0 := 50) (q0 := 51) rfl rfl hin rfl hd k
set_option maxHeartbeats 4000000 in
set_option maxRecDepth 100000 in
theorem gM_Md_166 {D : va_G} {ad : Nat → Nat} {cA : Nat → ClassId} {X : State → Prop} {p : Program} {l : Launch} {e : Env} {R : Room} {s : State} {m : MethodId} {args : Array Value} {below : List Frame} {meth : Method} {c : Code} {cc : ByteArray} {nL : Nat} {Q : State → Prop} {pc : Nat} {lv : List (Nat × Value)} {st : List Value} {σ : zS} (C : CM D ad cA X p s m args meth c cc "KindRoundsModel" nL) (hd : decode cc pc = .ok (.getfield 166, 3)) (k : ZM D ad cA p l e R s m args below meth c nL Q (pc + 3) lv (.ref (ad 51) :: st) σ) : ZM D ad cA p l e R s m args below meth c nL Q pc lv (.ref (ad 0) :: st) σ :=
  z_get C 75 mM_122 i_Md rfl oM_0 (Nat.le_of_ble_eq_true rfl) rfl rfl hd k
set_option maxHeartbeats 4000000 in
set_option maxRecDepth 100000 in
theorem gM_Md_30 {D : va_G} {ad : Nat → Nat} {cA : Nat → ClassId} {X : State → Prop} {p : Program} {l : Launch} {e : Env} {R : Room} {s : State} {m : MethodId} {args : Array Value} {below : List Frame} {meth : Method} {c : Code} {cc : ByteArray} {nL : Nat} {Q : State → Prop} {pc : Nat} {lv : List (Nat × Value)} {st : List Value} {σ : zS} (C : CM D ad cA X p s m args meth c cc "KindRoundsModel" nL) (hd : decode cc pc = .ok (.getfield 30, 3)) (k : ZM D ad cA p l e R s m args below meth c nL Q (pc + 3) lv (.ref (ad 6) :: st) σ) : ZM D ad cA p l e R s m args below meth c nL Q pc lv (.ref (ad 0) :: st) σ :=
  z_get C 15 mM_123 i_Md rfl oM_0 (Nat.le_of_ble_eq_true rfl) rfl rfl hd k
set_option maxHeartbeats 4000000 in
set_option maxRecDepth 100000 in
theorem alM_6 {D : va_G} {ad : Nat → Nat} {cA : Nat → ClassId} {X : State → Prop} {p : Program} {l : Launch} {e : Env} {R : Room} {s : State} {m : MethodId} {args : Array Value} {below : List Frame} {meth : Method} {c : Code} {cc : ByteArray} {nL : Nat} {Q : State → Prop} {pc : Nat} {lv : List (Nat × Value)} {st : List Value} {σ : zS} {own : String} (C : CM D ad cA X p s m args meth c cc own nL) {i : Int32} {v : Int32} (hv : ga σ 6 i.toNatClampNeg = v) (hin : inb i 1000 = true) (hd : decode cc pc = .ok (.iaload, 1)) (k : ZM D ad cA p l e R s m args below meth c nL Q (pc + 1) lv (.int v :: st) σ) : ZM D ad cA p l e R s m args below meth c nL Q pc lv (.int i :: .ref (ad 6) :: st) σ := by
  subst hv
  exact z_iald C (t0 := 5) (q0 := 6) rfl rfl hin hd k
set_option maxHeartbeats 4000000 in
set_option maxRecDepth 100000 in
theorem asM_6 {D : va_G} {ad : Nat → Nat} {cA : Nat → ClassId} {X : State → Prop} {p : Program} {l : Launch} {e : Env} {R : Room} {s : State} {m : MethodId} {args : Array Value} {below : List Frame} {meth : Method} {c : Code} {cc : ByteArray} {nL : Nat} {Q : State → Prop} {pc : Nat} {lv : List (Nat × Value)} {st : List Value} {σ : zS} {own : String} (C : CM D ad cA X p s m args meth c cc own nL) {i : Int32} {v : Int32} (hin : inb i 1000 = true) (hd : decode cc pc = .ok (.iastore, 1)) (k : ZM D ad cA p l e R s m args below meth c nL Q (pc + 1) lv st (sa σ 6 i.toNatClampNeg v)) : ZM D ad cA p l e R s m args below meth c nL Q pc lv (.int v :: .int i :: .ref (ad 6) :: st) σ :=
  z_iast C (t0 := 5) (q0 := 6) rfl rfl hin rfl hd k
set_option maxHeartbeats 4000000 in
set_option maxRecDepth 100000 in
theorem alM_52 {D : va_G} {ad : Nat → Nat} {cA : Nat → ClassId} {X : State → Prop} {p : Program} {l : Launch} {e : Env} {R : Room} {s : State} {m : MethodId} {args : Array Value} {below : List Frame} {meth : Method} {c : Code} {cc : ByteArray} {nL : Nat} {Q : State → Prop} {pc : Nat} {lv : List (Nat × Value)} {st : List Value} {σ : zS} {own : String} (C : CM D ad cA X p s m args meth c cc own nL) {i : Int32} {v : Int32} (hv : ga σ 52 i.toNatClampNeg = v) (hin : inb i 16 = true) (hd : decode cc pc = .ok (.iaload, 1)) (k : ZM D ad cA p l e R s m args below meth c nL Q (pc + 1) lv (.int v :: st) σ) : ZM D ad cA p l e R s m args below meth c nL Q pc lv (.int i :: .ref (ad 52) :: st) σ := by
  subst hv
  exact z_iald C (t0 := 51) (q0 := 52) rfl rfl hin hd k
set_option maxHeartbeats 4000000 in
set_option maxRecDepth 100000 in
theorem asM_52 {D : va_G} {ad : Nat → Nat} {cA : Nat → ClassId} {X : State → Prop} {p : Program} {l : Launch} {e : Env} {R : Room} {s : State} {m : MethodId} {args : Array Value} {below : List Frame} {meth : Method} {c : Code} {cc : ByteArray} {nL : Nat} {Q : State → Prop} {pc : Nat} {lv : List (Nat × Value)} {st : List Value} {σ : zS} {own : String} (C : CM D ad cA X p s m args meth c cc own nL) {i : Int32} {v : Int32} (hin : inb i 16 = true) (hd : decode cc pc = .ok (.iastore, 1)) (k : ZM D ad cA p l e R s m args below meth c nL Q (pc + 1) lv st (sa σ 52 i.toNatClampNeg v)) : ZM D ad cA p l e R s m args below meth c nL Q pc lv (.int v :: .int i :: .ref (ad 52) :: st) σ :=
  z_iast C (t0 := 51) (q0 := 52) rfl rfl hin rfl hd k
set_option maxHeartbeats 4000000 in
set_option maxRecDepth 100000 in
theorem gM_Md_169 {D : va_G} {ad : Nat → Nat} {cA : Nat → ClassId} {X : State → Prop} {p : Program} {l : Launch} {e : Env} {R : Room} {s : State} {m : MethodId} {args : Array Value} {below : List Frame} {meth : Method} {c : Code} {cc : ByteArray} {nL : Nat} {Q : State → Prop} {pc : Nat} {lv : List (Nat × Value)} {st : List Value} {σ : zS} (C : CM D ad cA X p s m args meth c cc "KindRoundsModel" nL) (hd : decode cc pc = .ok (.getfield 169, 3)) (k : ZM D ad cA p l e R s m args below meth c nL Q (pc + 3) lv (.ref (ad 52) :: st) σ) : ZM D ad cA p l e R s m args below meth c nL Q pc lv (.ref (ad 0) :: st) σ :=
  z_get C 76 mM_131 i_Md rfl oM_0 (Nat.le_of_ble_eq_true rfl) rfl rfl hd k
set_option maxHeartbeats 4000000 in
set_option maxRecDepth 100000 in
theorem arM_isUp {ad : Nat → Nat} {cA : Nat → ClassId} {σ : zS} {x : Nat} (h : isUp x = true) : (wdM ad cA σ)[x]? = some (ad x, .inl (cA x, 4000, .inl (ga σ x))) := by
  rcases isUp_or h with rfl | rfl | rfl <;> rfl
set_option maxHeartbeats 4000000 in
set_option maxRecDepth 100000 in
theorem atM_isUp {cA : Nat → ClassId} {x : Nat} (h : isUp x = true) : (tysM cA)[x - 1]? = some (cA x, .int) := by
  rcases isUp_or h with rfl | rfl | rfl <;> rfl
set_option maxHeartbeats 4000000 in
set_option maxRecDepth 100000 in
theorem aSM_isUp {ad : Nat → Nat} {cA : Nat → ClassId} {σ : zS} {x : Nat} (h : isUp x = true) {f : Nat → Int32} : (wdM ad cA σ).set x (ad x, .inl (cA x, 4000, .inl f)) = wdM ad cA (sA σ x f) := by
  rcases isUp_or h with rfl | rfl | rfl <;> rfl
set_option maxHeartbeats 4000000 in
set_option maxRecDepth 100000 in
theorem alM_isUp {D : va_G} {ad : Nat → Nat} {cA : Nat → ClassId} {X : State → Prop} {p : Program} {l : Launch} {e : Env} {R : Room} {s : State} {m : MethodId} {args : Array Value} {below : List Frame} {meth : Method} {c : Code} {cc : ByteArray} {nL : Nat} {Q : State → Prop} {pc : Nat} {lv : List (Nat × Value)} {st : List Value} {σ : zS} {own : String} (C : CM D ad cA X p s m args meth c cc own nL) {x : Nat} (hx : isUp x = true) {i : Int32} {v : Int32} (hv : ga σ x i.toNatClampNeg = v) (hin : inb i 4000 = true) (hd : decode cc pc = .ok (.iaload, 1)) (k : ZM D ad cA p l e R s m args below meth c nL Q (pc + 1) lv (.int v :: st) σ) : ZM D ad cA p l e R s m args below meth c nL Q pc lv (.int i :: .ref (ad x) :: st) σ := by
  subst hv
  exact z_iald C (t0 := x - 1) (arM_isUp hx) (atM_isUp hx) hin hd k
set_option maxHeartbeats 4000000 in
set_option maxRecDepth 100000 in
theorem asM_isUp {D : va_G} {ad : Nat → Nat} {cA : Nat → ClassId} {X : State → Prop} {p : Program} {l : Launch} {e : Env} {R : Room} {s : State} {m : MethodId} {args : Array Value} {below : List Frame} {meth : Method} {c : Code} {cc : ByteArray} {nL : Nat} {Q : State → Prop} {pc : Nat} {lv : List (Nat × Value)} {st : List Value} {σ : zS} {own : String} (C : CM D ad cA X p s m args meth c cc own nL) {x : Nat} (hx : isUp x = true) {i : Int32} {v : Int32} (hin : inb i 4000 = true) (hd : decode cc pc = .ok (.iastore, 1)) (k : ZM D ad cA p l e R s m args below meth c nL Q (pc + 1) lv st (sa σ x i.toNatClampNeg v)) : ZM D ad cA p l e R s m args below meth c nL Q pc lv (.int v :: .int i :: .ref (ad x) :: st) σ :=
  z_iast C (t0 := x - 1) (arM_isUp hx) (atM_isUp hx) hin (aSM_isUp hx) hd k
set_option maxHeartbeats 4000000 in
set_option maxRecDepth 100000 in
theorem gM_Md_103 {D : va_G} {ad : Nat → Nat} {cA : Nat → ClassId} {X : State → Prop} {p : Program} {l : Launch} {e : Env} {R : Room} {s : State} {m : MethodId} {args : Array Value} {below : List Frame} {meth : Method} {c : Code} {cc : ByteArray} {nL : Nat} {Q : State → Prop} {pc : Nat} {lv : List (Nat × Value)} {st : List Value} {σ : zS} (C : CM D ad cA X p s m args meth c cc "KindRoundsModel" nL) (hd : decode cc pc = .ok (.getfield 103, 3)) (k : ZM D ad cA p l e R s m args below meth c nL Q (pc + 3) lv (.ref (ad 30) :: st) σ) : ZM D ad cA p l e R s m args below meth c nL Q pc lv (.ref (ad 0) :: st) σ :=
  z_get C 47 mM_133 i_Md rfl oM_0 (Nat.le_of_ble_eq_true rfl) rfl rfl hd k
set_option maxHeartbeats 4000000 in
set_option maxRecDepth 100000 in
theorem pM_Md_476 {D : va_G} {ad : Nat → Nat} {cA : Nat → ClassId} {X : State → Prop} {p : Program} {l : Launch} {e : Env} {R : Room} {s : State} {m : MethodId} {args : Array Value} {below : List Frame} {meth : Method} {c : Code} {cc : ByteArray} {nL : Nat} {Q : State → Prop} {pc : Nat} {lv : List (Nat × Value)} {st : List Value} {σ : zS} (C : CM D ad cA X p s m args meth c cc "KindRoundsModel" nL) {v : Int32} (hd : decode cc pc = .ok (.putfield 476, 3)) (k : ZM D ad cA p l e R s m args below meth c nL Q (pc + 3) lv st (si σ 79 v)) : ZM D ad cA p l e R s m args below meth c nL Q pc lv (.int v :: .ref (ad 0) :: st) σ :=
  z_put C 79 (ty := .int) mM_135 i_Md t_Md t_Md_ok n_Md rfl oM_0 (Nat.le_of_ble_eq_true rfl) rfl rfl rfl rfl rfl (Nat.le_of_ble_eq_true rfl) rfl hd k
set_option maxHeartbeats 4000000 in
set_option maxRecDepth 100000 in
theorem pM_Md_479 {D : va_G} {ad : Nat → Nat} {cA : Nat → ClassId} {X : State → Prop} {p : Program} {l : Launch} {e : Env} {R : Room} {s : State} {m : MethodId} {args : Array Value} {below : List Frame} {meth : Method} {c : Code} {cc : ByteArray} {nL : Nat} {Q : State → Prop} {pc : Nat} {lv : List (Nat × Value)} {st : List Value} {σ : zS} (C : CM D ad cA X p s m args meth c cc "KindRoundsModel" nL) {v : Int32} (hd : decode cc pc = .ok (.putfield 479, 3)) (k : ZM D ad cA p l e R s m args below meth c nL Q (pc + 3) lv st (si σ 80 v)) : ZM D ad cA p l e R s m args below meth c nL Q pc lv (.int v :: .ref (ad 0) :: st) σ :=
  z_put C 80 (ty := .int) mM_136 i_Md t_Md t_Md_ok n_Md rfl oM_0 (Nat.le_of_ble_eq_true rfl) rfl rfl rfl rfl rfl (Nat.le_of_ble_eq_true rfl) rfl hd k
set_option maxHeartbeats 4000000 in
set_option maxRecDepth 100000 in
theorem gM_Md_172 {D : va_G} {ad : Nat → Nat} {cA : Nat → ClassId} {X : State → Prop} {p : Program} {l : Launch} {e : Env} {R : Room} {s : State} {m : MethodId} {args : Array Value} {below : List Frame} {meth : Method} {c : Code} {cc : ByteArray} {nL : Nat} {Q : State → Prop} {pc : Nat} {lv : List (Nat × Value)} {st : List Value} {σ : zS} (C : CM D ad cA X p s m args meth c cc "KindRoundsModel" nL) (hd : decode cc pc = .ok (.getfield 172, 3)) (k : ZM D ad cA p l e R s m args below meth c nL Q (pc + 3) lv (.ref (ad 53) :: st) σ) : ZM D ad cA p l e R s m args below meth c nL Q pc lv (.ref (ad 0) :: st) σ :=
  z_get C 77 mM_139 i_Md rfl oM_0 (Nat.le_of_ble_eq_true rfl) rfl rfl hd k
set_option maxHeartbeats 4000000 in
set_option maxRecDepth 100000 in
theorem alM_53 {D : va_G} {ad : Nat → Nat} {cA : Nat → ClassId} {X : State → Prop} {p : Program} {l : Launch} {e : Env} {R : Room} {s : State} {m : MethodId} {args : Array Value} {below : List Frame} {meth : Method} {c : Code} {cc : ByteArray} {nL : Nat} {Q : State → Prop} {pc : Nat} {lv : List (Nat × Value)} {st : List Value} {σ : zS} {own : String} (C : CM D ad cA X p s m args meth c cc own nL) {i : Int32} {v : Int32} (hv : ga σ 53 i.toNatClampNeg = v) (hin : inb i 16000 = true) (hd : decode cc pc = .ok (.iaload, 1)) (k : ZM D ad cA p l e R s m args below meth c nL Q (pc + 1) lv (.int v :: st) σ) : ZM D ad cA p l e R s m args below meth c nL Q pc lv (.int i :: .ref (ad 53) :: st) σ := by
  subst hv
  exact z_iald C (t0 := 52) (q0 := 53) rfl rfl hin hd k
set_option maxHeartbeats 4000000 in
set_option maxRecDepth 100000 in
theorem asM_53 {D : va_G} {ad : Nat → Nat} {cA : Nat → ClassId} {X : State → Prop} {p : Program} {l : Launch} {e : Env} {R : Room} {s : State} {m : MethodId} {args : Array Value} {below : List Frame} {meth : Method} {c : Code} {cc : ByteArray} {nL : Nat} {Q : State → Prop} {pc : Nat} {lv : List (Nat × Value)} {st : List Value} {σ : zS} {own : String} (C : CM D ad cA X p s m args meth c cc own nL) {i : Int32} {v : Int32} (hin : inb i 16000 = true) (hd : decode cc pc = .ok (.iastore, 1)) (k : ZM D ad cA p l e R s m args below meth c nL Q (pc + 1) lv st (sa σ 53 i.toNatClampNeg v)) : ZM D ad cA p l e R s m args below meth c nL Q pc lv (.int v :: .int i :: .ref (ad 53) :: st) σ :=
  z_iast C (t0 := 52) (q0 := 53) rfl rfl hin rfl hd k
set_option maxHeartbeats 4000000 in
set_option maxRecDepth 100000 in
theorem gM_Md_175 {D : va_G} {ad : Nat → Nat} {cA : Nat → ClassId} {X : State → Prop} {p : Program} {l : Launch} {e : Env} {R : Room} {s : State} {m : MethodId} {args : Array Value} {below : List Frame} {meth : Method} {c : Code} {cc : ByteArray} {nL : Nat} {Q : State → Prop} {pc : Nat} {lv : List (Nat × Value)} {st : List Value} {σ : zS} (C : CM D ad cA X p s m args meth c cc "KindRoundsModel" nL) (hd : decode cc pc = .ok (.getfield 175, 3)) (k : ZM D ad cA p l e R s m args below meth c nL Q (pc + 3) lv (.ref (ad 54) :: st) σ) : ZM D ad cA p l e R s m args below meth c nL Q pc lv (.ref (ad 0) :: st) σ :=
  z_get C 78 mM_141 i_Md rfl oM_0 (Nat.le_of_ble_eq_true rfl) rfl rfl hd k
set_option maxHeartbeats 4000000 in
set_option maxRecDepth 100000 in
theorem alM_54 {D : va_G} {ad : Nat → Nat} {cA : Nat → ClassId} {X : State → Prop} {p : Program} {l : Launch} {e : Env} {R : Room} {s : State} {m : MethodId} {args : Array Value} {below : List Frame} {meth : Method} {c : Code} {cc : ByteArray} {nL : Nat} {Q : State → Prop} {pc : Nat} {lv : List (Nat × Value)} {st : List Value} {σ : zS} {own : String} (C : CM D ad cA X p s m args meth c cc own nL) {i : Int32} {v : Int32} (hv : ga σ 54 i.toNatClampNeg = v) (hin : inb i 4000 = true) (hd : decode cc pc = .ok (.iaload, 1)) (k : ZM D ad cA p l e R s m args below meth c nL Q (pc + 1) lv (.int v :: st) σ) : ZM D ad cA p l e R s m args below meth c nL Q pc lv (.int i :: .ref (ad 54) :: st) σ := by
  subst hv
  exact z_iald C (t0 := 53) (q0 := 54) rfl rfl hin hd k
set_option maxHeartbeats 4000000 in
set_option maxRecDepth 100000 in
theorem asM_54 {D : va_G} {ad : Nat → Nat} {cA : Nat → ClassId} {X : State → Prop} {p : Program} {l : Launch} {e : Env} {R : Room} {s : State} {m : MethodId} {args : Array Value} {below : List Frame} {meth : Method} {c : Code} {cc : ByteArray} {nL : Nat} {Q : State → Prop} {pc : Nat} {lv : List (Nat × Value)} {st : List Value} {σ : zS} {own : String} (C : CM D ad cA X p s m args meth c cc own nL) {i : Int32} {v : Int32} (hin : inb i 4000 = true) (hd : decode cc pc = .ok (.iastore, 1)) (k : ZM D ad cA p l e R s m args below meth c nL Q (pc + 1) lv st (sa σ 54 i.toNatClampNeg v)) : ZM D ad cA p l e R s m args below meth c nL Q pc lv (.int v :: .int i :: .ref (ad 54) :: st) σ :=
  z_iast C (t0 := 53) (q0 := 54) rfl rfl hin rfl hd k
set_option maxHeartbeats 4000000 in
set_option maxRecDepth 100000 in
theorem gM_Md_491 {D : va_G} {ad : Nat → Nat} {cA : Nat → ClassId} {X : State → Prop} {p : Program} {l : Launch} {e : Env} {R : Room} {s : State} {m : MethodId} {args : Array Value} {below : List Frame} {meth : Method} {c : Code} {cc : ByteArray} {nL : Nat} {Q : State → Prop} {pc : Nat} {lv : List (Nat × Value)} {st : List Value} {σ : zS} (C : CM D ad cA X p s m args meth c cc "KindRoundsModel" nL) {v : Int32} (hv : gi σ 82 = v) (hd : decode cc pc = .ok (.getfield 491, 3)) (k : ZM D ad cA p l e R s m args below meth c nL Q (pc + 3) lv (.int v :: st) σ) : ZM D ad cA p l e R s m args below meth c nL Q pc lv (.ref (ad 0) :: st) σ := by
  subst hv
  exact z_get C 82 mM_144 i_Md rfl oM_0 (Nat.le_of_ble_eq_true rfl) rfl rfl hd k
set_option maxHeartbeats 4000000 in
set_option maxRecDepth 100000 in
theorem pM_Md_491 {D : va_G} {ad : Nat → Nat} {cA : Nat → ClassId} {X : State → Prop} {p : Program} {l : Launch} {e : Env} {R : Room} {s : State} {m : MethodId} {args : Array Value} {below : List Frame} {meth : Method} {c : Code} {cc : ByteArray} {nL : Nat} {Q : State → Prop} {pc : Nat} {lv : List (Nat × Value)} {st : List Value} {σ : zS} (C : CM D ad cA X p s m args meth c cc "KindRoundsModel" nL) {v : Int32} (hd : decode cc pc = .ok (.putfield 491, 3)) (k : ZM D ad cA p l e R s m args below meth c nL Q (pc + 3) lv st (si σ 82 v)) : ZM D ad cA p l e R s m args below meth c nL Q pc lv (.int v :: .ref (ad 0) :: st) σ :=
  z_put C 82 (ty := .int) mM_144 i_Md t_Md t_Md_ok n_Md rfl oM_0 (Nat.le_of_ble_eq_true rfl) rfl rfl rfl rfl rfl (Nat.le_of_ble_eq_true rfl) rfl hd k
set_option maxHeartbeats 4000000 in
set_option maxRecDepth 100000 in
theorem gM_Md_178 {D : va_G} {ad : Nat → Nat} {cA : Nat → ClassId} {X : State → Prop} {p : Program} {l : Launch} {e : Env} {R : Room} {s : State} {m : MethodId} {args : Array Value} {below : List Frame} {meth : Method} {c : Code} {cc : ByteArray} {nL : Nat} {Q : State → Prop} {pc : Nat} {lv : List (Nat × Value)} {st : List Value} {σ : zS} (C : CM D ad cA X p s m args meth c cc "KindRoundsModel" nL) (hd : decode cc pc = .ok (.getfield 178, 3)) (k : ZM D ad cA p l e R s m args below meth c nL Q (pc + 3) lv (.ref (ad 55) :: st) σ) : ZM D ad cA p l e R s m args below meth c nL Q pc lv (.ref (ad 0) :: st) σ :=
  z_get C 81 mM_145 i_Md rfl oM_0 (Nat.le_of_ble_eq_true rfl) rfl rfl hd k
set_option maxHeartbeats 4000000 in
set_option maxRecDepth 100000 in
theorem alM_55 {D : va_G} {ad : Nat → Nat} {cA : Nat → ClassId} {X : State → Prop} {p : Program} {l : Launch} {e : Env} {R : Room} {s : State} {m : MethodId} {args : Array Value} {below : List Frame} {meth : Method} {c : Code} {cc : ByteArray} {nL : Nat} {Q : State → Prop} {pc : Nat} {lv : List (Nat × Value)} {st : List Value} {σ : zS} {own : String} (C : CM D ad cA X p s m args meth c cc own nL) {i : Int32} {v : Int32} (hv : ga σ 55 i.toNatClampNeg = v) (hin : inb i 6000 = true) (hd : decode cc pc = .ok (.iaload, 1)) (k : ZM D ad cA p l e R s m args below meth c nL Q (pc + 1) lv (.int v :: st) σ) : ZM D ad cA p l e R s m args below meth c nL Q pc lv (.int i :: .ref (ad 55) :: st) σ := by
  subst hv
  exact z_iald C (t0 := 54) (q0 := 55) rfl rfl hin hd k
set_option maxHeartbeats 4000000 in
set_option maxRecDepth 100000 in
theorem asM_55 {D : va_G} {ad : Nat → Nat} {cA : Nat → ClassId} {X : State → Prop} {p : Program} {l : Launch} {e : Env} {R : Room} {s : State} {m : MethodId} {args : Array Value} {below : List Frame} {meth : Method} {c : Code} {cc : ByteArray} {nL : Nat} {Q : State → Prop} {pc : Nat} {lv : List (Nat × Value)} {st : List Value} {σ : zS} {own : String} (C : CM D ad cA X p s m args meth c cc own nL) {i : Int32} {v : Int32} (hin : inb i 6000 = true) (hd : decode cc pc = .ok (.iastore, 1)) (k : ZM D ad cA p l e R s m args below meth c nL Q (pc + 1) lv st (sa σ 55 i.toNatClampNeg v)) : ZM D ad cA p l e R s m args below meth c nL Q pc lv (.int v :: .int i :: .ref (ad 55) :: st) σ :=
  z_iast C (t0 := 54) (q0 := 55) rfl rfl hin rfl hd k
set_option maxHeartbeats 4000000 in
set_option maxRecDepth 100000 in
theorem pM_Md_494 {D : va_G} {ad : Nat → Nat} {cA : Nat → ClassId} {X : State → Prop} {p : Program} {l : Launch} {e : Env} {R : Room} {s : State} {m : MethodId} {args : Array Value} {below : List Frame} {meth : Method} {c : Code} {cc : ByteArray} {nL : Nat} {Q : State → Prop} {pc : Nat} {lv : List (Nat × Value)} {st : List Value} {σ : zS} (C : CM D ad cA X p s m args meth c cc "KindRoundsModel" nL) {v : Int32} (hd : decode cc pc = .ok (.putfield 494, 3)) (k : ZM D ad cA p l e R s m args below meth c nL Q (pc + 3) lv st (si σ 84 v)) : ZM D ad cA p l e R s m args below meth c nL Q pc lv (.int v :: .ref (ad 0) :: st) σ :=
  z_put C 84 (ty := .int) mM_146 i_Md t_Md t_Md_ok n_Md rfl oM_0 (Nat.le_of_ble_eq_true rfl) rfl rfl rfl rfl rfl (Nat.le_of_ble_eq_true rfl) rfl hd k
set_option maxHeartbeats 4000000 in
set_option maxRecDepth 100000 in
theorem gM_Md_181 {D : va_G} {ad : Nat → Nat} {cA : Nat → ClassId} {X : State → Prop} {p : Program} {l : Launch} {e : Env} {R : Room} {s : State} {m : MethodId} {args : Array Value} {below : List Frame} {meth : Method} {c : Code} {cc : ByteArray} {nL : Nat} {Q : State → Prop} {pc : Nat} {lv : List (Nat × Value)} {st : List Value} {σ : zS} (C : CM D ad cA X p s m args meth c cc "KindRoundsModel" nL) (hd : decode cc pc = .ok (.getfield 181, 3)) (k : ZM D ad cA p l e R s m args below meth c nL Q (pc + 3) lv (.ref (ad 56) :: st) σ) : ZM D ad cA p l e R s m args below meth c nL Q pc lv (.ref (ad 0) :: st) σ :=
  z_get C 83 mM_147 i_Md rfl oM_0 (Nat.le_of_ble_eq_true rfl) rfl rfl hd k
set_option maxHeartbeats 4000000 in
set_option maxRecDepth 100000 in
theorem alM_56 {D : va_G} {ad : Nat → Nat} {cA : Nat → ClassId} {X : State → Prop} {p : Program} {l : Launch} {e : Env} {R : Room} {s : State} {m : MethodId} {args : Array Value} {below : List Frame} {meth : Method} {c : Code} {cc : ByteArray} {nL : Nat} {Q : State → Prop} {pc : Nat} {lv : List (Nat × Value)} {st : List Value} {σ : zS} {own : String} (C : CM D ad cA X p s m args meth c cc own nL) {i : Int32} {v : Int32} (hv : ga σ 56 i.toNatClampNeg = v) (hin : inb i 6000 = true) (hd : decode cc pc = .ok (.iaload, 1)) (k : ZM D ad cA p l e R s m args below meth c nL Q (pc + 1) lv (.int v :: st) σ) : ZM D ad cA p l e R s m args below meth c nL Q pc lv (.int i :: .ref (ad 56) :: st) σ := by
  subst hv
  exact z_iald C (t0 := 55) (q0 := 56) rfl rfl hin hd k
set_option maxHeartbeats 4000000 in
set_option maxRecDepth 100000 in
theorem asM_56 {D : va_G} {ad : Nat → Nat} {cA : Nat → ClassId} {X : State → Prop} {p : Program} {l : Launch} {e : Env} {R : Room} {s : State} {m : MethodId} {args : Array Value} {below : List Frame} {meth : Method} {c : Code} {cc : ByteArray} {nL : Nat} {Q : State → Prop} {pc : Nat} {lv : List (Nat × Value)} {st : List Value} {σ : zS} {own : String} (C : CM D ad cA X p s m args meth c cc own nL) {i : Int32} {v : Int32} (hin : inb i 6000 = true) (hd : decode cc pc = .ok (.iastore, 1)) (k : ZM D ad cA p l e R s m args below meth c nL Q (pc + 1) lv st (sa σ 56 i.toNatClampNeg v)) : ZM D ad cA p l e R s m args below meth c nL Q pc lv (.int v :: .int i :: .ref (ad 56) :: st) σ :=
  z_iast C (t0 := 55) (q0 := 56) rfl rfl hin rfl hd k
set_option maxHeartbeats 4000000 in
set_option maxRecDepth 100000 in
theorem alM_57 {D : va_G} {ad : Nat → Nat} {cA : Nat → ClassId} {X : State → Prop} {p : Program} {l : Launch} {e : Env} {R : Room} {s : State} {m : MethodId} {args : Array Value} {below : List Frame} {meth : Method} {c : Code} {cc : ByteArray} {nL : Nat} {Q : State → Prop} {pc : Nat} {lv : List (Nat × Value)} {st : List Value} {σ : zS} {own : String} (C : CM D ad cA X p s m args meth c cc own nL) {i : Int32} {v : Int32} (hv : ga σ 57 i.toNatClampNeg = v) (hin : inb i 4000 = true) (hd : decode cc pc = .ok (.iaload, 1)) (k : ZM D ad cA p l e R s m args below meth c nL Q (pc + 1) lv (.int v :: st) σ) : ZM D ad cA p l e R s m args below meth c nL Q pc lv (.int i :: .ref (ad 57) :: st) σ := by
  subst hv
  exact z_iald C (t0 := 56) (q0 := 57) rfl rfl hin hd k
set_option maxHeartbeats 4000000 in
set_option maxRecDepth 100000 in
theorem asM_57 {D : va_G} {ad : Nat → Nat} {cA : Nat → ClassId} {X : State → Prop} {p : Program} {l : Launch} {e : Env} {R : Room} {s : State} {m : MethodId} {args : Array Value} {below : List Frame} {meth : Method} {c : Code} {cc : ByteArray} {nL : Nat} {Q : State → Prop} {pc : Nat} {lv : List (Nat × Value)} {st : List Value} {σ : zS} {own : String} (C : CM D ad cA X p s m args meth c cc own nL) {i : Int32} {v : Int32} (hin : inb i 4000 = true) (hd : decode cc pc = .ok (.iastore, 1)) (k : ZM D ad cA p l e R s m args below meth c nL Q (pc + 1) lv st (sa σ 57 i.toNatClampNeg v)) : ZM D ad cA p l e R s m args below meth c nL Q pc lv (.int v :: .int i :: .ref (ad 57) :: st) σ :=
  z_iast C (t0 := 56) (q0 := 57) rfl rfl hin rfl hd k
set_option maxHeartbeats 4000000 in
set_option maxRecDepth 100000 in
theorem gM_Md_497 {D : va_G} {ad : Nat → Nat} {cA : Nat → ClassId} {X : State → Prop} {p : Program} {l : Launch} {e : Env} {R : Room} {s : State} {m : MethodId} {args : Array Value} {below : List Frame} {meth : Method} {c : Code} {cc : ByteArray} {nL : Nat} {Q : State → Prop} {pc : Nat} {lv : List (Nat × Value)} {st : List Value} {σ : zS} (C : CM D ad cA X p s m args meth c cc "KindRoundsModel" nL) {v : Int32} (hv : gi σ 87 = v) (hd : decode cc pc = .ok (.getfield 497, 3)) (k : ZM D ad cA p l e R s m args below meth c nL Q (pc + 3) lv (.int v :: st) σ) : ZM D ad cA p l e R s m args below meth c nL Q pc lv (.ref (ad 0) :: st) σ := by
  subst hv
  exact z_get C 87 mM_148 i_Md rfl oM_0 (Nat.le_of_ble_eq_true rfl) rfl rfl hd k
set_option maxHeartbeats 4000000 in
set_option maxRecDepth 100000 in
theorem pM_Md_497 {D : va_G} {ad : Nat → Nat} {cA : Nat → ClassId} {X : State → Prop} {p : Program} {l : Launch} {e : Env} {R : Room} {s : State} {m : MethodId} {args : Array Value} {below : List Frame} {meth : Method} {c : Code} {cc : ByteArray} {nL : Nat} {Q : State → Prop} {pc : Nat} {lv : List (Nat × Value)} {st : List Value} {σ : zS} (C : CM D ad cA X p s m args meth c cc "KindRoundsModel" nL) {v : Int32} (hd : decode cc pc = .ok (.putfield 497, 3)) (k : ZM D ad cA p l e R s m args below meth c nL Q (pc + 3) lv st (si σ 87 v)) : ZM D ad cA p l e R s m args below meth c nL Q pc lv (.int v :: .ref (ad 0) :: st) σ :=
  z_put C 87 (ty := .int) mM_148 i_Md t_Md t_Md_ok n_Md rfl oM_0 (Nat.le_of_ble_eq_true rfl) rfl rfl rfl rfl rfl (Nat.le_of_ble_eq_true rfl) rfl hd k
set_option maxHeartbeats 4000000 in
set_option maxRecDepth 100000 in
theorem gM_Md_184 {D : va_G} {ad : Nat → Nat} {cA : Nat → ClassId} {X : State → Prop} {p : Program} {l : Launch} {e : Env} {R : Room} {s : State} {m : MethodId} {args : Array Value} {below : List Frame} {meth : Method} {c : Code} {cc : ByteArray} {nL : Nat} {Q : State → Prop} {pc : Nat} {lv : List (Nat × Value)} {st : List Value} {σ : zS} (C : CM D ad cA X p s m args meth c cc "KindRoundsModel" nL) (hd : decode cc pc = .ok (.getfield 184, 3)) (k : ZM D ad cA p l e R s m args below meth c nL Q (pc + 3) lv (.ref (ad 57) :: st) σ) : ZM D ad cA p l e R s m args below meth c nL Q pc lv (.ref (ad 0) :: st) σ :=
  z_get C 86 mM_149 i_Md rfl oM_0 (Nat.le_of_ble_eq_true rfl) rfl rfl hd k
set_option maxHeartbeats 4000000 in
set_option maxRecDepth 100000 in
theorem gM_Md_506 {D : va_G} {ad : Nat → Nat} {cA : Nat → ClassId} {X : State → Prop} {p : Program} {l : Launch} {e : Env} {R : Room} {s : State} {m : MethodId} {args : Array Value} {below : List Frame} {meth : Method} {c : Code} {cc : ByteArray} {nL : Nat} {Q : State → Prop} {pc : Nat} {lv : List (Nat × Value)} {st : List Value} {σ : zS} (C : CM D ad cA X p s m args meth c cc "KindRoundsModel" nL) {v : Int32} (hv : gi σ 85 = v) (hd : decode cc pc = .ok (.getfield 506, 3)) (k : ZM D ad cA p l e R s m args below meth c nL Q (pc + 3) lv (.int v :: st) σ) : ZM D ad cA p l e R s m args below meth c nL Q pc lv (.ref (ad 0) :: st) σ := by
  subst hv
  exact z_get C 85 mM_152 i_Md rfl oM_0 (Nat.le_of_ble_eq_true rfl) rfl rfl hd k
set_option maxHeartbeats 4000000 in
set_option maxRecDepth 100000 in
theorem pM_Md_212 {D : va_G} {ad : Nat → Nat} {cA : Nat → ClassId} {X : State → Prop} {p : Program} {l : Launch} {e : Env} {R : Room} {s : State} {m : MethodId} {args : Array Value} {below : List Frame} {meth : Method} {c : Code} {cc : ByteArray} {nL : Nat} {Q : State → Prop} {pc : Nat} {lv : List (Nat × Value)} {st : List Value} {σ : zS} (C : CM D ad cA X p s m args meth c cc "KindRoundsModel" nL) {v : Int32} (hd : decode cc pc = .ok (.putfield 212, 3)) (k : ZM D ad cA p l e R s m args below meth c nL Q (pc + 3) lv st (si σ 88 v)) : ZM D ad cA p l e R s m args below meth c nL Q pc lv (.int v :: .ref (ad 0) :: st) σ :=
  z_put C 88 (ty := .int) mM_155 i_Md t_Md t_Md_ok n_Md rfl oM_0 (Nat.le_of_ble_eq_true rfl) rfl rfl rfl rfl rfl (Nat.le_of_ble_eq_true rfl) rfl hd k
set_option maxHeartbeats 4000000 in
set_option maxRecDepth 100000 in
theorem pM_Md_530 {D : va_G} {ad : Nat → Nat} {cA : Nat → ClassId} {X : State → Prop} {p : Program} {l : Launch} {e : Env} {R : Room} {s : State} {m : MethodId} {args : Array Value} {below : List Frame} {meth : Method} {c : Code} {cc : ByteArray} {nL : Nat} {Q : State → Prop} {pc : Nat} {lv : List (Nat × Value)} {st : List Value} {σ : zS} (C : CM D ad cA X p s m args meth c cc "KindRoundsModel" nL) {v : Int32} (hd : decode cc pc = .ok (.putfield 530, 3)) (k : ZM D ad cA p l e R s m args below meth c nL Q (pc + 3) lv st (si σ 89 v)) : ZM D ad cA p l e R s m args below meth c nL Q pc lv (.int v :: .ref (ad 0) :: st) σ :=
  z_put C 89 (ty := .int) mM_156 i_Md t_Md t_Md_ok n_Md rfl oM_0 (Nat.le_of_ble_eq_true rfl) rfl rfl rfl rfl rfl (Nat.le_of_ble_eq_true rfl) rfl hd k
set_option maxHeartbeats 4000000 in
set_option maxRecDepth 100000 in
theorem gM_Md_187 {D : va_G} {ad : Nat → Nat} {cA : Nat → ClassId} {X : State → Prop} {p : Program} {l : Launch} {e : Env} {R : Room} {s : State} {m : MethodId} {args : Array Value} {below : List Frame} {meth : Method} {c : Code} {cc : ByteArray} {nL : Nat} {Q : State → Prop} {pc : Nat} {lv : List (Nat × Value)} {st : List Value} {σ : zS} (C : CM D ad cA X p s m args meth c cc "KindRoundsModel" nL) (hd : decode cc pc = .ok (.getfield 187, 3)) (k : ZM D ad cA p l e R s m args below meth c nL Q (pc + 3) lv (.ref (ad 58) :: st) σ) : ZM D ad cA p l e R s m args below meth c nL Q pc lv (.ref (ad 0) :: st) σ :=
  z_get C 90 mM_157 i_Md rfl oM_0 (Nat.le_of_ble_eq_true rfl) rfl rfl hd k
set_option maxHeartbeats 4000000 in
set_option maxRecDepth 100000 in
theorem pM_Md_215 {D : va_G} {ad : Nat → Nat} {cA : Nat → ClassId} {X : State → Prop} {p : Program} {l : Launch} {e : Env} {R : Room} {s : State} {m : MethodId} {args : Array Value} {below : List Frame} {meth : Method} {c : Code} {cc : ByteArray} {nL : Nat} {Q : State → Prop} {pc : Nat} {lv : List (Nat × Value)} {st : List Value} {σ : zS} (C : CM D ad cA X p s m args meth c cc "KindRoundsModel" nL) {v : Int32} (hd : decode cc pc = .ok (.putfield 215, 3)) (k : ZM D ad cA p l e R s m args below meth c nL Q (pc + 3) lv st (si σ 0 v)) : ZM D ad cA p l e R s m args below meth c nL Q pc lv (.int v :: .ref (ad 0) :: st) σ :=
  z_put C 0 (ty := .int) mM_161 i_Md t_Md t_Md_ok n_Md rfl oM_0 (Nat.le_of_ble_eq_true rfl) rfl rfl rfl rfl rfl (Nat.le_of_ble_eq_true rfl) rfl hd k
set_option maxHeartbeats 4000000 in
set_option maxRecDepth 100000 in
theorem gM_Md_13 {D : va_G} {ad : Nat → Nat} {cA : Nat → ClassId} {X : State → Prop} {p : Program} {l : Launch} {e : Env} {R : Room} {s : State} {m : MethodId} {args : Array Value} {below : List Frame} {meth : Method} {c : Code} {cc : ByteArray} {nL : Nat} {Q : State → Prop} {pc : Nat} {lv : List (Nat × Value)} {st : List Value} {σ : zS} (C : CM D ad cA X p s m args meth c cc "KindRoundsModel" nL) {v : Int32} (hv : gi σ 9 = v) (hd : decode cc pc = .ok (.getfield 13, 3)) (k : ZM D ad cA p l e R s m args below meth c nL Q (pc + 3) lv (.int v :: st) σ) : ZM D ad cA p l e R s m args below meth c nL Q pc lv (.ref (ad 0) :: st) σ := by
  subst hv
  exact z_get C 9 mM_3 i_Md rfl oM_0 (Nat.le_of_ble_eq_true rfl) rfl rfl hd k
set_option maxHeartbeats 4000000 in
set_option maxRecDepth 100000 in
theorem pM_Md_506 {D : va_G} {ad : Nat → Nat} {cA : Nat → ClassId} {X : State → Prop} {p : Program} {l : Launch} {e : Env} {R : Room} {s : State} {m : MethodId} {args : Array Value} {below : List Frame} {meth : Method} {c : Code} {cc : ByteArray} {nL : Nat} {Q : State → Prop} {pc : Nat} {lv : List (Nat × Value)} {st : List Value} {σ : zS} (C : CM D ad cA X p s m args meth c cc "KindRoundsModel" nL) {v : Int32} (hb : isB v = true) (hd : decode cc pc = .ok (.putfield 506, 3)) (k : ZM D ad cA p l e R s m args below meth c nL Q (pc + 3) lv st (si σ 85 v)) : ZM D ad cA p l e R s m args below meth c nL Q pc lv (.int v :: .ref (ad 0) :: st) σ :=
  z_put C 85 (ty := .boolean) mM_152 i_Md t_Md t_Md_ok n_Md rfl oM_0 (Nat.le_of_ble_eq_true rfl) rfl rfl rfl (isB_n hb) (isB_f hb) (Nat.le_of_ble_eq_true rfl) rfl hd k
set_option maxHeartbeats 4000000 in
set_option maxRecDepth 100000 in
theorem gM_Md_354 {D : va_G} {ad : Nat → Nat} {cA : Nat → ClassId} {X : State → Prop} {p : Program} {l : Launch} {e : Env} {R : Room} {s : State} {m : MethodId} {args : Array Value} {below : List Frame} {meth : Method} {c : Code} {cc : ByteArray} {nL : Nat} {Q : State → Prop} {pc : Nat} {lv : List (Nat × Value)} {st : List Value} {σ : zS} (C : CM D ad cA X p s m args meth c cc "KindRoundsModel" nL) {v : Int32} (hv : gi σ 10 = v) (hd : decode cc pc = .ok (.getfield 354, 3)) (k : ZM D ad cA p l e R s m args below meth c nL Q (pc + 3) lv (.int v :: st) σ) : ZM D ad cA p l e R s m args below meth c nL Q pc lv (.ref (ad 0) :: st) σ := by
  subst hv
  exact z_get C 10 mM_78 i_Md rfl oM_0 (Nat.le_of_ble_eq_true rfl) rfl rfl hd k
set_option maxHeartbeats 4000000 in
set_option maxRecDepth 100000 in
theorem gM_Md_476 {D : va_G} {ad : Nat → Nat} {cA : Nat → ClassId} {X : State → Prop} {p : Program} {l : Launch} {e : Env} {R : Room} {s : State} {m : MethodId} {args : Array Value} {below : List Frame} {meth : Method} {c : Code} {cc : ByteArray} {nL : Nat} {Q : State → Prop} {pc : Nat} {lv : List (Nat × Value)} {st : List Value} {σ : zS} (C : CM D ad cA X p s m args meth c cc "KindRoundsModel" nL) {v : Int32} (hv : gi σ 79 = v) (hd : decode cc pc = .ok (.getfield 476, 3)) (k : ZM D ad cA p l e R s m args below meth c nL Q (pc + 3) lv (.int v :: st) σ) : ZM D ad cA p l e R s m args below meth c nL Q pc lv (.ref (ad 0) :: st) σ := by
  subst hv
  exact z_get C 79 mM_135 i_Md rfl oM_0 (Nat.le_of_ble_eq_true rfl) rfl rfl hd k
set_option maxHeartbeats 4000000 in
set_option maxRecDepth 100000 in
theorem gM_Md_479 {D : va_G} {ad : Nat → Nat} {cA : Nat → ClassId} {X : State → Prop} {p : Program} {l : Launch} {e : Env} {R : Room} {s : State} {m : MethodId} {args : Array Value} {below : List Frame} {meth : Method} {c : Code} {cc : ByteArray} {nL : Nat} {Q : State → Prop} {pc : Nat} {lv : List (Nat × Value)} {st : List Value} {σ : zS} (C : CM D ad cA X p s m args meth c cc "KindRoundsModel" nL) {v : Int32} (hv : gi σ 80 = v) (hd : decode cc pc = .ok (.getfield 479, 3)) (k : ZM D ad cA p l e R s m args below meth c nL Q (pc + 3) lv (.int v :: st) σ) : ZM D ad cA p l e R s m args below meth c nL Q pc lv (.ref (ad 0) :: st) σ := by
  subst hv
  exact z_get C 80 mM_136 i_Md rfl oM_0 (Nat.le_of_ble_eq_true rfl) rfl rfl hd k
set_option maxHeartbeats 4000000 in
set_option maxRecDepth 100000 in
theorem gM_Md_494 {D : va_G} {ad : Nat → Nat} {cA : Nat → ClassId} {X : State → Prop} {p : Program} {l : Launch} {e : Env} {R : Room} {s : State} {m : MethodId} {args : Array Value} {below : List Frame} {meth : Method} {c : Code} {cc : ByteArray} {nL : Nat} {Q : State → Prop} {pc : Nat} {lv : List (Nat × Value)} {st : List Value} {σ : zS} (C : CM D ad cA X p s m args meth c cc "KindRoundsModel" nL) {v : Int32} (hv : gi σ 84 = v) (hd : decode cc pc = .ok (.getfield 494, 3)) (k : ZM D ad cA p l e R s m args below meth c nL Q (pc + 3) lv (.int v :: st) σ) : ZM D ad cA p l e R s m args below meth c nL Q pc lv (.ref (ad 0) :: st) σ := by
  subst hv
  exact z_get C 84 mM_146 i_Md rfl oM_0 (Nat.le_of_ble_eq_true rfl) rfl rfl hd k
set_option maxHeartbeats 4000000 in
set_option maxRecDepth 100000 in
theorem gM_Md_530 {D : va_G} {ad : Nat → Nat} {cA : Nat → ClassId} {X : State → Prop} {p : Program} {l : Launch} {e : Env} {R : Room} {s : State} {m : MethodId} {args : Array Value} {below : List Frame} {meth : Method} {c : Code} {cc : ByteArray} {nL : Nat} {Q : State → Prop} {pc : Nat} {lv : List (Nat × Value)} {st : List Value} {σ : zS} (C : CM D ad cA X p s m args meth c cc "KindRoundsModel" nL) {v : Int32} (hv : gi σ 89 = v) (hd : decode cc pc = .ok (.getfield 530, 3)) (k : ZM D ad cA p l e R s m args below meth c nL Q (pc + 3) lv (.int v :: st) σ) : ZM D ad cA p l e R s m args below meth c nL Q pc lv (.ref (ad 0) :: st) σ := by
  subst hv
  exact z_get C 89 mM_156 i_Md rfl oM_0 (Nat.le_of_ble_eq_true rfl) rfl rfl hd k
set_option maxHeartbeats 4000000 in
set_option maxRecDepth 100000 in
theorem gM_Md_212 {D : va_G} {ad : Nat → Nat} {cA : Nat → ClassId} {X : State → Prop} {p : Program} {l : Launch} {e : Env} {R : Room} {s : State} {m : MethodId} {args : Array Value} {below : List Frame} {meth : Method} {c : Code} {cc : ByteArray} {nL : Nat} {Q : State → Prop} {pc : Nat} {lv : List (Nat × Value)} {st : List Value} {σ : zS} (C : CM D ad cA X p s m args meth c cc "KindRoundsModel" nL) {v : Int32} (hv : gi σ 88 = v) (hd : decode cc pc = .ok (.getfield 212, 3)) (k : ZM D ad cA p l e R s m args below meth c nL Q (pc + 3) lv (.int v :: st) σ) : ZM D ad cA p l e R s m args below meth c nL Q pc lv (.ref (ad 0) :: st) σ := by
  subst hv
  exact z_get C 88 mM_155 i_Md rfl oM_0 (Nat.le_of_ble_eq_true rfl) rfl rfl hd k
set_option maxHeartbeats 4000000 in
set_option maxRecDepth 100000 in
theorem pM_Md_542 {D : va_G} {ad : Nat → Nat} {cA : Nat → ClassId} {X : State → Prop} {p : Program} {l : Launch} {e : Env} {R : Room} {s : State} {m : MethodId} {args : Array Value} {below : List Frame} {meth : Method} {c : Code} {cc : ByteArray} {nL : Nat} {Q : State → Prop} {pc : Nat} {lv : List (Nat × Value)} {st : List Value} {σ : zS} (C : CM D ad cA X p s m args meth c cc "KindRoundsModel" nL) {v : Int32} (hd : decode cc pc = .ok (.putfield 542, 3)) (k : ZM D ad cA p l e R s m args below meth c nL Q (pc + 3) lv st (si σ 91 v)) : ZM D ad cA p l e R s m args below meth c nL Q pc lv (.int v :: .ref (ad 0) :: st) σ :=
  z_put C 91 (ty := .int) mM_167 i_Md t_Md t_Md_ok n_Md rfl oM_0 (Nat.le_of_ble_eq_true rfl) rfl rfl rfl rfl rfl (Nat.le_of_ble_eq_true rfl) rfl hd k
set_option maxHeartbeats 4000000 in
set_option maxRecDepth 100000 in
theorem arM_isPt {ad : Nat → Nat} {cA : Nat → ClassId} {σ : zS} {x : Nat} (h : isPt x = true) : (wdM ad cA σ)[x]? = some (ad x, .inl (cA x, 1200, .inl (ga σ x))) := by
  rcases isPt_or h with rfl | rfl <;> rfl
set_option maxHeartbeats 4000000 in
set_option maxRecDepth 100000 in
theorem atM_isPt {cA : Nat → ClassId} {x : Nat} (h : isPt x = true) : (tysM cA)[x - 1]? = some (cA x, .int) := by
  rcases isPt_or h with rfl | rfl <;> rfl
set_option maxHeartbeats 4000000 in
set_option maxRecDepth 100000 in
theorem aSM_isPt {ad : Nat → Nat} {cA : Nat → ClassId} {σ : zS} {x : Nat} (h : isPt x = true) {f : Nat → Int32} : (wdM ad cA σ).set x (ad x, .inl (cA x, 1200, .inl f)) = wdM ad cA (sA σ x f) := by
  rcases isPt_or h with rfl | rfl <;> rfl
set_option maxHeartbeats 4000000 in
set_option maxRecDepth 100000 in
theorem alM_isPt {D : va_G} {ad : Nat → Nat} {cA : Nat → ClassId} {X : State → Prop} {p : Program} {l : Launch} {e : Env} {R : Room} {s : State} {m : MethodId} {args : Array Value} {below : List Frame} {meth : Method} {c : Code} {cc : ByteArray} {nL : Nat} {Q : State → Prop} {pc : Nat} {lv : List (Nat × Value)} {st : List Value} {σ : zS} {own : String} (C : CM D ad cA X p s m args meth c cc own nL) {x : Nat} (hx : isPt x = true) {i : Int32} {v : Int32} (hv : ga σ x i.toNatClampNeg = v) (hin : inb i 1200 = true) (hd : decode cc pc = .ok (.iaload, 1)) (k : ZM D ad cA p l e R s m args below meth c nL Q (pc + 1) lv (.int v :: st) σ) : ZM D ad cA p l e R s m args below meth c nL Q pc lv (.int i :: .ref (ad x) :: st) σ := by
  subst hv
  exact z_iald C (t0 := x - 1) (arM_isPt hx) (atM_isPt hx) hin hd k
set_option maxHeartbeats 4000000 in
set_option maxRecDepth 100000 in
theorem asM_isPt {D : va_G} {ad : Nat → Nat} {cA : Nat → ClassId} {X : State → Prop} {p : Program} {l : Launch} {e : Env} {R : Room} {s : State} {m : MethodId} {args : Array Value} {below : List Frame} {meth : Method} {c : Code} {cc : ByteArray} {nL : Nat} {Q : State → Prop} {pc : Nat} {lv : List (Nat × Value)} {st : List Value} {σ : zS} {own : String} (C : CM D ad cA X p s m args meth c cc own nL) {x : Nat} (hx : isPt x = true) {i : Int32} {v : Int32} (hin : inb i 1200 = true) (hd : decode cc pc = .ok (.iastore, 1)) (k : ZM D ad cA p l e R s m args below meth c nL Q (pc + 1) lv st (sa σ x i.toNatClampNeg v)) : ZM D ad cA p l e R s m args below meth c nL Q pc lv (.int v :: .int i :: .ref (ad x) :: st) σ :=
  z_iast C (t0 := x - 1) (arM_isPt hx) (atM_isPt hx) hin (aSM_isPt hx) hd k
set_option maxHeartbeats 4000000 in
set_option maxRecDepth 100000 in
theorem gM_Md_190 {D : va_G} {ad : Nat → Nat} {cA : Nat → ClassId} {X : State → Prop} {p : Program} {l : Launch} {e : Env} {R : Room} {s : State} {m : MethodId} {args : Array Value} {below : List Frame} {meth : Method} {c : Code} {cc : ByteArray} {nL : Nat} {Q : State → Prop} {pc : Nat} {lv : List (Nat × Value)} {st : List Value} {σ : zS} (C : CM D ad cA X p s m args meth c cc "KindRoundsModel" nL) (hd : decode cc pc = .ok (.getfield 190, 3)) (k : ZM D ad cA p l e R s m args below meth c nL Q (pc + 3) lv (.ref (ad 59) :: st) σ) : ZM D ad cA p l e R s m args below meth c nL Q pc lv (.ref (ad 0) :: st) σ :=
  z_get C 92 mM_169 i_Md rfl oM_0 (Nat.le_of_ble_eq_true rfl) rfl rfl hd k
set_option maxHeartbeats 4000000 in
set_option maxRecDepth 100000 in
theorem alM_59 {D : va_G} {ad : Nat → Nat} {cA : Nat → ClassId} {X : State → Prop} {p : Program} {l : Launch} {e : Env} {R : Room} {s : State} {m : MethodId} {args : Array Value} {below : List Frame} {meth : Method} {c : Code} {cc : ByteArray} {nL : Nat} {Q : State → Prop} {pc : Nat} {lv : List (Nat × Value)} {st : List Value} {σ : zS} {own : String} (C : CM D ad cA X p s m args meth c cc own nL) {i : Int32} {v : Int32} (hv : ga σ 59 i.toNatClampNeg = v) (hin : inb i 1200 = true) (hd : decode cc pc = .ok (.iaload, 1)) (k : ZM D ad cA p l e R s m args below meth c nL Q (pc + 1) lv (.int v :: st) σ) : ZM D ad cA p l e R s m args below meth c nL Q pc lv (.int i :: .ref (ad 59) :: st) σ := by
  subst hv
  exact z_iald C (t0 := 58) (q0 := 59) rfl rfl hin hd k
set_option maxHeartbeats 4000000 in
set_option maxRecDepth 100000 in
theorem asM_59 {D : va_G} {ad : Nat → Nat} {cA : Nat → ClassId} {X : State → Prop} {p : Program} {l : Launch} {e : Env} {R : Room} {s : State} {m : MethodId} {args : Array Value} {below : List Frame} {meth : Method} {c : Code} {cc : ByteArray} {nL : Nat} {Q : State → Prop} {pc : Nat} {lv : List (Nat × Value)} {st : List Value} {σ : zS} {own : String} (C : CM D ad cA X p s m args meth c cc own nL) {i : Int32} {v : Int32} (hin : inb i 1200 = true) (hd : decode cc pc = .ok (.iastore, 1)) (k : ZM D ad cA p l e R s m args below meth c nL Q (pc + 1) lv st (sa σ 59 i.toNatClampNeg v)) : ZM D ad cA p l e R s m args below meth c nL Q pc lv (.int v :: .int i :: .ref (ad 59) :: st) σ :=
  z_iast C (t0 := 58) (q0 := 59) rfl rfl hin rfl hd k
set_option maxHeartbeats 4000000 in
set_option maxRecDepth 100000 in
theorem gM_Md_552 {D : va_G} {ad : Nat → Nat} {cA : Nat → ClassId} {X : State → Prop} {p : Program} {l : Launch} {e : Env} {R : Room} {s : State} {m : MethodId} {args : Array Value} {below : List Frame} {meth : Method} {c : Code} {cc : ByteArray} {nL : Nat} {Q : State → Prop} {pc : Nat} {lv : List (Nat × Value)} {st : List Value} {σ : zS} (C : CM D ad cA X p s m args meth c cc "KindRoundsModel" nL) {v : Int32} (hv : gi σ 96 = v) (hd : decode cc pc = .ok (.getfield 552, 3)) (k : ZM D ad cA p l e R s m args below meth c nL Q (pc + 3) lv (.int v :: st) σ) : ZM D ad cA p l e R s m args below meth c nL Q pc lv (.ref (ad 0) :: st) σ := by
  subst hv
  exact z_get C 96 mM_170 i_Md rfl oM_0 (Nat.le_of_ble_eq_true rfl) rfl rfl hd k
set_option maxHeartbeats 4000000 in
set_option maxRecDepth 100000 in
theorem pM_Md_552 {D : va_G} {ad : Nat → Nat} {cA : Nat → ClassId} {X : State → Prop} {p : Program} {l : Launch} {e : Env} {R : Room} {s : State} {m : MethodId} {args : Array Value} {below : List Frame} {meth : Method} {c : Code} {cc : ByteArray} {nL : Nat} {Q : State → Prop} {pc : Nat} {lv : List (Nat × Value)} {st : List Value} {σ : zS} (C : CM D ad cA X p s m args meth c cc "KindRoundsModel" nL) {v : Int32} (hd : decode cc pc = .ok (.putfield 552, 3)) (k : ZM D ad cA p l e R s m args below meth c nL Q (pc + 3) lv st (si σ 96 v)) : ZM D ad cA p l e R s m args below meth c nL Q pc lv (.int v :: .ref (ad 0) :: st) σ :=
  z_put C 96 (ty := .int) mM_170 i_Md t_Md t_Md_ok n_Md rfl oM_0 (Nat.le_of_ble_eq_true rfl) rfl rfl rfl rfl rfl (Nat.le_of_ble_eq_true rfl) rfl hd k
set_option maxHeartbeats 4000000 in
set_option maxRecDepth 100000 in
theorem pM_Md_549 {D : va_G} {ad : Nat → Nat} {cA : Nat → ClassId} {X : State → Prop} {p : Program} {l : Launch} {e : Env} {R : Room} {s : State} {m : MethodId} {args : Array Value} {below : List Frame} {meth : Method} {c : Code} {cc : ByteArray} {nL : Nat} {Q : State → Prop} {pc : Nat} {lv : List (Nat × Value)} {st : List Value} {σ : zS} (C : CM D ad cA X p s m args meth c cc "KindRoundsModel" nL) {v : Int32} (hd : decode cc pc = .ok (.putfield 549, 3)) (k : ZM D ad cA p l e R s m args below meth c nL Q (pc + 3) lv st (si σ 97 v)) : ZM D ad cA p l e R s m args below meth c nL Q pc lv (.int v :: .ref (ad 0) :: st) σ :=
  z_put C 97 (ty := .int) mM_171 i_Md t_Md t_Md_ok n_Md rfl oM_0 (Nat.le_of_ble_eq_true rfl) rfl rfl rfl rfl rfl (Nat.le_of_ble_eq_true rfl) rfl hd k
set_option maxHeartbeats 4000000 in
set_option maxRecDepth 100000 in
theorem gM_Md_193 {D : va_G} {ad : Nat → Nat} {cA : Nat → ClassId} {X : State → Prop} {p : Program} {l : Launch} {e : Env} {R : Room} {s : State} {m : MethodId} {args : Array Value} {below : List Frame} {meth : Method} {c : Code} {cc : ByteArray} {nL : Nat} {Q : State → Prop} {pc : Nat} {lv : List (Nat × Value)} {st : List Value} {σ : zS} (C : CM D ad cA X p s m args meth c cc "KindRoundsModel" nL) (hd : decode cc pc = .ok (.getfield 193, 3)) (k : ZM D ad cA p l e R s m args below meth c nL Q (pc + 3) lv (.ref (ad 60) :: st) σ) : ZM D ad cA p l e R s m args below meth c nL Q pc lv (.ref (ad 0) :: st) σ :=
  z_get C 93 mM_172 i_Md rfl oM_0 (Nat.le_of_ble_eq_true rfl) rfl rfl hd k
set_option maxHeartbeats 4000000 in
set_option maxRecDepth 100000 in
theorem alM_60 {D : va_G} {ad : Nat → Nat} {cA : Nat → ClassId} {X : State → Prop} {p : Program} {l : Launch} {e : Env} {R : Room} {s : State} {m : MethodId} {args : Array Value} {below : List Frame} {meth : Method} {c : Code} {cc : ByteArray} {nL : Nat} {Q : State → Prop} {pc : Nat} {lv : List (Nat × Value)} {st : List Value} {σ : zS} {own : String} (C : CM D ad cA X p s m args meth c cc own nL) {i : Int32} {v : Int32} (hv : ga σ 60 i.toNatClampNeg = v) (hin : inb i 1200 = true) (hd : decode cc pc = .ok (.iaload, 1)) (k : ZM D ad cA p l e R s m args below meth c nL Q (pc + 1) lv (.int v :: st) σ) : ZM D ad cA p l e R s m args below meth c nL Q pc lv (.int i :: .ref (ad 60) :: st) σ := by
  subst hv
  exact z_iald C (t0 := 59) (q0 := 60) rfl rfl hin hd k
set_option maxHeartbeats 4000000 in
set_option maxRecDepth 100000 in
theorem asM_60 {D : va_G} {ad : Nat → Nat} {cA : Nat → ClassId} {X : State → Prop} {p : Program} {l : Launch} {e : Env} {R : Room} {s : State} {m : MethodId} {args : Array Value} {below : List Frame} {meth : Method} {c : Code} {cc : ByteArray} {nL : Nat} {Q : State → Prop} {pc : Nat} {lv : List (Nat × Value)} {st : List Value} {σ : zS} {own : String} (C : CM D ad cA X p s m args meth c cc own nL) {i : Int32} {v : Int32} (hin : inb i 1200 = true) (hd : decode cc pc = .ok (.iastore, 1)) (k : ZM D ad cA p l e R s m args below meth c nL Q (pc + 1) lv st (sa σ 60 i.toNatClampNeg v)) : ZM D ad cA p l e R s m args below meth c nL Q pc lv (.int v :: .int i :: .ref (ad 60) :: st) σ :=
  z_iast C (t0 := 59) (q0 := 60) rfl rfl hin rfl hd k
set_option maxHeartbeats 4000000 in
set_option maxRecDepth 100000 in
theorem gM_Md_549 {D : va_G} {ad : Nat → Nat} {cA : Nat → ClassId} {X : State → Prop} {p : Program} {l : Launch} {e : Env} {R : Room} {s : State} {m : MethodId} {args : Array Value} {below : List Frame} {meth : Method} {c : Code} {cc : ByteArray} {nL : Nat} {Q : State → Prop} {pc : Nat} {lv : List (Nat × Value)} {st : List Value} {σ : zS} (C : CM D ad cA X p s m args meth c cc "KindRoundsModel" nL) {v : Int32} (hv : gi σ 97 = v) (hd : decode cc pc = .ok (.getfield 549, 3)) (k : ZM D ad cA p l e R s m args below meth c nL Q (pc + 3) lv (.int v :: st) σ) : ZM D ad cA p l e R s m args below meth c nL Q pc lv (.ref (ad 0) :: st) σ := by
  subst hv
  exact z_get C 97 mM_171 i_Md rfl oM_0 (Nat.le_of_ble_eq_true rfl) rfl rfl hd k
set_option maxHeartbeats 4000000 in
set_option maxRecDepth 100000 in
theorem pM_Md_571 {D : va_G} {ad : Nat → Nat} {cA : Nat → ClassId} {X : State → Prop} {p : Program} {l : Launch} {e : Env} {R : Room} {s : State} {m : MethodId} {args : Array Value} {below : List Frame} {meth : Method} {c : Code} {cc : ByteArray} {nL : Nat} {Q : State → Prop} {pc : Nat} {lv : List (Nat × Value)} {st : List Value} {σ : zS} (C : CM D ad cA X p s m args meth c cc "KindRoundsModel" nL) {v : Int32} (hd : decode cc pc = .ok (.putfield 571, 3)) (k : ZM D ad cA p l e R s m args below meth c nL Q (pc + 3) lv st (si σ 95 v)) : ZM D ad cA p l e R s m args below meth c nL Q pc lv (.int v :: .ref (ad 0) :: st) σ :=
  z_put C 95 (ty := .int) mM_175 i_Md t_Md t_Md_ok n_Md rfl oM_0 (Nat.le_of_ble_eq_true rfl) rfl rfl rfl rfl rfl (Nat.le_of_ble_eq_true rfl) rfl hd k
set_option maxHeartbeats 4000000 in
set_option maxRecDepth 100000 in
theorem gM_Md_571 {D : va_G} {ad : Nat → Nat} {cA : Nat → ClassId} {X : State → Prop} {p : Program} {l : Launch} {e : Env} {R : Room} {s : State} {m : MethodId} {args : Array Value} {below : List Frame} {meth : Method} {c : Code} {cc : ByteArray} {nL : Nat} {Q : State → Prop} {pc : Nat} {lv : List (Nat × Value)} {st : List Value} {σ : zS} (C : CM D ad cA X p s m args meth c cc "KindRoundsModel" nL) {v : Int32} (hv : gi σ 95 = v) (hd : decode cc pc = .ok (.getfield 571, 3)) (k : ZM D ad cA p l e R s m args below meth c nL Q (pc + 3) lv (.int v :: st) σ) : ZM D ad cA p l e R s m args below meth c nL Q pc lv (.ref (ad 0) :: st) σ := by
  subst hv
  exact z_get C 95 mM_175 i_Md rfl oM_0 (Nat.le_of_ble_eq_true rfl) rfl rfl hd k
set_option maxHeartbeats 4000000 in
set_option maxRecDepth 100000 in
theorem gM_Md_196 {D : va_G} {ad : Nat → Nat} {cA : Nat → ClassId} {X : State → Prop} {p : Program} {l : Launch} {e : Env} {R : Room} {s : State} {m : MethodId} {args : Array Value} {below : List Frame} {meth : Method} {c : Code} {cc : ByteArray} {nL : Nat} {Q : State → Prop} {pc : Nat} {lv : List (Nat × Value)} {st : List Value} {σ : zS} (C : CM D ad cA X p s m args meth c cc "KindRoundsModel" nL) (hd : decode cc pc = .ok (.getfield 196, 3)) (k : ZM D ad cA p l e R s m args below meth c nL Q (pc + 3) lv (.ref (ad 61) :: st) σ) : ZM D ad cA p l e R s m args below meth c nL Q pc lv (.ref (ad 0) :: st) σ :=
  z_get C 94 mM_178 i_Md rfl oM_0 (Nat.le_of_ble_eq_true rfl) rfl rfl hd k
set_option maxHeartbeats 4000000 in
set_option maxRecDepth 100000 in
theorem alM_61 {D : va_G} {ad : Nat → Nat} {cA : Nat → ClassId} {X : State → Prop} {p : Program} {l : Launch} {e : Env} {R : Room} {s : State} {m : MethodId} {args : Array Value} {below : List Frame} {meth : Method} {c : Code} {cc : ByteArray} {nL : Nat} {Q : State → Prop} {pc : Nat} {lv : List (Nat × Value)} {st : List Value} {σ : zS} {own : String} (C : CM D ad cA X p s m args meth c cc own nL) {i : Int32} {v : Int32} (hv : ga σ 61 i.toNatClampNeg = v) (hin : inb i 1200 = true) (hd : decode cc pc = .ok (.iaload, 1)) (k : ZM D ad cA p l e R s m args below meth c nL Q (pc + 1) lv (.int v :: st) σ) : ZM D ad cA p l e R s m args below meth c nL Q pc lv (.int i :: .ref (ad 61) :: st) σ := by
  subst hv
  exact z_iald C (t0 := 60) (q0 := 61) rfl rfl hin hd k
set_option maxHeartbeats 4000000 in
set_option maxRecDepth 100000 in
theorem asM_61 {D : va_G} {ad : Nat → Nat} {cA : Nat → ClassId} {X : State → Prop} {p : Program} {l : Launch} {e : Env} {R : Room} {s : State} {m : MethodId} {args : Array Value} {below : List Frame} {meth : Method} {c : Code} {cc : ByteArray} {nL : Nat} {Q : State → Prop} {pc : Nat} {lv : List (Nat × Value)} {st : List Value} {σ : zS} {own : String} (C : CM D ad cA X p s m args meth c cc own nL) {i : Int32} {v : Int32} (hin : inb i 1200 = true) (hd : decode cc pc = .ok (.iastore, 1)) (k : ZM D ad cA p l e R s m args below meth c nL Q (pc + 1) lv st (sa σ 61 i.toNatClampNeg v)) : ZM D ad cA p l e R s m args below meth c nL Q pc lv (.int v :: .int i :: .ref (ad 61) :: st) σ :=
  z_iast C (t0 := 60) (q0 := 61) rfl rfl hin rfl hd k
set_option maxHeartbeats 4000000 in
set_option maxRecDepth 100000 in
theorem gM_Md_199 {D : va_G} {ad : Nat → Nat} {cA : Nat → ClassId} {X : State → Prop} {p : Program} {l : Launch} {e : Env} {R : Room} {s : State} {m : MethodId} {args : Array Value} {below : List Frame} {meth : Method} {c : Code} {cc : ByteArray} {nL : Nat} {Q : State → Prop} {pc : Nat} {lv : List (Nat × Value)} {st : List Value} {σ : zS} (C : CM D ad cA X p s m args meth c cc "KindRoundsModel" nL) (hd : decode cc pc = .ok (.getfield 199, 3)) (k : ZM D ad cA p l e R s m args below meth c nL Q (pc + 3) lv (.ref (ad 62) :: st) σ) : ZM D ad cA p l e R s m args below meth c nL Q pc lv (.ref (ad 0) :: st) σ :=
  z_get C 98 mM_187 i_Md rfl oM_0 (Nat.le_of_ble_eq_true rfl) rfl rfl hd k
set_option maxHeartbeats 4000000 in
set_option maxRecDepth 100000 in
theorem alM_62 {D : va_G} {ad : Nat → Nat} {cA : Nat → ClassId} {X : State → Prop} {p : Program} {l : Launch} {e : Env} {R : Room} {s : State} {m : MethodId} {args : Array Value} {below : List Frame} {meth : Method} {c : Code} {cc : ByteArray} {nL : Nat} {Q : State → Prop} {pc : Nat} {lv : List (Nat × Value)} {st : List Value} {σ : zS} {own : String} (C : CM D ad cA X p s m args meth c cc own nL) {i : Int32} {v : Int32} (hv : ga σ 62 i.toNatClampNeg = v) (hin : inb i 6000 = true) (hd : decode cc pc = .ok (.iaload, 1)) (k : ZM D ad cA p l e R s m args below meth c nL Q (pc + 1) lv (.int v :: st) σ) : ZM D ad cA p l e R s m args below meth c nL Q pc lv (.int i :: .ref (ad 62) :: st) σ := by
  subst hv
  exact z_iald C (t0 := 61) (q0 := 62) rfl rfl hin hd k
set_option maxHeartbeats 4000000 in
set_option maxRecDepth 100000 in
theorem asM_62 {D : va_G} {ad : Nat → Nat} {cA : Nat → ClassId} {X : State → Prop} {p : Program} {l : Launch} {e : Env} {R : Room} {s : State} {m : MethodId} {args : Array Value} {below : List Frame} {meth : Method} {c : Code} {cc : ByteArray} {nL : Nat} {Q : State → Prop} {pc : Nat} {lv : List (Nat × Value)} {st : List Value} {σ : zS} {own : String} (C : CM D ad cA X p s m args meth c cc own nL) {i : Int32} {v : Int32} (hin : inb i 6000 = true) (hd : decode cc pc = .ok (.iastore, 1)) (k : ZM D ad cA p l e R s m args below meth c nL Q (pc + 1) lv st (sa σ 62 i.toNatClampNeg v)) : ZM D ad cA p l e R s m args below meth c nL Q pc lv (.int v :: .int i :: .ref (ad 62) :: st) σ :=
  z_iast C (t0 := 61) (q0 := 62) rfl rfl hin rfl hd k
set_option maxHeartbeats 4000000 in
set_option maxRecDepth 100000 in
theorem gM_Md_542 {D : va_G} {ad : Nat → Nat} {cA : Nat → ClassId} {X : State → Prop} {p : Program} {l : Launch} {e : Env} {R : Room} {s : State} {m : MethodId} {args : Array Value} {below : List Frame} {meth : Method} {c : Code} {cc : ByteArray} {nL : Nat} {Q : State → Prop} {pc : Nat} {lv : List (Nat × Value)} {st : List Value} {σ : zS} (C : CM D ad cA X p s m args meth c cc "KindRoundsModel" nL) {v : Int32} (hv : gi σ 91 = v) (hd : decode cc pc = .ok (.getfield 542, 3)) (k : ZM D ad cA p l e R s m args below meth c nL Q (pc + 3) lv (.int v :: st) σ) : ZM D ad cA p l e R s m args below meth c nL Q pc lv (.ref (ad 0) :: st) σ := by
  subst hv
  exact z_get C 91 mM_167 i_Md rfl oM_0 (Nat.le_of_ble_eq_true rfl) rfl rfl hd k
