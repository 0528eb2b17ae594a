/-! What the program doesn't write: the String of signs, Arrays.fill. Own text. -/
theorem kI_rk {l : Launch} {wd : zS → va_W} {D : va_G} {cl : List vw_C} {tys : List (ClassId × FieldType)} {A : Nat → Prop} {X : State → Prop} {y : MethodName} {cc : ByteArray} {nL : Nat} {ty : FieldType} {rk rk' : Nat} {av : List Value} {σ : zS} {r : Int32} {σ' : zS} (h : rk = rk') (k : kI l wd D cl tys A X y cc nL ty rk av σ r σ') : kI l wd D cl tys A X y cc nL ty rk' av σ r σ' := h ▸ k
def sgAt (ad : Nat → Nat) (q : Nat) (U : State) : Prop := vk_R "KindRounds$Tape" 60 "=|()[]{};,*" q U ∧ ∃ t : Nat, vk_S 1 [11] [sgB] (fun _ => q) (fun _ => t) (owC ad) U U.heap ∧ va_Z "java/lang/String" "COMPACT_STRINGS" "Z" (.int 1) (owC ad) U U.heap
def sXC (ad : Nat → Nat) (U : State) : Prop := ∃ q : Nat, sgAt ad q U
theorem sXC_P {ad : Nat → Nat} : xP (owC ad) (sXC ad) := by
  intro s U locs h hS hW
  obtain ⟨q, h1, t, h2, h3⟩ := h
  exact ⟨q, vk_R.warm hW h1, t, (vk_S.moved hW.alike h2).kept hS.2.1, (va_Z.moved hW.alike h3).kept hS.2.1⟩
theorem z_signs {D : va_G} {ad : Nat → Nat} {cA : Nat → ClassId} {p : Program} {l : Launch} {e : Env} {R : Room} {s : State} {m : MethodId} {args : Array Value} {below : List Frame} {meth : Method} {c : Code} {cc : ByteArray} {nL : Nat} {Q : State → Prop} {pc : Nat} {lv : List (Nat × Value)} {st : List Value} {σ : zS} (C : CC D ad cA (sXC ad) p s m args meth c cc "KindRounds$Tape" nL) (hd : decode cc pc = .ok (.ldc 60, 2)) (k : ∀ q, sgAt ad q s → ZC D ad cA p l e R s m args below meth c nL Q (pc + 2) lv (.ref q :: st) σ) : ZC D ad cA p l e R s m args below meth c nL Q pc lv st σ := by
  intro H locs ls hP hS hl
  obtain ⟨q, hq⟩ := C.2.2.2.2.2.2.2.2.2.1
  exact va_ldcS C.1 C.2.1 C.2.2.2.1 hq.1 hd (k q hq H locs ls hP hS hl)
