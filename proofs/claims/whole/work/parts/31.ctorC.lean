/-! Constructors of KindRounds. Written by program (wip/gen). -/

section YM
variable {D : va_G} {cl : List vw_C} {tys tys' : List (ClassId × FieldType)} {A : Nat → Prop} {ws ws' : va_W}
variable {p : Program} {l : Launch} {e : Env} {R : Room} {s : State} {m : MethodId} {args : Array Value} {below : List Frame} {meth : Method} {c : Code} {cc : ByteArray} {own : String} {nL : Nat} {Q : State → Prop} {cells slots pc : Nat} {lv lv' : List (Nat × Value)} {st : List Value}
theorem y_ws (h1 : ws = ws') (h2 : tys = tys') (k : Y D cl A p l e R s m args below meth c nL Q cells slots pc lv st ws' tys') : Y D cl A p l e R s m args below meth c nL Q cells slots pc lv st ws tys := by
  subst h1
  subst h2
  exact k
theorem y_lv (ks : List Nat) (h : lv_pick lv ks = lv') (k : Y D cl A p l e R s m args below meth c nL Q cells slots pc lv' st ws tys) : Y D cl A p l e R s m args below meth c nL Q cells slots pc lv st ws tys :=
  fun H locs ls hP hD hK hS hl => k H locs ls hP hD hK hS (lv_sub hl ks h)
theorem y_perm (is ts : List Nat) (h1 : is.map (fun i => ws[i]?) = ws'.map some) (h2 : is.filterMap (fun i => ws[i]?) = ws') (h3 : va_nd is = true) (h4 : ts.filterMap (fun i => tys[i]?) = tys') (k : Y D cl A p l e R s m args below meth c nL Q cells slots pc lv st ws' tys') : Y D cl A p l e R s m args below meth c nL Q cells slots pc lv st ws tys :=
  fun H locs ls hP hD hK hS hl => k H locs ls (hP.sub is h2) (hD.sub is h3 h1) (hK.sub ts h4) hS hl
theorem rmN_of {k mc ms nL rk : Nat} (h : rk + 1 ≤ k) (h2 : nL ≤ 21) : rk + 1 ≤ (rmN k mc ms).frames ∧ 8 + (nL + 11) + 40 * rk ≤ (rmN k mc ms).locals := by
  unfold rmN
  dsimp only
  constructor <;> omega
end YM
abbrev bc_Li_init : ByteArray := prog_5_method_1_code
abbrev y_Li_init : MethodName := ⟨"KindRounds$Line", "<init>", "()V"⟩
set_option maxHeartbeats 4000000 in
set_option maxRecDepth 100000 in
theorem d_Li_init_0 : decode bc_Li_init 0 = .ok (.aload_n 0, 1) := by decide +kernel
set_option maxHeartbeats 4000000 in
set_option maxRecDepth 100000 in
theorem d_Li_init_1 : decode bc_Li_init 1 = .ok (.invokespecial 1, 3) := by decide +kernel
set_option maxHeartbeats 4000000 in
set_option maxRecDepth 100000 in
theorem d_Li_init_4 : decode bc_Li_init 4 = .ok (.aload_n 0, 1) := by decide +kernel
set_option maxHeartbeats 4000000 in
set_option maxRecDepth 100000 in
theorem d_Li_init_5 : decode bc_Li_init 5 = .ok (.sipush 2400, 3) := by decide +kernel
set_option maxHeartbeats 4000000 in
set_option maxRecDepth 100000 in
theorem d_Li_init_8 : decode bc_Li_init 8 = .ok (.newarray .byte, 2) := by decide +kernel
set_option maxHeartbeats 4000000 in
set_option maxRecDepth 100000 in
theorem d_Li_init_10 : decode bc_Li_init 10 = .ok (.putfield 9, 3) := by decide +kernel
set_option maxHeartbeats 4000000 in
set_option maxRecDepth 100000 in
theorem d_Li_init_13 : decode bc_Li_init 13 = .ok (.return_, 1) := by decide +kernel
set_option maxHeartbeats 4000000 in
set_option maxRecDepth 100000 in
theorem df_Li : ∀ j, j < 2 → defaultValue (t_Li j) = vp_V [.null, .int 0] j := by
  intro j hj
  rcases (show j = 0 ∨ j = 1 by omega) with rfl | rfl <;> rfl
abbrev bc_Ro_init : ByteArray := prog_9_method_1_code
abbrev y_Ro_init : MethodName := ⟨"KindRounds$Row", "<init>", "()V"⟩
set_option maxHeartbeats 4000000 in
set_option maxRecDepth 100000 in
theorem d_Ro_init_0 : decode bc_Ro_init 0 = .ok (.aload_n 0, 1) := by decide +kernel
set_option maxHeartbeats 4000000 in
set_option maxRecDepth 100000 in
theorem d_Ro_init_1 : decode bc_Ro_init 1 = .ok (.invokespecial 3, 3) := by decide +kernel
set_option maxHeartbeats 4000000 in
set_option maxRecDepth 100000 in
theorem d_Ro_init_4 : decode bc_Ro_init 4 = .ok (.aload_n 0, 1) := by decide +kernel
set_option maxHeartbeats 4000000 in
set_option maxRecDepth 100000 in
theorem d_Ro_init_5 : decode bc_Ro_init 5 = .ok (.sipush 200, 3) := by decide +kernel
set_option maxHeartbeats 4000000 in
set_option maxRecDepth 100000 in
theorem d_Ro_init_8 : decode bc_Ro_init 8 = .ok (.newarray .int, 2) := by decide +kernel
set_option maxHeartbeats 4000000 in
set_option maxRecDepth 100000 in
theorem d_Ro_init_10 : decode bc_Ro_init 10 = .ok (.putfield 9, 3) := by decide +kernel
set_option maxHeartbeats 4000000 in
set_option maxRecDepth 100000 in
theorem d_Ro_init_13 : decode bc_Ro_init 13 = .ok (.aload_n 0, 1) := by decide +kernel
set_option maxHeartbeats 4000000 in
set_option maxRecDepth 100000 in
theorem d_Ro_init_14 : decode bc_Ro_init 14 = .ok (.sipush 200, 3) := by decide +kernel
set_option maxHeartbeats 4000000 in
set_option maxRecDepth 100000 in
theorem d_Ro_init_17 : decode bc_Ro_init 17 = .ok (.newarray .long, 2) := by decide +kernel
set_option maxHeartbeats 4000000 in
set_option maxRecDepth 100000 in
theorem d_Ro_init_19 : decode bc_Ro_init 19 = .ok (.putfield 15, 3) := by decide +kernel
set_option maxHeartbeats 4000000 in
set_option maxRecDepth 100000 in
theorem d_Ro_init_22 : decode bc_Ro_init 22 = .ok (.aload_n 0, 1) := by decide +kernel
set_option maxHeartbeats 4000000 in
set_option maxRecDepth 100000 in
theorem d_Ro_init_23 : decode bc_Ro_init 23 = .ok (.sipush 200, 3) := by decide +kernel
set_option maxHeartbeats 4000000 in
set_option maxRecDepth 100000 in
theorem d_Ro_init_26 : decode bc_Ro_init 26 = .ok (.newarray .int, 2) := by decide +kernel
set_option maxHeartbeats 4000000 in
set_option maxRecDepth 100000 in
theorem d_Ro_init_28 : decode bc_Ro_init 28 = .ok (.putfield 19, 3) := by decide +kernel
set_option maxHeartbeats 4000000 in
set_option maxRecDepth 100000 in
theorem d_Ro_init_31 : decode bc_Ro_init 31 = .ok (.aload_n 0, 1) := by decide +kernel
set_option maxHeartbeats 4000000 in
set_option maxRecDepth 100000 in
theorem d_Ro_init_32 : decode bc_Ro_init 32 = .ok (.sipush 200, 3) := by decide +kernel
set_option maxHeartbeats 4000000 in
set_option maxRecDepth 100000 in
theorem d_Ro_init_35 : decode bc_Ro_init 35 = .ok (.newarray .int, 2) := by decide +kernel
set_option maxHeartbeats 4000000 in
set_option maxRecDepth 100000 in
theorem d_Ro_init_37 : decode bc_Ro_init 37 = .ok (.putfield 22, 3) := by decide +kernel
set_option maxHeartbeats 4000000 in
set_option maxRecDepth 100000 in
theorem d_Ro_init_40 : decode bc_Ro_init 40 = .ok (.aload_n 0, 1) := by decide +kernel
set_option maxHeartbeats 4000000 in
set_option maxRecDepth 100000 in
theorem d_Ro_init_41 : decode bc_Ro_init 41 = .ok (.sipush 201, 3) := by decide +kernel
set_option maxHeartbeats 4000000 in
set_option maxRecDepth 100000 in
theorem d_Ro_init_44 : decode bc_Ro_init 44 = .ok (.newarray .int, 2) := by decide +kernel
set_option maxHeartbeats 4000000 in
set_option maxRecDepth 100000 in
theorem d_Ro_init_46 : decode bc_Ro_init 46 = .ok (.putfield 25, 3) := by decide +kernel
set_option maxHeartbeats 4000000 in
set_option maxRecDepth 100000 in
theorem d_Ro_init_49 : decode bc_Ro_init 49 = .ok (.aload_n 0, 1) := by decide +kernel
set_option maxHeartbeats 4000000 in
set_option maxRecDepth 100000 in
theorem d_Ro_init_50 : decode bc_Ro_init 50 = .ok (.sipush 201, 3) := by decide +kernel
set_option maxHeartbeats 4000000 in
set_option maxRecDepth 100000 in
theorem d_Ro_init_53 : decode bc_Ro_init 53 = .ok (.newarray .int, 2) := by decide +kernel
set_option maxHeartbeats 4000000 in
set_option maxRecDepth 100000 in
theorem d_Ro_init_55 : decode bc_Ro_init 55 = .ok (.putfield 28, 3) := by decide +kernel
set_option maxHeartbeats 4000000 in
set_option maxRecDepth 100000 in
theorem d_Ro_init_58 : decode bc_Ro_init 58 = .ok (.return_, 1) := by decide +kernel
set_option maxHeartbeats 4000000 in
set_option maxRecDepth 100000 in
theorem df_Ro : ∀ j, j < 8 → defaultValue (t_Ro j) = vp_V [.null, .null, .null, .null, .int 0, .null, .null, .int 0] j := by
  intro j hj
  rcases (show j = 0 ∨ j = 1 ∨ j = 2 ∨ j = 3 ∨ j = 4 ∨ j = 5 ∨ j = 6 ∨ j = 7 by omega) with rfl | rfl | rfl | rfl | rfl | rfl | rfl | rfl <;> rfl
abbrev bc_Ta_init : ByteArray := prog_11_method_1_code
abbrev y_Ta_init : MethodName := ⟨"KindRounds$Tape", "<init>", "()V"⟩
set_option maxHeartbeats 4000000 in
set_option maxRecDepth 100000 in
theorem d_Ta_init_0 : decode bc_Ta_init 0 = .ok (.aload_n 0, 1) := by decide +kernel
set_option maxHeartbeats 4000000 in
set_option maxRecDepth 100000 in
theorem d_Ta_init_1 : decode bc_Ta_init 1 = .ok (.invokespecial 3, 3) := by decide +kernel
set_option maxHeartbeats 4000000 in
set_option maxRecDepth 100000 in
theorem d_Ta_init_4 : decode bc_Ta_init 4 = .ok (.aload_n 0, 1) := by decide +kernel
set_option maxHeartbeats 4000000 in
set_option maxRecDepth 100000 in
theorem d_Ta_init_5 : decode bc_Ta_init 5 = .ok (.sipush 1200, 3) := by decide +kernel
set_option maxHeartbeats 4000000 in
set_option maxRecDepth 100000 in
theorem d_Ta_init_8 : decode bc_Ta_init 8 = .ok (.newarray .int, 2) := by decide +kernel
set_option maxHeartbeats 4000000 in
set_option maxRecDepth 100000 in
theorem d_Ta_init_10 : decode bc_Ta_init 10 = .ok (.putfield 11, 3) := by decide +kernel
set_option maxHeartbeats 4000000 in
set_option maxRecDepth 100000 in
theorem d_Ta_init_13 : decode bc_Ta_init 13 = .ok (.aload_n 0, 1) := by decide +kernel
set_option maxHeartbeats 4000000 in
set_option maxRecDepth 100000 in
theorem d_Ta_init_14 : decode bc_Ta_init 14 = .ok (.sipush 1201, 3) := by decide +kernel
set_option maxHeartbeats 4000000 in
set_option maxRecDepth 100000 in
theorem d_Ta_init_17 : decode bc_Ta_init 17 = .ok (.newarray .int, 2) := by decide +kernel
set_option maxHeartbeats 4000000 in
set_option maxRecDepth 100000 in
theorem d_Ta_init_19 : decode bc_Ta_init 19 = .ok (.putfield 15, 3) := by decide +kernel
set_option maxHeartbeats 4000000 in
set_option maxRecDepth 100000 in
theorem d_Ta_init_22 : decode bc_Ta_init 22 = .ok (.aload_n 0, 1) := by decide +kernel
set_option maxHeartbeats 4000000 in
set_option maxRecDepth 100000 in
theorem d_Ta_init_23 : decode bc_Ta_init 23 = .ok (.sipush 1201, 3) := by decide +kernel
set_option maxHeartbeats 4000000 in
set_option maxRecDepth 100000 in
theorem d_Ta_init_26 : decode bc_Ta_init 26 = .ok (.newarray .long, 2) := by decide +kernel
set_option maxHeartbeats 4000000 in
set_option maxRecDepth 100000 in
theorem d_Ta_init_28 : decode bc_Ta_init 28 = .ok (.putfield 18, 3) := by decide +kernel
set_option maxHeartbeats 4000000 in
set_option maxRecDepth 100000 in
theorem d_Ta_init_31 : decode bc_Ta_init 31 = .ok (.aload_n 0, 1) := by decide +kernel
set_option maxHeartbeats 4000000 in
set_option maxRecDepth 100000 in
theorem d_Ta_init_32 : decode bc_Ta_init 32 = .ok (.sipush 1201, 3) := by decide +kernel
set_option maxHeartbeats 4000000 in
set_option maxRecDepth 100000 in
theorem d_Ta_init_35 : decode bc_Ta_init 35 = .ok (.newarray .int, 2) := by decide +kernel
set_option maxHeartbeats 4000000 in
set_option maxRecDepth 100000 in
theorem d_Ta_init_37 : decode bc_Ta_init 37 = .ok (.putfield 22, 3) := by decide +kernel
set_option maxHeartbeats 4000000 in
set_option maxRecDepth 100000 in
theorem d_Ta_init_40 : decode bc_Ta_init 40 = .ok (.return_, 1) := by decide +kernel
set_option maxHeartbeats 4000000 in
set_option maxRecDepth 100000 in
theorem df_Ta : ∀ j, j < 7 → defaultValue (t_Ta j) = vp_V [.null, .int 0, .null, .null, .null, .int 0, .int 0] j := by
  intro j hj
  rcases (show j = 0 ∨ j = 1 ∨ j = 2 ∨ j = 3 ∨ j = 4 ∨ j = 5 ∨ j = 6 by omega) with rfl | rfl | rfl | rfl | rfl | rfl | rfl <;> rfl
abbrev bc_Fa_init : ByteArray := prog_3_method_1_code
abbrev y_Fa_init : MethodName := ⟨"KindRounds$Fault", "<init>", "()V"⟩
set_option maxHeartbeats 4000000 in
set_option maxRecDepth 100000 in
theorem d_Fa_init_0 : decode bc_Fa_init 0 = .ok (.aload_n 0, 1) := by decide +kernel
set_option maxHeartbeats 4000000 in
set_option maxRecDepth 100000 in
theorem d_Fa_init_1 : decode bc_Fa_init 1 = .ok (.invokespecial 1, 3) := by decide +kernel
set_option maxHeartbeats 4000000 in
set_option maxRecDepth 100000 in
theorem d_Fa_init_4 : decode bc_Fa_init 4 = .ok (.aload_n 0, 1) := by decide +kernel
set_option maxHeartbeats 4000000 in
set_option maxRecDepth 100000 in
theorem d_Fa_init_5 : decode bc_Fa_init 5 = .ok (.new 7, 3) := by decide +kernel
set_option maxHeartbeats 4000000 in
set_option maxRecDepth 100000 in
theorem d_Fa_init_8 : decode bc_Fa_init 8 = .ok (.dup, 1) := by decide +kernel
set_option maxHeartbeats 4000000 in
set_option maxRecDepth 100000 in
theorem d_Fa_init_9 : decode bc_Fa_init 9 = .ok (.invokespecial 9, 3) := by decide +kernel
set_option maxHeartbeats 4000000 in
set_option maxRecDepth 100000 in
theorem d_Fa_init_12 : decode bc_Fa_init 12 = .ok (.putfield 10, 3) := by decide +kernel
set_option maxHeartbeats 4000000 in
set_option maxRecDepth 100000 in
theorem d_Fa_init_15 : decode bc_Fa_init 15 = .ok (.aload_n 0, 1) := by decide +kernel
set_option maxHeartbeats 4000000 in
set_option maxRecDepth 100000 in
theorem d_Fa_init_16 : decode bc_Fa_init 16 = .ok (.new 7, 3) := by decide +kernel
set_option maxHeartbeats 4000000 in
set_option maxRecDepth 100000 in
theorem d_Fa_init_19 : decode bc_Fa_init 19 = .ok (.dup, 1) := by decide +kernel
set_option maxHeartbeats 4000000 in
set_option maxRecDepth 100000 in
theorem d_Fa_init_20 : decode bc_Fa_init 20 = .ok (.invokespecial 9, 3) := by decide +kernel
set_option maxHeartbeats 4000000 in
set_option maxRecDepth 100000 in
theorem d_Fa_init_23 : decode bc_Fa_init 23 = .ok (.putfield 16, 3) := by decide +kernel
set_option maxHeartbeats 4000000 in
set_option maxRecDepth 100000 in
theorem d_Fa_init_26 : decode bc_Fa_init 26 = .ok (.return_, 1) := by decide +kernel
set_option maxHeartbeats 4000000 in
set_option maxRecDepth 100000 in
theorem df_Fa : ∀ j, j < 4 → defaultValue (t_Fa j) = vp_V [.int 0, .int 0, .null, .null] j := by
  intro j hj
  rcases (show j = 0 ∨ j = 1 ∨ j = 2 ∨ j = 3 by omega) with rfl | rfl | rfl | rfl <;> rfl
abbrev bc_Ki_init : ByteArray := prog_4_method_1_code
abbrev y_Ki_init : MethodName := ⟨"KindRounds$Kinds", "<init>", "()V"⟩
set_option maxHeartbeats 4000000 in
set_option maxRecDepth 100000 in
theorem d_Ki_init_0 : decode bc_Ki_init 0 = .ok (.aload_n 0, 1) := by decide +kernel
set_option maxHeartbeats 4000000 in
set_option maxRecDepth 100000 in
theorem d_Ki_init_1 : decode bc_Ki_init 1 = .ok (.invokespecial 3, 3) := by decide +kernel
set_option maxHeartbeats 4000000 in
set_option maxRecDepth 100000 in
theorem d_Ki_init_4 : decode bc_Ki_init 4 = .ok (.aload_n 0, 1) := by decide +kernel
set_option maxHeartbeats 4000000 in
set_option maxRecDepth 100000 in
theorem d_Ki_init_5 : decode bc_Ki_init 5 = .ok (.sipush 1713, 3) := by decide +kernel
set_option maxHeartbeats 4000000 in
set_option maxRecDepth 100000 in
theorem d_Ki_init_8 : decode bc_Ki_init 8 = .ok (.newarray .int, 2) := by decide +kernel
set_option maxHeartbeats 4000000 in
set_option maxRecDepth 100000 in
theorem d_Ki_init_10 : decode bc_Ki_init 10 = .ok (.putfield 11, 3) := by decide +kernel
set_option maxHeartbeats 4000000 in
set_option maxRecDepth 100000 in
theorem d_Ki_init_13 : decode bc_Ki_init 13 = .ok (.aload_n 0, 1) := by decide +kernel
set_option maxHeartbeats 4000000 in
set_option maxRecDepth 100000 in
theorem d_Ki_init_14 : decode bc_Ki_init 14 = .ok (.sipush 1713, 3) := by decide +kernel
set_option maxHeartbeats 4000000 in
set_option maxRecDepth 100000 in
theorem d_Ki_init_17 : decode bc_Ki_init 17 = .ok (.newarray .int, 2) := by decide +kernel
set_option maxHeartbeats 4000000 in
set_option maxRecDepth 100000 in
theorem d_Ki_init_19 : decode bc_Ki_init 19 = .ok (.putfield 15, 3) := by decide +kernel
set_option maxHeartbeats 4000000 in
set_option maxRecDepth 100000 in
theorem d_Ki_init_22 : decode bc_Ki_init 22 = .ok (.aload_n 0, 1) := by decide +kernel
set_option maxHeartbeats 4000000 in
set_option maxRecDepth 100000 in
theorem d_Ki_init_23 : decode bc_Ki_init 23 = .ok (.sipush 1713, 3) := by decide +kernel
set_option maxHeartbeats 4000000 in
set_option maxRecDepth 100000 in
theorem d_Ki_init_26 : decode bc_Ki_init 26 = .ok (.newarray .int, 2) := by decide +kernel
set_option maxHeartbeats 4000000 in
set_option maxRecDepth 100000 in
theorem d_Ki_init_28 : decode bc_Ki_init 28 = .ok (.putfield 18, 3) := by decide +kernel
set_option maxHeartbeats 4000000 in
set_option maxRecDepth 100000 in
theorem d_Ki_init_31 : decode bc_Ki_init 31 = .ok (.aload_n 0, 1) := by decide +kernel
set_option maxHeartbeats 4000000 in
set_option maxRecDepth 100000 in
theorem d_Ki_init_32 : decode bc_Ki_init 32 = .ok (.sipush 1713, 3) := by decide +kernel
set_option maxHeartbeats 4000000 in
set_option maxRecDepth 100000 in
theorem d_Ki_init_35 : decode bc_Ki_init 35 = .ok (.newarray .int, 2) := by decide +kernel
set_option maxHeartbeats 4000000 in
set_option maxRecDepth 100000 in
theorem d_Ki_init_37 : decode bc_Ki_init 37 = .ok (.putfield 21, 3) := by decide +kernel
set_option maxHeartbeats 4000000 in
set_option maxRecDepth 100000 in
theorem d_Ki_init_40 : decode bc_Ki_init 40 = .ok (.aload_n 0, 1) := by decide +kernel
set_option maxHeartbeats 4000000 in
set_option maxRecDepth 100000 in
theorem d_Ki_init_41 : decode bc_Ki_init 41 = .ok (.sipush 1713, 3) := by decide +kernel
set_option maxHeartbeats 4000000 in
set_option maxRecDepth 100000 in
theorem d_Ki_init_44 : decode bc_Ki_init 44 = .ok (.newarray .int, 2) := by decide +kernel
set_option maxHeartbeats 4000000 in
set_option maxRecDepth 100000 in
theorem d_Ki_init_46 : decode bc_Ki_init 46 = .ok (.putfield 24, 3) := by decide +kernel
set_option maxHeartbeats 4000000 in
set_option maxRecDepth 100000 in
theorem d_Ki_init_49 : decode bc_Ki_init 49 = .ok (.aload_n 0, 1) := by decide +kernel
set_option maxHeartbeats 4000000 in
set_option maxRecDepth 100000 in
theorem d_Ki_init_50 : decode bc_Ki_init 50 = .ok (.sipush 3434, 3) := by decide +kernel
set_option maxHeartbeats 4000000 in
set_option maxRecDepth 100000 in
theorem d_Ki_init_53 : decode bc_Ki_init 53 = .ok (.newarray .int, 2) := by decide +kernel
set_option maxHeartbeats 4000000 in
set_option maxRecDepth 100000 in
theorem d_Ki_init_55 : decode bc_Ki_init 55 = .ok (.putfield 27, 3) := by decide +kernel
set_option maxHeartbeats 4000000 in
set_option maxRecDepth 100000 in
theorem d_Ki_init_58 : decode bc_Ki_init 58 = .ok (.aload_n 0, 1) := by decide +kernel
set_option maxHeartbeats 4000000 in
set_option maxRecDepth 100000 in
theorem d_Ki_init_59 : decode bc_Ki_init 59 = .ok (.getfield 18, 3) := by decide +kernel
set_option maxHeartbeats 4000000 in
set_option maxRecDepth 100000 in
theorem d_Ki_init_62 : decode bc_Ki_init 62 = .ok (.iconst 0, 1) := by decide +kernel
set_option maxHeartbeats 4000000 in
set_option maxRecDepth 100000 in
theorem d_Ki_init_63 : decode bc_Ki_init 63 = .ok (.iconst (-1), 1) := by decide +kernel
set_option maxHeartbeats 4000000 in
set_option maxRecDepth 100000 in
theorem d_Ki_init_64 : decode bc_Ki_init 64 = .ok (.iastore, 1) := by decide +kernel
set_option maxHeartbeats 4000000 in
set_option maxRecDepth 100000 in
theorem d_Ki_init_65 : decode bc_Ki_init 65 = .ok (.aload_n 0, 1) := by decide +kernel
set_option maxHeartbeats 4000000 in
set_option maxRecDepth 100000 in
theorem d_Ki_init_66 : decode bc_Ki_init 66 = .ok (.iconst 1, 1) := by decide +kernel
set_option maxHeartbeats 4000000 in
set_option maxRecDepth 100000 in
theorem d_Ki_init_67 : decode bc_Ki_init 67 = .ok (.putfield 30, 3) := by decide +kernel
set_option maxHeartbeats 4000000 in
set_option maxRecDepth 100000 in
theorem d_Ki_init_70 : decode bc_Ki_init 70 = .ok (.aload_n 0, 1) := by decide +kernel
set_option maxHeartbeats 4000000 in
set_option maxRecDepth 100000 in
theorem d_Ki_init_71 : decode bc_Ki_init 71 = .ok (.iconst 1, 1) := by decide +kernel
set_option maxHeartbeats 4000000 in
set_option maxRecDepth 100000 in
theorem d_Ki_init_72 : decode bc_Ki_init 72 = .ok (.putfield 34, 3) := by decide +kernel
set_option maxHeartbeats 4000000 in
set_option maxRecDepth 100000 in
theorem d_Ki_init_75 : decode bc_Ki_init 75 = .ok (.return_, 1) := by decide +kernel
set_option maxHeartbeats 4000000 in
set_option maxRecDepth 100000 in
theorem df_Ki : ∀ j, j < 11 → defaultValue (t_Ki j) = vp_V [.null, .null, .null, .null, .null, .null, .int 0, .int 0, .int 0, .int 0, .int 0] j := by
  intro j hj
  rcases (show j = 0 ∨ j = 1 ∨ j = 2 ∨ j = 3 ∨ j = 4 ∨ j = 5 ∨ j = 6 ∨ j = 7 ∨ j = 8 ∨ j = 9 ∨ j = 10 by omega) with rfl | rfl | rfl | rfl | rfl | rfl | rfl | rfl | rfl | rfl | rfl <;> rfl
abbrev bc_Te_init : ByteArray := prog_12_method_1_code
abbrev y_Te_init : MethodName := ⟨"KindRounds$Text", "<init>", "()V"⟩
set_option maxHeartbeats 4000000 in
set_option maxRecDepth 100000 in
theorem d_Te_init_0 : decode bc_Te_init 0 = .ok (.aload_n 0, 1) := by decide +kernel
set_option maxHeartbeats 4000000 in
set_option maxRecDepth 100000 in
theorem d_Te_init_1 : decode bc_Te_init 1 = .ok (.invokespecial 3, 3) := by decide +kernel
set_option maxHeartbeats 4000000 in
set_option maxRecDepth 100000 in
theorem d_Te_init_4 : decode bc_Te_init 4 = .ok (.aload_n 0, 1) := by decide +kernel
set_option maxHeartbeats 4000000 in
set_option maxRecDepth 100000 in
theorem d_Te_init_5 : decode bc_Te_init 5 = .ok (.bipush 16, 2) := by decide +kernel
set_option maxHeartbeats 4000000 in
set_option maxRecDepth 100000 in
theorem d_Te_init_7 : decode bc_Te_init 7 = .ok (.newarray .int, 2) := by decide +kernel
set_option maxHeartbeats 4000000 in
set_option maxRecDepth 100000 in
theorem d_Te_init_9 : decode bc_Te_init 9 = .ok (.putfield 9, 3) := by decide +kernel
set_option maxHeartbeats 4000000 in
set_option maxRecDepth 100000 in
theorem d_Te_init_12 : decode bc_Te_init 12 = .ok (.aload_n 0, 1) := by decide +kernel
set_option maxHeartbeats 4000000 in
set_option maxRecDepth 100000 in
theorem d_Te_init_13 : decode bc_Te_init 13 = .ok (.bipush 16, 2) := by decide +kernel
set_option maxHeartbeats 4000000 in
set_option maxRecDepth 100000 in
theorem d_Te_init_15 : decode bc_Te_init 15 = .ok (.newarray .long, 2) := by decide +kernel
set_option maxHeartbeats 4000000 in
set_option maxRecDepth 100000 in
theorem d_Te_init_17 : decode bc_Te_init 17 = .ok (.putfield 15, 3) := by decide +kernel
set_option maxHeartbeats 4000000 in
set_option maxRecDepth 100000 in
theorem d_Te_init_20 : decode bc_Te_init 20 = .ok (.aload_n 0, 1) := by decide +kernel
set_option maxHeartbeats 4000000 in
set_option maxRecDepth 100000 in
theorem d_Te_init_21 : decode bc_Te_init 21 = .ok (.bipush 16, 2) := by decide +kernel
set_option maxHeartbeats 4000000 in
set_option maxRecDepth 100000 in
theorem d_Te_init_23 : decode bc_Te_init 23 = .ok (.newarray .int, 2) := by decide +kernel
set_option maxHeartbeats 4000000 in
set_option maxRecDepth 100000 in
theorem d_Te_init_25 : decode bc_Te_init 25 = .ok (.putfield 19, 3) := by decide +kernel
set_option maxHeartbeats 4000000 in
set_option maxRecDepth 100000 in
theorem d_Te_init_28 : decode bc_Te_init 28 = .ok (.aload_n 0, 1) := by decide +kernel
set_option maxHeartbeats 4000000 in
set_option maxRecDepth 100000 in
theorem d_Te_init_29 : decode bc_Te_init 29 = .ok (.bipush 16, 2) := by decide +kernel
set_option maxHeartbeats 4000000 in
set_option maxRecDepth 100000 in
theorem d_Te_init_31 : decode bc_Te_init 31 = .ok (.newarray .int, 2) := by decide +kernel
set_option maxHeartbeats 4000000 in
set_option maxRecDepth 100000 in
theorem d_Te_init_33 : decode bc_Te_init 33 = .ok (.putfield 22, 3) := by decide +kernel
set_option maxHeartbeats 4000000 in
set_option maxRecDepth 100000 in
theorem d_Te_init_36 : decode bc_Te_init 36 = .ok (.aload_n 0, 1) := by decide +kernel
set_option maxHeartbeats 4000000 in
set_option maxRecDepth 100000 in
theorem d_Te_init_37 : decode bc_Te_init 37 = .ok (.bipush 48, 2) := by decide +kernel
set_option maxHeartbeats 4000000 in
set_option maxRecDepth 100000 in
theorem d_Te_init_39 : decode bc_Te_init 39 = .ok (.newarray .long, 2) := by decide +kernel
set_option maxHeartbeats 4000000 in
set_option maxRecDepth 100000 in
theorem d_Te_init_41 : decode bc_Te_init 41 = .ok (.putfield 25, 3) := by decide +kernel
set_option maxHeartbeats 4000000 in
set_option maxRecDepth 100000 in
theorem d_Te_init_44 : decode bc_Te_init 44 = .ok (.aload_n 0, 1) := by decide +kernel
set_option maxHeartbeats 4000000 in
set_option maxRecDepth 100000 in
theorem d_Te_init_45 : decode bc_Te_init 45 = .ok (.bipush 16, 2) := by decide +kernel
set_option maxHeartbeats 4000000 in
set_option maxRecDepth 100000 in
theorem d_Te_init_47 : decode bc_Te_init 47 = .ok (.newarray .int, 2) := by decide +kernel
set_option maxHeartbeats 4000000 in
set_option maxRecDepth 100000 in
theorem d_Te_init_49 : decode bc_Te_init 49 = .ok (.putfield 28, 3) := by decide +kernel
set_option maxHeartbeats 4000000 in
set_option maxRecDepth 100000 in
theorem d_Te_init_52 : decode bc_Te_init 52 = .ok (.aload_n 0, 1) := by decide +kernel
set_option maxHeartbeats 4000000 in
set_option maxRecDepth 100000 in
theorem d_Te_init_53 : decode bc_Te_init 53 = .ok (.bipush 16, 2) := by decide +kernel
set_option maxHeartbeats 4000000 in
set_option maxRecDepth 100000 in
theorem d_Te_init_55 : decode bc_Te_init 55 = .ok (.newarray .int, 2) := by decide +kernel
set_option maxHeartbeats 4000000 in
set_option maxRecDepth 100000 in
theorem d_Te_init_57 : decode bc_Te_init 57 = .ok (.putfield 31, 3) := by decide +kernel
set_option maxHeartbeats 4000000 in
set_option maxRecDepth 100000 in
theorem d_Te_init_60 : decode bc_Te_init 60 = .ok (.aload_n 0, 1) := by decide +kernel
set_option maxHeartbeats 4000000 in
set_option maxRecDepth 100000 in
theorem d_Te_init_61 : decode bc_Te_init 61 = .ok (.bipush 16, 2) := by decide +kernel
set_option maxHeartbeats 4000000 in
set_option maxRecDepth 100000 in
theorem d_Te_init_63 : decode bc_Te_init 63 = .ok (.newarray .int, 2) := by decide +kernel
set_option maxHeartbeats 4000000 in
set_option maxRecDepth 100000 in
theorem d_Te_init_65 : decode bc_Te_init 65 = .ok (.putfield 34, 3) := by decide +kernel
set_option maxHeartbeats 4000000 in
set_option maxRecDepth 100000 in
theorem d_Te_init_68 : decode bc_Te_init 68 = .ok (.aload_n 0, 1) := by decide +kernel
set_option maxHeartbeats 4000000 in
set_option maxRecDepth 100000 in
theorem d_Te_init_69 : decode bc_Te_init 69 = .ok (.bipush 16, 2) := by decide +kernel
set_option maxHeartbeats 4000000 in
set_option maxRecDepth 100000 in
theorem d_Te_init_71 : decode bc_Te_init 71 = .ok (.newarray .int, 2) := by decide +kernel
set_option maxHeartbeats 4000000 in
set_option maxRecDepth 100000 in
theorem d_Te_init_73 : decode bc_Te_init 73 = .ok (.putfield 37, 3) := by decide +kernel
set_option maxHeartbeats 4000000 in
set_option maxRecDepth 100000 in
theorem d_Te_init_76 : decode bc_Te_init 76 = .ok (.aload_n 0, 1) := by decide +kernel
set_option maxHeartbeats 4000000 in
set_option maxRecDepth 100000 in
theorem d_Te_init_77 : decode bc_Te_init 77 = .ok (.bipush 16, 2) := by decide +kernel
set_option maxHeartbeats 4000000 in
set_option maxRecDepth 100000 in
theorem d_Te_init_79 : decode bc_Te_init 79 = .ok (.newarray .int, 2) := by decide +kernel
set_option maxHeartbeats 4000000 in
set_option maxRecDepth 100000 in
theorem d_Te_init_81 : decode bc_Te_init 81 = .ok (.putfield 40, 3) := by decide +kernel
set_option maxHeartbeats 4000000 in
set_option maxRecDepth 100000 in
theorem d_Te_init_84 : decode bc_Te_init 84 = .ok (.aload_n 0, 1) := by decide +kernel
set_option maxHeartbeats 4000000 in
set_option maxRecDepth 100000 in
theorem d_Te_init_85 : decode bc_Te_init 85 = .ok (.bipush 16, 2) := by decide +kernel
set_option maxHeartbeats 4000000 in
set_option maxRecDepth 100000 in
theorem d_Te_init_87 : decode bc_Te_init 87 = .ok (.newarray .int, 2) := by decide +kernel
set_option maxHeartbeats 4000000 in
set_option maxRecDepth 100000 in
theorem d_Te_init_89 : decode bc_Te_init 89 = .ok (.putfield 43, 3) := by decide +kernel
set_option maxHeartbeats 4000000 in
set_option maxRecDepth 100000 in
theorem d_Te_init_92 : decode bc_Te_init 92 = .ok (.aload_n 0, 1) := by decide +kernel
set_option maxHeartbeats 4000000 in
set_option maxRecDepth 100000 in
theorem d_Te_init_93 : decode bc_Te_init 93 = .ok (.bipush 16, 2) := by decide +kernel
set_option maxHeartbeats 4000000 in
set_option maxRecDepth 100000 in
theorem d_Te_init_95 : decode bc_Te_init 95 = .ok (.newarray .int, 2) := by decide +kernel
set_option maxHeartbeats 4000000 in
set_option maxRecDepth 100000 in
theorem d_Te_init_97 : decode bc_Te_init 97 = .ok (.putfield 46, 3) := by decide +kernel
set_option maxHeartbeats 4000000 in
set_option maxRecDepth 100000 in
theorem d_Te_init_100 : decode bc_Te_init 100 = .ok (.aload_n 0, 1) := by decide +kernel
set_option maxHeartbeats 4000000 in
set_option maxRecDepth 100000 in
theorem d_Te_init_101 : decode bc_Te_init 101 = .ok (.bipush 48, 2) := by decide +kernel
set_option maxHeartbeats 4000000 in
set_option maxRecDepth 100000 in
theorem d_Te_init_103 : decode bc_Te_init 103 = .ok (.newarray .int, 2) := by decide +kernel
set_option maxHeartbeats 4000000 in
set_option maxRecDepth 100000 in
theorem d_Te_init_105 : decode bc_Te_init 105 = .ok (.putfield 49, 3) := by decide +kernel
set_option maxHeartbeats 4000000 in
set_option maxRecDepth 100000 in
theorem d_Te_init_108 : decode bc_Te_init 108 = .ok (.aload_n 0, 1) := by decide +kernel
set_option maxHeartbeats 4000000 in
set_option maxRecDepth 100000 in
theorem d_Te_init_109 : decode bc_Te_init 109 = .ok (.bipush 16, 2) := by decide +kernel
set_option maxHeartbeats 4000000 in
set_option maxRecDepth 100000 in
theorem d_Te_init_111 : decode bc_Te_init 111 = .ok (.newarray .int, 2) := by decide +kernel
set_option maxHeartbeats 4000000 in
set_option maxRecDepth 100000 in
theorem d_Te_init_113 : decode bc_Te_init 113 = .ok (.putfield 52, 3) := by decide +kernel
set_option maxHeartbeats 4000000 in
set_option maxRecDepth 100000 in
theorem d_Te_init_116 : decode bc_Te_init 116 = .ok (.aload_n 0, 1) := by decide +kernel
set_option maxHeartbeats 4000000 in
set_option maxRecDepth 100000 in
theorem d_Te_init_117 : decode bc_Te_init 117 = .ok (.new 55, 3) := by decide +kernel
set_option maxHeartbeats 4000000 in
set_option maxRecDepth 100000 in
theorem d_Te_init_120 : decode bc_Te_init 120 = .ok (.dup, 1) := by decide +kernel
set_option maxHeartbeats 4000000 in
set_option maxRecDepth 100000 in
theorem d_Te_init_121 : decode bc_Te_init 121 = .ok (.invokespecial 57, 3) := by decide +kernel
set_option maxHeartbeats 4000000 in
set_option maxRecDepth 100000 in
theorem d_Te_init_124 : decode bc_Te_init 124 = .ok (.putfield 58, 3) := by decide +kernel
set_option maxHeartbeats 4000000 in
set_option maxRecDepth 100000 in
theorem d_Te_init_127 : decode bc_Te_init 127 = .ok (.return_, 1) := by decide +kernel
set_option maxHeartbeats 4000000 in
set_option maxRecDepth 100000 in
theorem df_Te : ∀ j, j < 17 → defaultValue (t_Te j) = vp_V [.int 0, .null, .null, .null, .null, .null, .null, .null, .null, .null, .null, .null, .int 0, .null, .null, .null, .null] j := by
  intro j hj
  rcases (show j = 0 ∨ j = 1 ∨ j = 2 ∨ j = 3 ∨ j = 4 ∨ j = 5 ∨ j = 6 ∨ j = 7 ∨ j = 8 ∨ j = 9 ∨ j = 10 ∨ j = 11 ∨ j = 12 ∨ j = 13 ∨ j = 14 ∨ j = 15 ∨ j = 16 by omega) with rfl | rfl | rfl | rfl | rfl | rfl | rfl | rfl | rfl | rfl | rfl | rfl | rfl | rfl | rfl | rfl | rfl <;> rfl
abbrev bc_Me_init : ByteArray := prog_6_method_1_code
abbrev y_Me_init : MethodName := ⟨"KindRounds$Mentions", "<init>", "()V"⟩
set_option maxHeartbeats 4000000 in
set_option maxRecDepth 100000 in
theorem d_Me_init_0 : decode bc_Me_init 0 = .ok (.aload_n 0, 1) := by decide +kernel
set_option maxHeartbeats 4000000 in
set_option maxRecDepth 100000 in
theorem d_Me_init_1 : decode bc_Me_init 1 = .ok (.invokespecial 1, 3) := by decide +kernel
set_option maxHeartbeats 4000000 in
set_option maxRecDepth 100000 in
theorem d_Me_init_4 : decode bc_Me_init 4 = .ok (.aload_n 0, 1) := by decide +kernel
set_option maxHeartbeats 4000000 in
set_option maxRecDepth 100000 in
theorem d_Me_init_5 : decode bc_Me_init 5 = .ok (.sipush 600, 3) := by decide +kernel
set_option maxHeartbeats 4000000 in
set_option maxRecDepth 100000 in
theorem d_Me_init_8 : decode bc_Me_init 8 = .ok (.newarray .int, 2) := by decide +kernel
set_option maxHeartbeats 4000000 in
set_option maxRecDepth 100000 in
theorem d_Me_init_10 : decode bc_Me_init 10 = .ok (.putfield 9, 3) := by decide +kernel
set_option maxHeartbeats 4000000 in
set_option maxRecDepth 100000 in
theorem d_Me_init_13 : decode bc_Me_init 13 = .ok (.aload_n 0, 1) := by decide +kernel
set_option maxHeartbeats 4000000 in
set_option maxRecDepth 100000 in
theorem d_Me_init_14 : decode bc_Me_init 14 = .ok (.sipush 600, 3) := by decide +kernel
set_option maxHeartbeats 4000000 in
set_option maxRecDepth 100000 in
theorem d_Me_init_17 : decode bc_Me_init 17 = .ok (.newarray .long, 2) := by decide +kernel
set_option maxHeartbeats 4000000 in
set_option maxRecDepth 100000 in
theorem d_Me_init_19 : decode bc_Me_init 19 = .ok (.putfield 13, 3) := by decide +kernel
set_option maxHeartbeats 4000000 in
set_option maxRecDepth 100000 in
theorem d_Me_init_22 : decode bc_Me_init 22 = .ok (.aload_n 0, 1) := by decide +kernel
set_option maxHeartbeats 4000000 in
set_option maxRecDepth 100000 in
theorem d_Me_init_23 : decode bc_Me_init 23 = .ok (.sipush 600, 3) := by decide +kernel
set_option maxHeartbeats 4000000 in
set_option maxRecDepth 100000 in
theorem d_Me_init_26 : decode bc_Me_init 26 = .ok (.newarray .int, 2) := by decide +kernel
set_option maxHeartbeats 4000000 in
set_option maxRecDepth 100000 in
theorem d_Me_init_28 : decode bc_Me_init 28 = .ok (.putfield 17, 3) := by decide +kernel
set_option maxHeartbeats 4000000 in
set_option maxRecDepth 100000 in
theorem d_Me_init_31 : decode bc_Me_init 31 = .ok (.aload_n 0, 1) := by decide +kernel
set_option maxHeartbeats 4000000 in
set_option maxRecDepth 100000 in
theorem d_Me_init_32 : decode bc_Me_init 32 = .ok (.sipush 600, 3) := by decide +kernel
set_option maxHeartbeats 4000000 in
set_option maxRecDepth 100000 in
theorem d_Me_init_35 : decode bc_Me_init 35 = .ok (.newarray .int, 2) := by decide +kernel
set_option maxHeartbeats 4000000 in
set_option maxRecDepth 100000 in
theorem d_Me_init_37 : decode bc_Me_init 37 = .ok (.putfield 20, 3) := by decide +kernel
set_option maxHeartbeats 4000000 in
set_option maxRecDepth 100000 in
theorem d_Me_init_40 : decode bc_Me_init 40 = .ok (.aload_n 0, 1) := by decide +kernel
set_option maxHeartbeats 4000000 in
set_option maxRecDepth 100000 in
theorem d_Me_init_41 : decode bc_Me_init 41 = .ok (.sipush 600, 3) := by decide +kernel
set_option maxHeartbeats 4000000 in
set_option maxRecDepth 100000 in
theorem d_Me_init_44 : decode bc_Me_init 44 = .ok (.newarray .int, 2) := by decide +kernel
set_option maxHeartbeats 4000000 in
set_option maxRecDepth 100000 in
theorem d_Me_init_46 : decode bc_Me_init 46 = .ok (.putfield 23, 3) := by decide +kernel
set_option maxHeartbeats 4000000 in
set_option maxRecDepth 100000 in
theorem d_Me_init_49 : decode bc_Me_init 49 = .ok (.return_, 1) := by decide +kernel
set_option maxHeartbeats 4000000 in
set_option maxRecDepth 100000 in
theorem df_Me : ∀ j, j < 6 → defaultValue (t_Me j) = vp_V [.null, .null, .null, .null, .null, .int 0] j := by
  intro j hj
  rcases (show j = 0 ∨ j = 1 ∨ j = 2 ∨ j = 3 ∨ j = 4 ∨ j = 5 by omega) with rfl | rfl | rfl | rfl | rfl | rfl <;> rfl
abbrev bc_Pa_init : ByteArray := prog_7_method_1_code
abbrev y_Pa_init : MethodName := ⟨"KindRounds$Parser", "<init>", "(LKindRounds$Tape;LKindRounds$Text;LKindRounds$Mentions;LKindRounds$Kinds;LKindRounds$Fault;)V"⟩
set_option maxHeartbeats 4000000 in
set_option maxRecDepth 100000 in
theorem d_Pa_init_0 : decode bc_Pa_init 0 = .ok (.aload_n 0, 1) := by decide +kernel
set_option maxHeartbeats 4000000 in
set_option maxRecDepth 100000 in
theorem d_Pa_init_1 : decode bc_Pa_init 1 = .ok (.invokespecial 3, 3) := by decide +kernel
set_option maxHeartbeats 4000000 in
set_option maxRecDepth 100000 in
theorem d_Pa_init_4 : decode bc_Pa_init 4 = .ok (.aload_n 0, 1) := by decide +kernel
set_option maxHeartbeats 4000000 in
set_option maxRecDepth 100000 in
theorem d_Pa_init_5 : decode bc_Pa_init 5 = .ok (.aload_n 1, 1) := by decide +kernel
set_option maxHeartbeats 4000000 in
set_option maxRecDepth 100000 in
theorem d_Pa_init_6 : decode bc_Pa_init 6 = .ok (.putfield 9, 3) := by decide +kernel
set_option maxHeartbeats 4000000 in
set_option maxRecDepth 100000 in
theorem d_Pa_init_9 : decode bc_Pa_init 9 = .ok (.aload_n 0, 1) := by decide +kernel
set_option maxHeartbeats 4000000 in
set_option maxRecDepth 100000 in
theorem d_Pa_init_10 : decode bc_Pa_init 10 = .ok (.aload_n 2, 1) := by decide +kernel
set_option maxHeartbeats 4000000 in
set_option maxRecDepth 100000 in
theorem d_Pa_init_11 : decode bc_Pa_init 11 = .ok (.putfield 15, 3) := by decide +kernel
set_option maxHeartbeats 4000000 in
set_option maxRecDepth 100000 in
theorem d_Pa_init_14 : decode bc_Pa_init 14 = .ok (.aload_n 0, 1) := by decide +kernel
set_option maxHeartbeats 4000000 in
set_option maxRecDepth 100000 in
theorem d_Pa_init_15 : decode bc_Pa_init 15 = .ok (.aload_n 3, 1) := by decide +kernel
set_option maxHeartbeats 4000000 in
set_option maxRecDepth 100000 in
theorem d_Pa_init_16 : decode bc_Pa_init 16 = .ok (.putfield 19, 3) := by decide +kernel
set_option maxHeartbeats 4000000 in
set_option maxRecDepth 100000 in
theorem d_Pa_init_19 : decode bc_Pa_init 19 = .ok (.aload_n 0, 1) := by decide +kernel
set_option maxHeartbeats 4000000 in
set_option maxRecDepth 100000 in
theorem d_Pa_init_20 : decode bc_Pa_init 20 = .ok (.aload 4, 2) := by decide +kernel
set_option maxHeartbeats 4000000 in
set_option maxRecDepth 100000 in
theorem d_Pa_init_22 : decode bc_Pa_init 22 = .ok (.putfield 23, 3) := by decide +kernel
set_option maxHeartbeats 4000000 in
set_option maxRecDepth 100000 in
theorem d_Pa_init_25 : decode bc_Pa_init 25 = .ok (.aload_n 0, 1) := by decide +kernel
set_option maxHeartbeats 4000000 in
set_option maxRecDepth 100000 in
theorem d_Pa_init_26 : decode bc_Pa_init 26 = .ok (.aload 5, 2) := by decide +kernel
set_option maxHeartbeats 4000000 in
set_option maxRecDepth 100000 in
theorem d_Pa_init_28 : decode bc_Pa_init 28 = .ok (.putfield 27, 3) := by decide +kernel
set_option maxHeartbeats 4000000 in
set_option maxRecDepth 100000 in
theorem d_Pa_init_31 : decode bc_Pa_init 31 = .ok (.aload_n 0, 1) := by decide +kernel
set_option maxHeartbeats 4000000 in
set_option maxRecDepth 100000 in
theorem d_Pa_init_32 : decode bc_Pa_init 32 = .ok (.aload_n 2, 1) := by decide +kernel
set_option maxHeartbeats 4000000 in
set_option maxRecDepth 100000 in
theorem d_Pa_init_33 : decode bc_Pa_init 33 = .ok (.getfield 31, 3) := by decide +kernel
set_option maxHeartbeats 4000000 in
set_option maxRecDepth 100000 in
theorem d_Pa_init_36 : decode bc_Pa_init 36 = .ok (.putfield 37, 3) := by decide +kernel
set_option maxHeartbeats 4000000 in
set_option maxRecDepth 100000 in
theorem d_Pa_init_39 : decode bc_Pa_init 39 = .ok (.return_, 1) := by decide +kernel
set_option maxHeartbeats 4000000 in
set_option maxRecDepth 100000 in
theorem df_Pa : ∀ j, j < 7 → defaultValue (t_Pa j) = vp_V [.null, .null, .null, .null, .null, .null, .int 0] j := by
  intro j hj
  rcases (show j = 0 ∨ j = 1 ∨ j = 2 ∨ j = 3 ∨ j = 4 ∨ j = 5 ∨ j = 6 by omega) with rfl | rfl | rfl | rfl | rfl | rfl | rfl <;> rfl
abbrev bc_Ch_init : ByteArray := prog_2_method_1_code
abbrev y_Ch_init : MethodName := ⟨"KindRounds$Checker", "<init>", "(LKindRounds$Text;LKindRounds$Mentions;LKindRounds$Fault;)V"⟩
set_option maxHeartbeats 4000000 in
set_option maxRecDepth 100000 in
theorem d_Ch_init_0 : decode bc_Ch_init 0 = .ok (.aload_n 0, 1) := by decide +kernel
set_option maxHeartbeats 4000000 in
set_option maxRecDepth 100000 in
theorem d_Ch_init_1 : decode bc_Ch_init 1 = .ok (.invokespecial 3, 3) := by decide +kernel
set_option maxHeartbeats 4000000 in
set_option maxRecDepth 100000 in
theorem d_Ch_init_4 : decode bc_Ch_init 4 = .ok (.aload_n 0, 1) := by decide +kernel
set_option maxHeartbeats 4000000 in
set_option maxRecDepth 100000 in
theorem d_Ch_init_5 : decode bc_Ch_init 5 = .ok (.aload_n 1, 1) := by decide +kernel
set_option maxHeartbeats 4000000 in
set_option maxRecDepth 100000 in
theorem d_Ch_init_6 : decode bc_Ch_init 6 = .ok (.putfield 9, 3) := by decide +kernel
set_option maxHeartbeats 4000000 in
set_option maxRecDepth 100000 in
theorem d_Ch_init_9 : decode bc_Ch_init 9 = .ok (.aload_n 0, 1) := by decide +kernel
set_option maxHeartbeats 4000000 in
set_option maxRecDepth 100000 in
theorem d_Ch_init_10 : decode bc_Ch_init 10 = .ok (.aload_n 2, 1) := by decide +kernel
set_option maxHeartbeats 4000000 in
set_option maxRecDepth 100000 in
theorem d_Ch_init_11 : decode bc_Ch_init 11 = .ok (.putfield 15, 3) := by decide +kernel
set_option maxHeartbeats 4000000 in
set_option maxRecDepth 100000 in
theorem d_Ch_init_14 : decode bc_Ch_init 14 = .ok (.aload_n 0, 1) := by decide +kernel
set_option maxHeartbeats 4000000 in
set_option maxRecDepth 100000 in
theorem d_Ch_init_15 : decode bc_Ch_init 15 = .ok (.aload_n 3, 1) := by decide +kernel
set_option maxHeartbeats 4000000 in
set_option maxRecDepth 100000 in
theorem d_Ch_init_16 : decode bc_Ch_init 16 = .ok (.putfield 19, 3) := by decide +kernel
set_option maxHeartbeats 4000000 in
set_option maxRecDepth 100000 in
theorem d_Ch_init_19 : decode bc_Ch_init 19 = .ok (.aload_n 0, 1) := by decide +kernel
set_option maxHeartbeats 4000000 in
set_option maxRecDepth 100000 in
theorem d_Ch_init_20 : decode bc_Ch_init 20 = .ok (.bipush 16, 2) := by decide +kernel
set_option maxHeartbeats 4000000 in
set_option maxRecDepth 100000 in
theorem d_Ch_init_22 : decode bc_Ch_init 22 = .ok (.newarray .int, 2) := by decide +kernel
set_option maxHeartbeats 4000000 in
set_option maxRecDepth 100000 in
theorem d_Ch_init_24 : decode bc_Ch_init 24 = .ok (.putfield 23, 3) := by decide +kernel
set_option maxHeartbeats 4000000 in
set_option maxRecDepth 100000 in
theorem d_Ch_init_27 : decode bc_Ch_init 27 = .ok (.return_, 1) := by decide +kernel
set_option maxHeartbeats 4000000 in
set_option maxRecDepth 100000 in
theorem df_Ch : ∀ j, j < 4 → defaultValue (t_Ch j) = vp_V [.null, .null, .null, .null] j := by
  intro j hj
  rcases (show j = 0 ∨ j = 1 ∨ j = 2 ∨ j = 3 by omega) with rfl | rfl | rfl | rfl <;> rfl
abbrev bc_So_init : ByteArray := prog_10_method_1_code
abbrev y_So_init : MethodName := ⟨"KindRounds$Solver", "<init>", "(LKindRounds$Text;LKindRounds$Mentions;LKindRounds$Kinds;LKindRounds$Fault;)V"⟩
set_option maxHeartbeats 4000000 in
set_option maxRecDepth 100000 in
theorem d_So_init_0 : decode bc_So_init 0 = .ok (.aload_n 0, 1) := by decide +kernel
set_option maxHeartbeats 4000000 in
set_option maxRecDepth 100000 in
theorem d_So_init_1 : decode bc_So_init 1 = .ok (.invokespecial 3, 3) := by decide +kernel
set_option maxHeartbeats 4000000 in
set_option maxRecDepth 100000 in
theorem d_So_init_4 : decode bc_So_init 4 = .ok (.aload_n 0, 1) := by decide +kernel
set_option maxHeartbeats 4000000 in
set_option maxRecDepth 100000 in
theorem d_So_init_5 : decode bc_So_init 5 = .ok (.aload_n 1, 1) := by decide +kernel
set_option maxHeartbeats 4000000 in
set_option maxRecDepth 100000 in
theorem d_So_init_6 : decode bc_So_init 6 = .ok (.putfield 9, 3) := by decide +kernel
set_option maxHeartbeats 4000000 in
set_option maxRecDepth 100000 in
theorem d_So_init_9 : decode bc_So_init 9 = .ok (.aload_n 0, 1) := by decide +kernel
set_option maxHeartbeats 4000000 in
set_option maxRecDepth 100000 in
theorem d_So_init_10 : decode bc_So_init 10 = .ok (.aload_n 2, 1) := by decide +kernel
set_option maxHeartbeats 4000000 in
set_option maxRecDepth 100000 in
theorem d_So_init_11 : decode bc_So_init 11 = .ok (.putfield 15, 3) := by decide +kernel
set_option maxHeartbeats 4000000 in
set_option maxRecDepth 100000 in
theorem d_So_init_14 : decode bc_So_init 14 = .ok (.aload_n 0, 1) := by decide +kernel
set_option maxHeartbeats 4000000 in
set_option maxRecDepth 100000 in
theorem d_So_init_15 : decode bc_So_init 15 = .ok (.aload_n 3, 1) := by decide +kernel
set_option maxHeartbeats 4000000 in
set_option maxRecDepth 100000 in
theorem d_So_init_16 : decode bc_So_init 16 = .ok (.putfield 19, 3) := by decide +kernel
set_option maxHeartbeats 4000000 in
set_option maxRecDepth 100000 in
theorem d_So_init_19 : decode bc_So_init 19 = .ok (.aload_n 0, 1) := by decide +kernel
set_option maxHeartbeats 4000000 in
set_option maxRecDepth 100000 in
theorem d_So_init_20 : decode bc_So_init 20 = .ok (.aload 4, 2) := by decide +kernel
set_option maxHeartbeats 4000000 in
set_option maxRecDepth 100000 in
theorem d_So_init_22 : decode bc_So_init 22 = .ok (.putfield 23, 3) := by decide +kernel
set_option maxHeartbeats 4000000 in
set_option maxRecDepth 100000 in
theorem d_So_init_25 : decode bc_So_init 25 = .ok (.aload_n 0, 1) := by decide +kernel
set_option maxHeartbeats 4000000 in
set_option maxRecDepth 100000 in
theorem d_So_init_26 : decode bc_So_init 26 = .ok (.sipush 216, 3) := by decide +kernel
set_option maxHeartbeats 4000000 in
set_option maxRecDepth 100000 in
theorem d_So_init_29 : decode bc_So_init 29 = .ok (.newarray .int, 2) := by decide +kernel
set_option maxHeartbeats 4000000 in
set_option maxRecDepth 100000 in
theorem d_So_init_31 : decode bc_So_init 31 = .ok (.putfield 27, 3) := by decide +kernel
set_option maxHeartbeats 4000000 in
set_option maxRecDepth 100000 in
theorem d_So_init_34 : decode bc_So_init 34 = .ok (.aload_n 0, 1) := by decide +kernel
set_option maxHeartbeats 4000000 in
set_option maxRecDepth 100000 in
theorem d_So_init_35 : decode bc_So_init 35 = .ok (.sipush 216, 3) := by decide +kernel
set_option maxHeartbeats 4000000 in
set_option maxRecDepth 100000 in
theorem d_So_init_38 : decode bc_So_init 38 = .ok (.newarray .int, 2) := by decide +kernel
set_option maxHeartbeats 4000000 in
set_option maxRecDepth 100000 in
theorem d_So_init_40 : decode bc_So_init 40 = .ok (.putfield 31, 3) := by decide +kernel
set_option maxHeartbeats 4000000 in
set_option maxRecDepth 100000 in
theorem d_So_init_43 : decode bc_So_init 43 = .ok (.aload_n 0, 1) := by decide +kernel
set_option maxHeartbeats 4000000 in
set_option maxRecDepth 100000 in
theorem d_So_init_44 : decode bc_So_init 44 = .ok (.sipush 216, 3) := by decide +kernel
set_option maxHeartbeats 4000000 in
set_option maxRecDepth 100000 in
theorem d_So_init_47 : decode bc_So_init 47 = .ok (.newarray .int, 2) := by decide +kernel
set_option maxHeartbeats 4000000 in
set_option maxRecDepth 100000 in
theorem d_So_init_49 : decode bc_So_init 49 = .ok (.putfield 34, 3) := by decide +kernel
set_option maxHeartbeats 4000000 in
set_option maxRecDepth 100000 in
theorem d_So_init_52 : decode bc_So_init 52 = .ok (.aload_n 0, 1) := by decide +kernel
set_option maxHeartbeats 4000000 in
set_option maxRecDepth 100000 in
theorem d_So_init_53 : decode bc_So_init 53 = .ok (.sipush 200, 3) := by decide +kernel
set_option maxHeartbeats 4000000 in
set_option maxRecDepth 100000 in
theorem d_So_init_56 : decode bc_So_init 56 = .ok (.newarray .int, 2) := by decide +kernel
set_option maxHeartbeats 4000000 in
set_option maxRecDepth 100000 in
theorem d_So_init_58 : decode bc_So_init 58 = .ok (.putfield 37, 3) := by decide +kernel
set_option maxHeartbeats 4000000 in
set_option maxRecDepth 100000 in
theorem d_So_init_61 : decode bc_So_init 61 = .ok (.aload_n 0, 1) := by decide +kernel
set_option maxHeartbeats 4000000 in
set_option maxRecDepth 100000 in
theorem d_So_init_62 : decode bc_So_init 62 = .ok (.sipush 200, 3) := by decide +kernel
set_option maxHeartbeats 4000000 in
set_option maxRecDepth 100000 in
theorem d_So_init_65 : decode bc_So_init 65 = .ok (.newarray .int, 2) := by decide +kernel
set_option maxHeartbeats 4000000 in
set_option maxRecDepth 100000 in
theorem d_So_init_67 : decode bc_So_init 67 = .ok (.putfield 40, 3) := by decide +kernel
set_option maxHeartbeats 4000000 in
set_option maxRecDepth 100000 in
theorem d_So_init_70 : decode bc_So_init 70 = .ok (.aload_n 0, 1) := by decide +kernel
set_option maxHeartbeats 4000000 in
set_option maxRecDepth 100000 in
theorem d_So_init_71 : decode bc_So_init 71 = .ok (.sipush 200, 3) := by decide +kernel
set_option maxHeartbeats 4000000 in
set_option maxRecDepth 100000 in
theorem d_So_init_74 : decode bc_So_init 74 = .ok (.newarray .int, 2) := by decide +kernel
set_option maxHeartbeats 4000000 in
set_option maxRecDepth 100000 in
theorem d_So_init_76 : decode bc_So_init 76 = .ok (.putfield 43, 3) := by decide +kernel
set_option maxHeartbeats 4000000 in
set_option maxRecDepth 100000 in
theorem d_So_init_79 : decode bc_So_init 79 = .ok (.aload_n 0, 1) := by decide +kernel
set_option maxHeartbeats 4000000 in
set_option maxRecDepth 100000 in
theorem d_So_init_80 : decode bc_So_init 80 = .ok (.sipush 200, 3) := by decide +kernel
set_option maxHeartbeats 4000000 in
set_option maxRecDepth 100000 in
theorem d_So_init_83 : decode bc_So_init 83 = .ok (.newarray .long, 2) := by decide +kernel
set_option maxHeartbeats 4000000 in
set_option maxRecDepth 100000 in
theorem d_So_init_85 : decode bc_So_init 85 = .ok (.putfield 46, 3) := by decide +kernel
set_option maxHeartbeats 4000000 in
set_option maxRecDepth 100000 in
theorem d_So_init_88 : decode bc_So_init 88 = .ok (.aload_n 0, 1) := by decide +kernel
set_option maxHeartbeats 4000000 in
set_option maxRecDepth 100000 in
theorem d_So_init_89 : decode bc_So_init 89 = .ok (.sipush 200, 3) := by decide +kernel
set_option maxHeartbeats 4000000 in
set_option maxRecDepth 100000 in
theorem d_So_init_92 : decode bc_So_init 92 = .ok (.newarray .int, 2) := by decide +kernel
set_option maxHeartbeats 4000000 in
set_option maxRecDepth 100000 in
theorem d_So_init_94 : decode bc_So_init 94 = .ok (.putfield 50, 3) := by decide +kernel
set_option maxHeartbeats 4000000 in
set_option maxRecDepth 100000 in
theorem d_So_init_97 : decode bc_So_init 97 = .ok (.return_, 1) := by decide +kernel
set_option maxHeartbeats 4000000 in
set_option maxRecDepth 100000 in
theorem df_So : ∀ j, j < 16 → defaultValue (t_So j) = vp_V [.null, .null, .null, .null, .null, .null, .null, .int 0, .null, .null, .null, .int 0, .null, .null, .int 0, .int 0] j := by
  intro j hj
  rcases (show j = 0 ∨ j = 1 ∨ j = 2 ∨ j = 3 ∨ j = 4 ∨ j = 5 ∨ j = 6 ∨ j = 7 ∨ j = 8 ∨ j = 9 ∨ j = 10 ∨ j = 11 ∨ j = 12 ∨ j = 13 ∨ j = 14 ∨ j = 15 by omega) with rfl | rfl | rfl | rfl | rfl | rfl | rfl | rfl | rfl | rfl | rfl | rfl | rfl | rfl | rfl | rfl <;> rfl
abbrev bc_Pl_init : ByteArray := prog_8_method_1_code
abbrev y_Pl_init : MethodName := ⟨"KindRounds$Plainer", "<init>", "(LKindRounds$Text;)V"⟩
set_option maxHeartbeats 4000000 in
set_option maxRecDepth 100000 in
theorem d_Pl_init_0 : decode bc_Pl_init 0 = .ok (.aload_n 0, 1) := by decide +kernel
set_option maxHeartbeats 4000000 in
set_option maxRecDepth 100000 in
theorem d_Pl_init_1 : decode bc_Pl_init 1 = .ok (.invokespecial 3, 3) := by decide +kernel
set_option maxHeartbeats 4000000 in
set_option maxRecDepth 100000 in
theorem d_Pl_init_4 : decode bc_Pl_init 4 = .ok (.aload_n 0, 1) := by decide +kernel
set_option maxHeartbeats 4000000 in
set_option maxRecDepth 100000 in
theorem d_Pl_init_5 : decode bc_Pl_init 5 = .ok (.aload_n 1, 1) := by decide +kernel
set_option maxHeartbeats 4000000 in
set_option maxRecDepth 100000 in
theorem d_Pl_init_6 : decode bc_Pl_init 6 = .ok (.putfield 9, 3) := by decide +kernel
set_option maxHeartbeats 4000000 in
set_option maxRecDepth 100000 in
theorem d_Pl_init_9 : decode bc_Pl_init 9 = .ok (.aload_n 0, 1) := by decide +kernel
set_option maxHeartbeats 4000000 in
set_option maxRecDepth 100000 in
theorem d_Pl_init_10 : decode bc_Pl_init 10 = .ok (.new 15, 3) := by decide +kernel
set_option maxHeartbeats 4000000 in
set_option maxRecDepth 100000 in
theorem d_Pl_init_13 : decode bc_Pl_init 13 = .ok (.dup, 1) := by decide +kernel
set_option maxHeartbeats 4000000 in
set_option maxRecDepth 100000 in
theorem d_Pl_init_14 : decode bc_Pl_init 14 = .ok (.invokespecial 17, 3) := by decide +kernel
set_option maxHeartbeats 4000000 in
set_option maxRecDepth 100000 in
theorem d_Pl_init_17 : decode bc_Pl_init 17 = .ok (.putfield 18, 3) := by decide +kernel
set_option maxHeartbeats 4000000 in
set_option maxRecDepth 100000 in
theorem d_Pl_init_20 : decode bc_Pl_init 20 = .ok (.aload_n 0, 1) := by decide +kernel
set_option maxHeartbeats 4000000 in
set_option maxRecDepth 100000 in
theorem d_Pl_init_21 : decode bc_Pl_init 21 = .ok (.new 15, 3) := by decide +kernel
set_option maxHeartbeats 4000000 in
set_option maxRecDepth 100000 in
theorem d_Pl_init_24 : decode bc_Pl_init 24 = .ok (.dup, 1) := by decide +kernel
set_option maxHeartbeats 4000000 in
set_option maxRecDepth 100000 in
theorem d_Pl_init_25 : decode bc_Pl_init 25 = .ok (.invokespecial 17, 3) := by decide +kernel
set_option maxHeartbeats 4000000 in
set_option maxRecDepth 100000 in
theorem d_Pl_init_28 : decode bc_Pl_init 28 = .ok (.putfield 22, 3) := by decide +kernel
set_option maxHeartbeats 4000000 in
set_option maxRecDepth 100000 in
theorem d_Pl_init_31 : decode bc_Pl_init 31 = .ok (.aload_n 0, 1) := by decide +kernel
set_option maxHeartbeats 4000000 in
set_option maxRecDepth 100000 in
theorem d_Pl_init_32 : decode bc_Pl_init 32 = .ok (.new 15, 3) := by decide +kernel
set_option maxHeartbeats 4000000 in
set_option maxRecDepth 100000 in
theorem d_Pl_init_35 : decode bc_Pl_init 35 = .ok (.dup, 1) := by decide +kernel
set_option maxHeartbeats 4000000 in
set_option maxRecDepth 100000 in
theorem d_Pl_init_36 : decode bc_Pl_init 36 = .ok (.invokespecial 17, 3) := by decide +kernel
set_option maxHeartbeats 4000000 in
set_option maxRecDepth 100000 in
theorem d_Pl_init_39 : decode bc_Pl_init 39 = .ok (.putfield 25, 3) := by decide +kernel
set_option maxHeartbeats 4000000 in
set_option maxRecDepth 100000 in
theorem d_Pl_init_42 : decode bc_Pl_init 42 = .ok (.aload_n 0, 1) := by decide +kernel
set_option maxHeartbeats 4000000 in
set_option maxRecDepth 100000 in
theorem d_Pl_init_43 : decode bc_Pl_init 43 = .ok (.iconst 4, 1) := by decide +kernel
set_option maxHeartbeats 4000000 in
set_option maxRecDepth 100000 in
theorem d_Pl_init_44 : decode bc_Pl_init 44 = .ok (.newarray .int, 2) := by decide +kernel
set_option maxHeartbeats 4000000 in
set_option maxRecDepth 100000 in
theorem d_Pl_init_46 : decode bc_Pl_init 46 = .ok (.putfield 28, 3) := by decide +kernel
set_option maxHeartbeats 4000000 in
set_option maxRecDepth 100000 in
theorem d_Pl_init_49 : decode bc_Pl_init 49 = .ok (.aload_n 0, 1) := by decide +kernel
set_option maxHeartbeats 4000000 in
set_option maxRecDepth 100000 in
theorem d_Pl_init_50 : decode bc_Pl_init 50 = .ok (.sipush 200, 3) := by decide +kernel
set_option maxHeartbeats 4000000 in
set_option maxRecDepth 100000 in
theorem d_Pl_init_53 : decode bc_Pl_init 53 = .ok (.newarray .int, 2) := by decide +kernel
set_option maxHeartbeats 4000000 in
set_option maxRecDepth 100000 in
theorem d_Pl_init_55 : decode bc_Pl_init 55 = .ok (.putfield 32, 3) := by decide +kernel
set_option maxHeartbeats 4000000 in
set_option maxRecDepth 100000 in
theorem d_Pl_init_58 : decode bc_Pl_init 58 = .ok (.aload_n 0, 1) := by decide +kernel
set_option maxHeartbeats 4000000 in
set_option maxRecDepth 100000 in
theorem d_Pl_init_59 : decode bc_Pl_init 59 = .ok (.sipush 200, 3) := by decide +kernel
set_option maxHeartbeats 4000000 in
set_option maxRecDepth 100000 in
theorem d_Pl_init_62 : decode bc_Pl_init 62 = .ok (.newarray .int, 2) := by decide +kernel
set_option maxHeartbeats 4000000 in
set_option maxRecDepth 100000 in
theorem d_Pl_init_64 : decode bc_Pl_init 64 = .ok (.putfield 35, 3) := by decide +kernel
set_option maxHeartbeats 4000000 in
set_option maxRecDepth 100000 in
theorem d_Pl_init_67 : decode bc_Pl_init 67 = .ok (.return_, 1) := by decide +kernel
set_option maxHeartbeats 4000000 in
set_option maxRecDepth 100000 in
theorem df_Pl : ∀ j, j < 9 → defaultValue (t_Pl j) = vp_V [.null, .null, .null, .null, .null, .null, .null, .int 0, .int 0] j := by
  intro j hj
  rcases (show j = 0 ∨ j = 1 ∨ j = 2 ∨ j = 3 ∨ j = 4 ∨ j = 5 ∨ j = 6 ∨ j = 7 ∨ j = 8 by omega) with rfl | rfl | rfl | rfl | rfl | rfl | rfl | rfl | rfl <;> rfl
abbrev bc_Q_init : ByteArray := prog_1_method_1_code
abbrev y_Q_init : MethodName := ⟨"KindRounds", "<init>", "()V"⟩
set_option maxHeartbeats 4000000 in
set_option maxRecDepth 100000 in
theorem d_Q_init_0 : decode bc_Q_init 0 = .ok (.aload_n 0, 1) := by decide +kernel
set_option maxHeartbeats 4000000 in
set_option maxRecDepth 100000 in
theorem d_Q_init_1 : decode bc_Q_init 1 = .ok (.invokespecial 1, 3) := by decide +kernel
set_option maxHeartbeats 4000000 in
set_option maxRecDepth 100000 in
theorem d_Q_init_4 : decode bc_Q_init 4 = .ok (.aload_n 0, 1) := by decide +kernel
set_option maxHeartbeats 4000000 in
set_option maxRecDepth 100000 in
theorem d_Q_init_5 : decode bc_Q_init 5 = .ok (.new 7, 3) := by decide +kernel
set_option maxHeartbeats 4000000 in
set_option maxRecDepth 100000 in
theorem d_Q_init_8 : decode bc_Q_init 8 = .ok (.dup, 1) := by decide +kernel
set_option maxHeartbeats 4000000 in
set_option maxRecDepth 100000 in
theorem d_Q_init_9 : decode bc_Q_init 9 = .ok (.invokespecial 9, 3) := by decide +kernel
set_option maxHeartbeats 4000000 in
set_option maxRecDepth 100000 in
theorem d_Q_init_12 : decode bc_Q_init 12 = .ok (.putfield 10, 3) := by decide +kernel
set_option maxHeartbeats 4000000 in
set_option maxRecDepth 100000 in
theorem d_Q_init_15 : decode bc_Q_init 15 = .ok (.aload_n 0, 1) := by decide +kernel
set_option maxHeartbeats 4000000 in
set_option maxRecDepth 100000 in
theorem d_Q_init_16 : decode bc_Q_init 16 = .ok (.new 16, 3) := by decide +kernel
set_option maxHeartbeats 4000000 in
set_option maxRecDepth 100000 in
theorem d_Q_init_19 : decode bc_Q_init 19 = .ok (.dup, 1) := by decide +kernel
set_option maxHeartbeats 4000000 in
set_option maxRecDepth 100000 in
theorem d_Q_init_20 : decode bc_Q_init 20 = .ok (.invokespecial 18, 3) := by decide +kernel
set_option maxHeartbeats 4000000 in
set_option maxRecDepth 100000 in
theorem d_Q_init_23 : decode bc_Q_init 23 = .ok (.putfield 19, 3) := by decide +kernel
set_option maxHeartbeats 4000000 in
set_option maxRecDepth 100000 in
theorem d_Q_init_26 : decode bc_Q_init 26 = .ok (.aload_n 0, 1) := by decide +kernel
set_option maxHeartbeats 4000000 in
set_option maxRecDepth 100000 in
theorem d_Q_init_27 : decode bc_Q_init 27 = .ok (.new 23, 3) := by decide +kernel
set_option maxHeartbeats 4000000 in
set_option maxRecDepth 100000 in
theorem d_Q_init_30 : decode bc_Q_init 30 = .ok (.dup, 1) := by decide +kernel
set_option maxHeartbeats 4000000 in
set_option maxRecDepth 100000 in
theorem d_Q_init_31 : decode bc_Q_init 31 = .ok (.invokespecial 25, 3) := by decide +kernel
set_option maxHeartbeats 4000000 in
set_option maxRecDepth 100000 in
theorem d_Q_init_34 : decode bc_Q_init 34 = .ok (.putfield 26, 3) := by decide +kernel
set_option maxHeartbeats 4000000 in
set_option maxRecDepth 100000 in
theorem d_Q_init_37 : decode bc_Q_init 37 = .ok (.aload_n 0, 1) := by decide +kernel
set_option maxHeartbeats 4000000 in
set_option maxRecDepth 100000 in
theorem d_Q_init_38 : decode bc_Q_init 38 = .ok (.new 30, 3) := by decide +kernel
set_option maxHeartbeats 4000000 in
set_option maxRecDepth 100000 in
theorem d_Q_init_41 : decode bc_Q_init 41 = .ok (.dup, 1) := by decide +kernel
set_option maxHeartbeats 4000000 in
set_option maxRecDepth 100000 in
theorem d_Q_init_42 : decode bc_Q_init 42 = .ok (.invokespecial 32, 3) := by decide +kernel
set_option maxHeartbeats 4000000 in
set_option maxRecDepth 100000 in
theorem d_Q_init_45 : decode bc_Q_init 45 = .ok (.putfield 33, 3) := by decide +kernel
set_option maxHeartbeats 4000000 in
set_option maxRecDepth 100000 in
theorem d_Q_init_48 : decode bc_Q_init 48 = .ok (.aload_n 0, 1) := by decide +kernel
set_option maxHeartbeats 4000000 in
set_option maxRecDepth 100000 in
theorem d_Q_init_49 : decode bc_Q_init 49 = .ok (.new 37, 3) := by decide +kernel
set_option maxHeartbeats 4000000 in
set_option maxRecDepth 100000 in
theorem d_Q_init_52 : decode bc_Q_init 52 = .ok (.dup, 1) := by decide +kernel
set_option maxHeartbeats 4000000 in
set_option maxRecDepth 100000 in
theorem d_Q_init_53 : decode bc_Q_init 53 = .ok (.invokespecial 39, 3) := by decide +kernel
set_option maxHeartbeats 4000000 in
set_option maxRecDepth 100000 in
theorem d_Q_init_56 : decode bc_Q_init 56 = .ok (.putfield 40, 3) := by decide +kernel
set_option maxHeartbeats 4000000 in
set_option maxRecDepth 100000 in
theorem d_Q_init_59 : decode bc_Q_init 59 = .ok (.aload_n 0, 1) := by decide +kernel
set_option maxHeartbeats 4000000 in
set_option maxRecDepth 100000 in
theorem d_Q_init_60 : decode bc_Q_init 60 = .ok (.new 44, 3) := by decide +kernel
set_option maxHeartbeats 4000000 in
set_option maxRecDepth 100000 in
theorem d_Q_init_63 : decode bc_Q_init 63 = .ok (.dup, 1) := by decide +kernel
set_option maxHeartbeats 4000000 in
set_option maxRecDepth 100000 in
theorem d_Q_init_64 : decode bc_Q_init 64 = .ok (.invokespecial 46, 3) := by decide +kernel
set_option maxHeartbeats 4000000 in
set_option maxRecDepth 100000 in
theorem d_Q_init_67 : decode bc_Q_init 67 = .ok (.putfield 47, 3) := by decide +kernel
set_option maxHeartbeats 4000000 in
set_option maxRecDepth 100000 in
theorem d_Q_init_70 : decode bc_Q_init 70 = .ok (.aload_n 0, 1) := by decide +kernel
set_option maxHeartbeats 4000000 in
set_option maxRecDepth 100000 in
theorem d_Q_init_71 : decode bc_Q_init 71 = .ok (.new 51, 3) := by decide +kernel
set_option maxHeartbeats 4000000 in
set_option maxRecDepth 100000 in
theorem d_Q_init_74 : decode bc_Q_init 74 = .ok (.dup, 1) := by decide +kernel
set_option maxHeartbeats 4000000 in
set_option maxRecDepth 100000 in
theorem d_Q_init_75 : decode bc_Q_init 75 = .ok (.aload_n 0, 1) := by decide +kernel
set_option maxHeartbeats 4000000 in
set_option maxRecDepth 100000 in
theorem d_Q_init_76 : decode bc_Q_init 76 = .ok (.getfield 10, 3) := by decide +kernel
set_option maxHeartbeats 4000000 in
set_option maxRecDepth 100000 in
theorem d_Q_init_79 : decode bc_Q_init 79 = .ok (.aload_n 0, 1) := by decide +kernel
set_option maxHeartbeats 4000000 in
set_option maxRecDepth 100000 in
theorem d_Q_init_80 : decode bc_Q_init 80 = .ok (.getfield 33, 3) := by decide +kernel
set_option maxHeartbeats 4000000 in
set_option maxRecDepth 100000 in
theorem d_Q_init_83 : decode bc_Q_init 83 = .ok (.aload_n 0, 1) := by decide +kernel
set_option maxHeartbeats 4000000 in
set_option maxRecDepth 100000 in
theorem d_Q_init_84 : decode bc_Q_init 84 = .ok (.getfield 40, 3) := by decide +kernel
set_option maxHeartbeats 4000000 in
set_option maxRecDepth 100000 in
theorem d_Q_init_87 : decode bc_Q_init 87 = .ok (.aload_n 0, 1) := by decide +kernel
set_option maxHeartbeats 4000000 in
set_option maxRecDepth 100000 in
theorem d_Q_init_88 : decode bc_Q_init 88 = .ok (.getfield 26, 3) := by decide +kernel
set_option maxHeartbeats 4000000 in
set_option maxRecDepth 100000 in
theorem d_Q_init_91 : decode bc_Q_init 91 = .ok (.aload_n 0, 1) := by decide +kernel
set_option maxHeartbeats 4000000 in
set_option maxRecDepth 100000 in
theorem d_Q_init_92 : decode bc_Q_init 92 = .ok (.getfield 19, 3) := by decide +kernel
set_option maxHeartbeats 4000000 in
set_option maxRecDepth 100000 in
theorem d_Q_init_95 : decode bc_Q_init 95 = .ok (.invokespecial 53, 3) := by decide +kernel
set_option maxHeartbeats 4000000 in
set_option maxRecDepth 100000 in
theorem d_Q_init_98 : decode bc_Q_init 98 = .ok (.putfield 56, 3) := by decide +kernel
set_option maxHeartbeats 4000000 in
set_option maxRecDepth 100000 in
theorem d_Q_init_101 : decode bc_Q_init 101 = .ok (.aload_n 0, 1) := by decide +kernel
set_option maxHeartbeats 4000000 in
set_option maxRecDepth 100000 in
theorem d_Q_init_102 : decode bc_Q_init 102 = .ok (.new 60, 3) := by decide +kernel
set_option maxHeartbeats 4000000 in
set_option maxRecDepth 100000 in
theorem d_Q_init_105 : decode bc_Q_init 105 = .ok (.dup, 1) := by decide +kernel
set_option maxHeartbeats 4000000 in
set_option maxRecDepth 100000 in
theorem d_Q_init_106 : decode bc_Q_init 106 = .ok (.aload_n 0, 1) := by decide +kernel
set_option maxHeartbeats 4000000 in
set_option maxRecDepth 100000 in
theorem d_Q_init_107 : decode bc_Q_init 107 = .ok (.getfield 33, 3) := by decide +kernel
set_option maxHeartbeats 4000000 in
set_option maxRecDepth 100000 in
theorem d_Q_init_110 : decode bc_Q_init 110 = .ok (.aload_n 0, 1) := by decide +kernel
set_option maxHeartbeats 4000000 in
set_option maxRecDepth 100000 in
theorem d_Q_init_111 : decode bc_Q_init 111 = .ok (.getfield 40, 3) := by decide +kernel
set_option maxHeartbeats 4000000 in
set_option maxRecDepth 100000 in
theorem d_Q_init_114 : decode bc_Q_init 114 = .ok (.aload_n 0, 1) := by decide +kernel
set_option maxHeartbeats 4000000 in
set_option maxRecDepth 100000 in
theorem d_Q_init_115 : decode bc_Q_init 115 = .ok (.getfield 19, 3) := by decide +kernel
set_option maxHeartbeats 4000000 in
set_option maxRecDepth 100000 in
theorem d_Q_init_118 : decode bc_Q_init 118 = .ok (.invokespecial 62, 3) := by decide +kernel
set_option maxHeartbeats 4000000 in
set_option maxRecDepth 100000 in
theorem d_Q_init_121 : decode bc_Q_init 121 = .ok (.putfield 65, 3) := by decide +kernel
set_option maxHeartbeats 4000000 in
set_option maxRecDepth 100000 in
theorem d_Q_init_124 : decode bc_Q_init 124 = .ok (.aload_n 0, 1) := by decide +kernel
set_option maxHeartbeats 4000000 in
set_option maxRecDepth 100000 in
theorem d_Q_init_125 : decode bc_Q_init 125 = .ok (.new 69, 3) := by decide +kernel
set_option maxHeartbeats 4000000 in
set_option maxRecDepth 100000 in
theorem d_Q_init_128 : decode bc_Q_init 128 = .ok (.dup, 1) := by decide +kernel
set_option maxHeartbeats 4000000 in
set_option maxRecDepth 100000 in
theorem d_Q_init_129 : decode bc_Q_init 129 = .ok (.aload_n 0, 1) := by decide +kernel
set_option maxHeartbeats 4000000 in
set_option maxRecDepth 100000 in
theorem d_Q_init_130 : decode bc_Q_init 130 = .ok (.getfield 33, 3) := by decide +kernel
set_option maxHeartbeats 4000000 in
set_option maxRecDepth 100000 in
theorem d_Q_init_133 : decode bc_Q_init 133 = .ok (.aload_n 0, 1) := by decide +kernel
set_option maxHeartbeats 4000000 in
set_option maxRecDepth 100000 in
theorem d_Q_init_134 : decode bc_Q_init 134 = .ok (.getfield 40, 3) := by decide +kernel
set_option maxHeartbeats 4000000 in
set_option maxRecDepth 100000 in
theorem d_Q_init_137 : decode bc_Q_init 137 = .ok (.aload_n 0, 1) := by decide +kernel
set_option maxHeartbeats 4000000 in
set_option maxRecDepth 100000 in
theorem d_Q_init_138 : decode bc_Q_init 138 = .ok (.getfield 26, 3) := by decide +kernel
set_option maxHeartbeats 4000000 in
set_option maxRecDepth 100000 in
theorem d_Q_init_141 : decode bc_Q_init 141 = .ok (.aload_n 0, 1) := by decide +kernel
set_option maxHeartbeats 4000000 in
set_option maxRecDepth 100000 in
theorem d_Q_init_142 : decode bc_Q_init 142 = .ok (.getfield 19, 3) := by decide +kernel
set_option maxHeartbeats 4000000 in
set_option maxRecDepth 100000 in
theorem d_Q_init_145 : decode bc_Q_init 145 = .ok (.invokespecial 71, 3) := by decide +kernel
set_option maxHeartbeats 4000000 in
set_option maxRecDepth 100000 in
theorem d_Q_init_148 : decode bc_Q_init 148 = .ok (.putfield 74, 3) := by decide +kernel
set_option maxHeartbeats 4000000 in
set_option maxRecDepth 100000 in
theorem d_Q_init_151 : decode bc_Q_init 151 = .ok (.aload_n 0, 1) := by decide +kernel
set_option maxHeartbeats 4000000 in
set_option maxRecDepth 100000 in
theorem d_Q_init_152 : decode bc_Q_init 152 = .ok (.new 78, 3) := by decide +kernel
set_option maxHeartbeats 4000000 in
set_option maxRecDepth 100000 in
theorem d_Q_init_155 : decode bc_Q_init 155 = .ok (.dup, 1) := by decide +kernel
set_option maxHeartbeats 4000000 in
set_option maxRecDepth 100000 in
theorem d_Q_init_156 : decode bc_Q_init 156 = .ok (.aload_n 0, 1) := by decide +kernel
set_option maxHeartbeats 4000000 in
set_option maxRecDepth 100000 in
theorem d_Q_init_157 : decode bc_Q_init 157 = .ok (.getfield 33, 3) := by decide +kernel
set_option maxHeartbeats 4000000 in
set_option maxRecDepth 100000 in
theorem d_Q_init_160 : decode bc_Q_init 160 = .ok (.invokespecial 80, 3) := by decide +kernel
set_option maxHeartbeats 4000000 in
set_option maxRecDepth 100000 in
theorem d_Q_init_163 : decode bc_Q_init 163 = .ok (.putfield 83, 3) := by decide +kernel
set_option maxHeartbeats 4000000 in
set_option maxRecDepth 100000 in
theorem d_Q_init_166 : decode bc_Q_init 166 = .ok (.aload_n 0, 1) := by decide +kernel
set_option maxHeartbeats 4000000 in
set_option maxRecDepth 100000 in
theorem d_Q_init_167 : decode bc_Q_init 167 = .ok (.new 87, 3) := by decide +kernel
set_option maxHeartbeats 4000000 in
set_option maxRecDepth 100000 in
theorem d_Q_init_170 : decode bc_Q_init 170 = .ok (.dup, 1) := by decide +kernel
set_option maxHeartbeats 4000000 in
set_option maxRecDepth 100000 in
theorem d_Q_init_171 : decode bc_Q_init 171 = .ok (.invokespecial 89, 3) := by decide +kernel
set_option maxHeartbeats 4000000 in
set_option maxRecDepth 100000 in
theorem d_Q_init_174 : decode bc_Q_init 174 = .ok (.putfield 90, 3) := by decide +kernel
set_option maxHeartbeats 4000000 in
set_option maxRecDepth 100000 in
theorem d_Q_init_177 : decode bc_Q_init 177 = .ok (.aload_n 0, 1) := by decide +kernel
set_option maxHeartbeats 4000000 in
set_option maxRecDepth 100000 in
theorem d_Q_init_178 : decode bc_Q_init 178 = .ok (.new 87, 3) := by decide +kernel
set_option maxHeartbeats 4000000 in
set_option maxRecDepth 100000 in
theorem d_Q_init_181 : decode bc_Q_init 181 = .ok (.dup, 1) := by decide +kernel
set_option maxHeartbeats 4000000 in
set_option maxRecDepth 100000 in
theorem d_Q_init_182 : decode bc_Q_init 182 = .ok (.invokespecial 89, 3) := by decide +kernel
set_option maxHeartbeats 4000000 in
set_option maxRecDepth 100000 in
theorem d_Q_init_185 : decode bc_Q_init 185 = .ok (.putfield 94, 3) := by decide +kernel
set_option maxHeartbeats 4000000 in
set_option maxRecDepth 100000 in
theorem d_Q_init_188 : decode bc_Q_init 188 = .ok (.return_, 1) := by decide +kernel
set_option maxHeartbeats 4000000 in
set_option maxRecDepth 100000 in
theorem df_Q : ∀ j, j < 12 → defaultValue (t_Q j) = vp_V [.null, .null, .null, .null, .null, .null, .null, .null, .null, .null, .null, .null] j := by
  intro j hj
  rcases (show j = 0 ∨ j = 1 ∨ j = 2 ∨ j = 3 ∨ j = 4 ∨ j = 5 ∨ j = 6 ∨ j = 7 ∨ j = 8 ∨ j = 9 ∨ j = 10 ∨ j = 11 by omega) with rfl | rfl | rfl | rfl | rfl | rfl | rfl | rfl | rfl | rfl | rfl | rfl <;> rfl
set_option maxHeartbeats 4000000 in
set_option maxRecDepth 100000 in
theorem mCI_0 : (Cond.methodLink "KindRounds$Line" (1 : Nat) ({ cls := "java/lang/Object", name := "<init>", desc := "()V" } : Jvm.MethodName)) ∈ lw_good := good_in (List.mem_append_right _ (List.mem_append_left _ (List.mem_of_getElem? (i := 72) (l := tables_1_1) rfl))) rfl
set_option maxHeartbeats 4000000 in
set_option maxRecDepth 100000 in
theorem mCI_1 : (Cond.instanceMethod ({ cls := "java/lang/Object", name := "<init>", desc := "()V" } : Jvm.MethodName)) ∈ lw_good := good_in (List.mem_append_right _ (List.mem_append_left _ (List.mem_of_getElem? (i := 28) (l := tables_1_1) rfl))) rfl
set_option maxHeartbeats 4000000 in
set_option maxRecDepth 100000 in
theorem mCI_2 : (Cond.code ({ cls := "java/lang/Object", name := "<init>", desc := "()V" } : Jvm.MethodName) object_method_1_code (1 : Nat) (Option.none : Option Jvm.ClassFile.FieldType)) ∈ lw_good := good_in (List.mem_append_right _ (List.mem_append_left _ (List.mem_of_getElem? (i := 29) (l := tables_1_1) rfl))) rfl
set_option maxHeartbeats 4000000 in
set_option maxRecDepth 100000 in
theorem mCI_3 : (Cond.arrayClass Jvm.ClassFile.FieldType.byte) ∈ lw_good := good_in (List.mem_append_right _ (List.mem_append_left _ (List.mem_of_getElem? (i := 83) (l := tables_1_1) rfl))) rfl
set_option maxHeartbeats 4000000 in
set_option maxRecDepth 100000 in
theorem mCI_4 : (Cond.fieldLink "KindRounds$Line" (9 : Nat) "KindRounds$Line" "bytes" "[B") ∈ lw_good := good_in (List.mem_append_right _ (List.mem_append_left _ (List.mem_of_getElem? (i := 73) (l := tables_1_1) rfl))) rfl
set_option maxHeartbeats 4000000 in
set_option maxRecDepth 100000 in
theorem mCI_5 : (Cond.code ({ cls := "KindRounds$Line", name := "<init>", desc := "()V" } : Jvm.MethodName) prog_5_method_1_code (1 : Nat) (Option.none : Option Jvm.ClassFile.FieldType)) ∈ lw_good := good_in (List.mem_append_right _ (List.mem_append_left _ (List.mem_of_getElem? (i := 71) (l := tables_1_1) rfl))) rfl
set_option maxHeartbeats 4000000 in
set_option maxRecDepth 100000 in
theorem mCI_6 : (Cond.initialized "KindRounds$Line") ∈ lw_good := good_in (List.mem_append_right _ (List.mem_append_left _ (List.mem_of_getElem? (i := 4) (l := tables_1_1) rfl))) rfl
set_option maxHeartbeats 4000000 in
set_option maxRecDepth 100000 in
theorem mCI_7 : (Cond.methodLink "KindRounds$Row" (3 : Nat) ({ cls := "java/lang/Object", name := "<init>", desc := "()V" } : Jvm.MethodName)) ∈ lw_good := good_in (List.mem_append_right _ (List.mem_append_left _ (List.mem_of_getElem? (i := 155) (l := tables_1_1) rfl))) rfl
set_option maxHeartbeats 4000000 in
set_option maxRecDepth 100000 in
theorem mCI_8 : (Cond.arrayClass Jvm.ClassFile.FieldType.int) ∈ lw_good := good_in (List.mem_append_right _ (List.mem_append_left _ (List.mem_of_getElem? (i := 59) (l := tables_1_1) rfl))) rfl
set_option maxHeartbeats 4000000 in
set_option maxRecDepth 100000 in
theorem mCI_9 : (Cond.fieldLink "KindRounds$Row" (9 : Nat) "KindRounds$Row" "sorts" "[I") ∈ lw_good := good_in (List.mem_append_right _ (List.mem_append_left _ (List.mem_of_getElem? (i := 156) (l := tables_1_1) rfl))) rfl
set_option maxHeartbeats 4000000 in
set_option maxRecDepth 100000 in
theorem mCI_10 : (Cond.arrayClass Jvm.ClassFile.FieldType.long) ∈ lw_good := good_in (List.mem_append_right _ (List.mem_append_left _ (List.mem_of_getElem? (i := 60) (l := tables_1_1) rfl))) rfl
set_option maxHeartbeats 4000000 in
set_option maxRecDepth 100000 in
theorem mCI_11 : (Cond.fieldLink "KindRounds$Row" (15 : Nat) "KindRounds$Row" "names" "[J") ∈ lw_good := good_in (List.mem_append_right _ (List.mem_append_left _ (List.mem_of_getElem? (i := 159) (l := tables_1_1) rfl))) rfl
set_option maxHeartbeats 4000000 in
set_option maxRecDepth 100000 in
theorem mCI_12 : (Cond.fieldLink "KindRounds$Row" (19 : Nat) "KindRounds$Row" "counts" "[I") ∈ lw_good := good_in (List.mem_append_right _ (List.mem_append_left _ (List.mem_of_getElem? (i := 162) (l := tables_1_1) rfl))) rfl
set_option maxHeartbeats 4000000 in
set_option maxRecDepth 100000 in
theorem mCI_13 : (Cond.fieldLink "KindRounds$Row" (22 : Nat) "KindRounds$Row" "spots" "[I") ∈ lw_good := good_in (List.mem_append_right _ (List.mem_append_left _ (List.mem_of_getElem? (i := 166) (l := tables_1_1) rfl))) rfl
set_option maxHeartbeats 4000000 in
set_option maxRecDepth 100000 in
theorem mCI_14 : (Cond.fieldLink "KindRounds$Row" (25 : Nat) "KindRounds$Row" "termStarts" "[I") ∈ lw_good := good_in (List.mem_append_right _ (List.mem_append_left _ (List.mem_of_getElem? (i := 172) (l := tables_1_1) rfl))) rfl
set_option maxHeartbeats 4000000 in
set_option maxRecDepth 100000 in
theorem mCI_15 : (Cond.fieldLink "KindRounds$Row" (28 : Nat) "KindRounds$Row" "termOwners" "[I") ∈ lw_good := good_in (List.mem_append_right _ (List.mem_append_left _ (List.mem_of_getElem? (i := 175) (l := tables_1_1) rfl))) rfl
set_option maxHeartbeats 4000000 in
set_option maxRecDepth 100000 in
theorem mCI_16 : (Cond.code ({ cls := "KindRounds$Row", name := "<init>", desc := "()V" } : Jvm.MethodName) prog_9_method_1_code (1 : Nat) (Option.none : Option Jvm.ClassFile.FieldType)) ∈ lw_good := good_in (List.mem_append_right _ (List.mem_append_left _ (List.mem_of_getElem? (i := 154) (l := tables_1_1) rfl))) rfl
set_option maxHeartbeats 4000000 in
set_option maxRecDepth 100000 in
theorem mCI_17 : (Cond.initialized "KindRounds$Row") ∈ lw_good := good_in (List.mem_append_right _ (List.mem_append_left _ (List.mem_of_getElem? (i := 7) (l := tables_1_1) rfl))) rfl
set_option maxHeartbeats 4000000 in
set_option maxRecDepth 100000 in
theorem mCI_18 : (Cond.methodLink "KindRounds$Tape" (3 : Nat) ({ cls := "java/lang/Object", name := "<init>", desc := "()V" } : Jvm.MethodName)) ∈ lw_good := good_in (List.mem_append_right _ (List.mem_append_left _ (List.mem_of_getElem? (i := 35) (l := tables_1_1) rfl))) rfl
set_option maxHeartbeats 4000000 in
set_option maxRecDepth 100000 in
theorem mCI_19 : (Cond.fieldLink "KindRounds$Tape" (11 : Nat) "KindRounds$Tape" "bytes" "[I") ∈ lw_good := good_in (List.mem_append_right _ (List.mem_append_left _ (List.mem_of_getElem? (i := 36) (l := tables_1_1) rfl))) rfl
set_option maxHeartbeats 4000000 in
set_option maxRecDepth 100000 in
theorem mCI_20 : (Cond.fieldLink "KindRounds$Tape" (15 : Nat) "KindRounds$Tape" "sorts" "[I") ∈ lw_good := good_in (List.mem_append_right _ (List.mem_append_left _ (List.mem_of_getElem? (i := 39) (l := tables_1_1) rfl))) rfl
set_option maxHeartbeats 4000000 in
set_option maxRecDepth 100000 in
theorem mCI_21 : (Cond.fieldLink "KindRounds$Tape" (18 : Nat) "KindRounds$Tape" "names" "[J") ∈ lw_good := good_in (List.mem_append_right _ (List.mem_append_left _ (List.mem_of_getElem? (i := 40) (l := tables_1_1) rfl))) rfl
set_option maxHeartbeats 4000000 in
set_option maxRecDepth 100000 in
theorem mCI_22 : (Cond.fieldLink "KindRounds$Tape" (22 : Nat) "KindRounds$Tape" "starts" "[I") ∈ lw_good := good_in (List.mem_append_right _ (List.mem_append_left _ (List.mem_of_getElem? (i := 41) (l := tables_1_1) rfl))) rfl
set_option maxHeartbeats 4000000 in
set_option maxRecDepth 100000 in
theorem mCI_23 : (Cond.code ({ cls := "KindRounds$Tape", name := "<init>", desc := "()V" } : Jvm.MethodName) prog_11_method_1_code (1 : Nat) (Option.none : Option Jvm.ClassFile.FieldType)) ∈ lw_good := good_in (List.mem_append_right _ (List.mem_append_left _ (List.mem_of_getElem? (i := 34) (l := tables_1_1) rfl))) rfl
set_option maxHeartbeats 4000000 in
set_option maxRecDepth 100000 in
theorem mCI_24 : (Cond.initialized "KindRounds$Tape") ∈ lw_good := good_in (List.mem_append_right _ (List.mem_append_left _ (List.mem_of_getElem? (i := 2) (l := tables_1_1) rfl))) rfl
set_option maxHeartbeats 4000000 in
set_option maxRecDepth 100000 in
theorem mCI_25 : (Cond.methodLink "KindRounds$Fault" (1 : Nat) ({ cls := "java/lang/Object", name := "<init>", desc := "()V" } : Jvm.MethodName)) ∈ lw_good := good_in (List.mem_append_right _ (List.mem_append_left _ (List.mem_of_getElem? (i := 66) (l := tables_1_1) rfl))) rfl
set_option maxHeartbeats 4000000 in
set_option maxRecDepth 100000 in
theorem mCI_26 : (Cond.classLink "KindRounds$Fault" (7 : Nat) "KindRounds$Line") ∈ lw_good := good_in (List.mem_append_right _ (List.mem_append_left _ (List.mem_of_getElem? (i := 67) (l := tables_1_1) rfl))) rfl
set_option maxHeartbeats 4000000 in
set_option maxRecDepth 100000 in
theorem mCI_27 : (Cond.instantiable "KindRounds$Line" (2 : Nat)) ∈ lw_good := good_in (List.mem_append_right _ (List.mem_append_left _ (List.mem_of_getElem? (i := 68) (l := tables_1_1) rfl))) rfl
set_option maxHeartbeats 4000000 in
set_option maxRecDepth 100000 in
theorem mCI_28 : (Cond.methodLinkNest "KindRounds$Fault" (9 : Nat) ({ cls := "KindRounds$Line", name := "<init>", desc := "()V" } : Jvm.MethodName) "KindRounds") ∈ lw_nest := nest_in (List.mem_append_right _ (List.mem_append_left _ (List.mem_of_getElem? (i := 69) (l := tables_1_1) rfl))) rfl
set_option maxHeartbeats 4000000 in
set_option maxRecDepth 100000 in
theorem mCI_29 : (Cond.instanceMethod ({ cls := "KindRounds$Line", name := "<init>", desc := "()V" } : Jvm.MethodName)) ∈ lw_good := good_in (List.mem_append_right _ (List.mem_append_left _ (List.mem_of_getElem? (i := 70) (l := tables_1_1) rfl))) rfl
set_option maxHeartbeats 4000000 in
set_option maxRecDepth 100000 in
theorem mCI_30 : (Cond.fieldLink "KindRounds$Fault" (10 : Nat) "KindRounds$Fault" "left" "LKindRounds$Line;") ∈ lw_good := good_in (List.mem_append_right _ (List.mem_append_left _ (List.mem_of_getElem? (i := 88) (l := tables_1_1) rfl))) rfl
set_option maxHeartbeats 4000000 in
set_option maxRecDepth 100000 in
theorem mCI_31 : (Cond.fieldLink "KindRounds$Fault" (16 : Nat) "KindRounds$Fault" "right" "LKindRounds$Line;") ∈ lw_good := good_in (List.mem_append_right _ (List.mem_append_left _ (List.mem_of_getElem? (i := 91) (l := tables_1_1) rfl))) rfl
set_option maxHeartbeats 4000000 in
set_option maxRecDepth 100000 in
theorem mCI_32 : (Cond.code ({ cls := "KindRounds$Fault", name := "<init>", desc := "()V" } : Jvm.MethodName) prog_3_method_1_code (1 : Nat) (Option.none : Option Jvm.ClassFile.FieldType)) ∈ lw_good := good_in (List.mem_append_right _ (List.mem_append_left _ (List.mem_of_getElem? (i := 65) (l := tables_1_1) rfl))) rfl
set_option maxHeartbeats 4000000 in
set_option maxRecDepth 100000 in
theorem mCI_33 : (Cond.initialized "KindRounds$Fault") ∈ lw_good := good_in (List.mem_append_right _ (List.mem_append_left _ (List.mem_of_getElem? (i := 3) (l := tables_1_1) rfl))) rfl
set_option maxHeartbeats 4000000 in
set_option maxRecDepth 100000 in
theorem mCI_34 : (Cond.methodLink "KindRounds$Kinds" (3 : Nat) ({ cls := "java/lang/Object", name := "<init>", desc := "()V" } : Jvm.MethodName)) ∈ lw_good := good_in (List.mem_append_right _ (List.mem_append_left _ (List.mem_of_getElem? (i := 108) (l := tables_1_1) rfl))) rfl
set_option maxHeartbeats 4000000 in
set_option maxRecDepth 100000 in
theorem mCI_35 : (Cond.fieldLink "KindRounds$Kinds" (11 : Nat) "KindRounds$Kinds" "left" "[I") ∈ lw_good := good_in (List.mem_append_right _ (List.mem_append_left _ (List.mem_of_getElem? (i := 109) (l := tables_1_1) rfl))) rfl
set_option maxHeartbeats 4000000 in
set_option maxRecDepth 100000 in
theorem mCI_36 : (Cond.fieldLink "KindRounds$Kinds" (15 : Nat) "KindRounds$Kinds" "right" "[I") ∈ lw_good := good_in (List.mem_append_right _ (List.mem_append_left _ (List.mem_of_getElem? (i := 110) (l := tables_1_1) rfl))) rfl
set_option maxHeartbeats 4000000 in
set_option maxRecDepth 100000 in
theorem mCI_37 : (Cond.fieldLink "KindRounds$Kinds" (18 : Nat) "KindRounds$Kinds" "link" "[I") ∈ lw_good := good_in (List.mem_append_right _ (List.mem_append_left _ (List.mem_of_getElem? (i := 112) (l := tables_1_1) rfl))) rfl
set_option maxHeartbeats 4000000 in
set_option maxRecDepth 100000 in
theorem mCI_38 : (Cond.fieldLink "KindRounds$Kinds" (21 : Nat) "KindRounds$Kinds" "mark" "[I") ∈ lw_good := good_in (List.mem_append_right _ (List.mem_append_left _ (List.mem_of_getElem? (i := 113) (l := tables_1_1) rfl))) rfl
set_option maxHeartbeats 4000000 in
set_option maxRecDepth 100000 in
theorem mCI_39 : (Cond.fieldLink "KindRounds$Kinds" (24 : Nat) "KindRounds$Kinds" "trail" "[I") ∈ lw_good := good_in (List.mem_append_right _ (List.mem_append_left _ (List.mem_of_getElem? (i := 114) (l := tables_1_1) rfl))) rfl
set_option maxHeartbeats 4000000 in
set_option maxRecDepth 100000 in
theorem mCI_40 : (Cond.fieldLink "KindRounds$Kinds" (27 : Nat) "KindRounds$Kinds" "stack" "[I") ∈ lw_good := good_in (List.mem_append_right _ (List.mem_append_left _ (List.mem_of_getElem? (i := 115) (l := tables_1_1) rfl))) rfl
set_option maxHeartbeats 4000000 in
set_option maxRecDepth 100000 in
theorem mCI_41 : (Cond.fieldLink "KindRounds$Kinds" (30 : Nat) "KindRounds$Kinds" "size" "I") ∈ lw_good := good_in (List.mem_append_right _ (List.mem_append_left _ (List.mem_of_getElem? (i := 116) (l := tables_1_1) rfl))) rfl
set_option maxHeartbeats 4000000 in
set_option maxRecDepth 100000 in
theorem mCI_42 : (Cond.fieldLink "KindRounds$Kinds" (34 : Nat) "KindRounds$Kinds" "textSize" "I") ∈ lw_good := good_in (List.mem_append_right _ (List.mem_append_left _ (List.mem_of_getElem? (i := 117) (l := tables_1_1) rfl))) rfl
set_option maxHeartbeats 4000000 in
set_option maxRecDepth 100000 in
theorem mCI_43 : (Cond.code ({ cls := "KindRounds$Kinds", name := "<init>", desc := "()V" } : Jvm.MethodName) prog_4_method_1_code (1 : Nat) (Option.none : Option Jvm.ClassFile.FieldType)) ∈ lw_good := good_in (List.mem_append_right _ (List.mem_append_left _ (List.mem_of_getElem? (i := 107) (l := tables_1_1) rfl))) rfl
set_option maxHeartbeats 4000000 in
set_option maxRecDepth 100000 in
theorem mCI_44 : (Cond.initialized "KindRounds$Kinds") ∈ lw_good := good_in (List.mem_append_right _ (List.mem_append_left _ (List.mem_of_getElem? (i := 5) (l := tables_1_1) rfl))) rfl
set_option maxHeartbeats 4000000 in
set_option maxRecDepth 100000 in
theorem mCI_45 : (Cond.methodLink "KindRounds$Text" (3 : Nat) ({ cls := "java/lang/Object", name := "<init>", desc := "()V" } : Jvm.MethodName)) ∈ lw_good := good_in (List.mem_append_right _ (List.mem_append_left _ (List.mem_of_getElem? (i := 149) (l := tables_1_1) rfl))) rfl
set_option maxHeartbeats 4000000 in
set_option maxRecDepth 100000 in
theorem mCI_46 : (Cond.fieldLink "KindRounds$Text" (9 : Nat) "KindRounds$Text" "sorts" "[I") ∈ lw_good := good_in (List.mem_append_right _ (List.mem_append_left _ (List.mem_of_getElem? (i := 201) (l := tables_1_1) rfl))) rfl
set_option maxHeartbeats 4000000 in
set_option maxRecDepth 100000 in
theorem mCI_47 : (Cond.fieldLink "KindRounds$Text" (15 : Nat) "KindRounds$Text" "names" "[J") ∈ lw_good := good_in (List.mem_append_right _ (List.mem_append_left _ (List.mem_of_getElem? (i := 205) (l := tables_1_1) rfl))) rfl
set_option maxHeartbeats 4000000 in
set_option maxRecDepth 100000 in
theorem mCI_48 : (Cond.fieldLink "KindRounds$Text" (19 : Nat) "KindRounds$Text" "spots" "[I") ∈ lw_good := good_in (List.mem_append_right _ (List.mem_append_left _ (List.mem_of_getElem? (i := 206) (l := tables_1_1) rfl))) rfl
set_option maxHeartbeats 4000000 in
set_option maxRecDepth 100000 in
theorem mCI_49 : (Cond.fieldLink "KindRounds$Text" (22 : Nat) "KindRounds$Text" "params" "[I") ∈ lw_good := good_in (List.mem_append_right _ (List.mem_append_left _ (List.mem_of_getElem? (i := 209) (l := tables_1_1) rfl))) rfl
set_option maxHeartbeats 4000000 in
set_option maxRecDepth 100000 in
theorem mCI_50 : (Cond.fieldLink "KindRounds$Text" (25 : Nat) "KindRounds$Text" "paramNames" "[J") ∈ lw_good := good_in (List.mem_append_right _ (List.mem_append_left _ (List.mem_of_getElem? (i := 215) (l := tables_1_1) rfl))) rfl
set_option maxHeartbeats 4000000 in
set_option maxRecDepth 100000 in
theorem mCI_51 : (Cond.fieldLink "KindRounds$Text" (28 : Nat) "KindRounds$Text" "items" "[I") ∈ lw_good := good_in (List.mem_append_right _ (List.mem_append_left _ (List.mem_of_getElem? (i := 216) (l := tables_1_1) rfl))) rfl
set_option maxHeartbeats 4000000 in
set_option maxRecDepth 100000 in
theorem mCI_52 : (Cond.fieldLink "KindRounds$Text" (31 : Nat) "KindRounds$Text" "opens" "[I") ∈ lw_good := good_in (List.mem_append_right _ (List.mem_append_left _ (List.mem_of_getElem? (i := 219) (l := tables_1_1) rfl))) rfl
set_option maxHeartbeats 4000000 in
set_option maxRecDepth 100000 in
theorem mCI_53 : (Cond.fieldLink "KindRounds$Text" (34 : Nat) "KindRounds$Text" "groupOf" "[I") ∈ lw_good := good_in (List.mem_append_right _ (List.mem_append_left _ (List.mem_of_getElem? (i := 222) (l := tables_1_1) rfl))) rfl
set_option maxHeartbeats 4000000 in
set_option maxRecDepth 100000 in
theorem mCI_54 : (Cond.fieldLink "KindRounds$Text" (37 : Nat) "KindRounds$Text" "nameMasks" "[I") ∈ lw_good := good_in (List.mem_append_right _ (List.mem_append_left _ (List.mem_of_getElem? (i := 224) (l := tables_1_1) rfl))) rfl
set_option maxHeartbeats 4000000 in
set_option maxRecDepth 100000 in
theorem mCI_55 : (Cond.fieldLink "KindRounds$Text" (40 : Nat) "KindRounds$Text" "needMasks" "[I") ∈ lw_good := good_in (List.mem_append_right _ (List.mem_append_left _ (List.mem_of_getElem? (i := 226) (l := tables_1_1) rfl))) rfl
set_option maxHeartbeats 4000000 in
set_option maxRecDepth 100000 in
theorem mCI_56 : (Cond.fieldLink "KindRounds$Text" (43 : Nat) "KindRounds$Text" "groupMasks" "[I") ∈ lw_good := good_in (List.mem_append_right _ (List.mem_append_left _ (List.mem_of_getElem? (i := 228) (l := tables_1_1) rfl))) rfl
set_option maxHeartbeats 4000000 in
set_option maxRecDepth 100000 in
theorem mCI_57 : (Cond.fieldLink "KindRounds$Text" (46 : Nat) "KindRounds$Text" "kinds" "[I") ∈ lw_good := good_in (List.mem_append_right _ (List.mem_append_left _ (List.mem_of_getElem? (i := 233) (l := tables_1_1) rfl))) rfl
set_option maxHeartbeats 4000000 in
set_option maxRecDepth 100000 in
theorem mCI_58 : (Cond.fieldLink "KindRounds$Text" (49 : Nat) "KindRounds$Text" "paramKinds" "[I") ∈ lw_good := good_in (List.mem_append_right _ (List.mem_append_left _ (List.mem_of_getElem? (i := 236) (l := tables_1_1) rfl))) rfl
set_option maxHeartbeats 4000000 in
set_option maxRecDepth 100000 in
theorem mCI_59 : (Cond.fieldLink "KindRounds$Text" (52 : Nat) "KindRounds$Text" "resultKinds" "[I") ∈ lw_good := good_in (List.mem_append_right _ (List.mem_append_left _ (List.mem_of_getElem? (i := 239) (l := tables_1_1) rfl))) rfl
set_option maxHeartbeats 4000000 in
set_option maxRecDepth 100000 in
theorem mCI_60 : (Cond.classLink "KindRounds$Text" (55 : Nat) "KindRounds$Row") ∈ lw_good := good_in (List.mem_append_right _ (List.mem_append_left _ (List.mem_of_getElem? (i := 150) (l := tables_1_1) rfl))) rfl
set_option maxHeartbeats 4000000 in
set_option maxRecDepth 100000 in
theorem mCI_61 : (Cond.instantiable "KindRounds$Row" (8 : Nat)) ∈ lw_good := good_in (List.mem_append_right _ (List.mem_append_left _ (List.mem_of_getElem? (i := 151) (l := tables_1_1) rfl))) rfl
set_option maxHeartbeats 4000000 in
set_option maxRecDepth 100000 in
theorem mCI_62 : (Cond.methodLinkNest "KindRounds$Text" (57 : Nat) ({ cls := "KindRounds$Row", name := "<init>", desc := "()V" } : Jvm.MethodName) "KindRounds") ∈ lw_nest := nest_in (List.mem_append_right _ (List.mem_append_left _ (List.mem_of_getElem? (i := 152) (l := tables_1_1) rfl))) rfl
set_option maxHeartbeats 4000000 in
set_option maxRecDepth 100000 in
theorem mCI_63 : (Cond.instanceMethod ({ cls := "KindRounds$Row", name := "<init>", desc := "()V" } : Jvm.MethodName)) ∈ lw_good := good_in (List.mem_append_right _ (List.mem_append_left _ (List.mem_of_getElem? (i := 153) (l := tables_1_1) rfl))) rfl
set_option maxHeartbeats 4000000 in
set_option maxRecDepth 100000 in
theorem mCI_64 : (Cond.fieldLink "KindRounds$Text" (58 : Nat) "KindRounds$Text" "row" "LKindRounds$Row;") ∈ lw_good := good_in (List.mem_append_right _ (List.mem_append_right _ (List.mem_append_left _ (List.mem_of_getElem? (i := 2) (l := tables_1_2) rfl)))) rfl
set_option maxHeartbeats 4000000 in
set_option maxRecDepth 100000 in
theorem mCI_65 : (Cond.code ({ cls := "KindRounds$Text", name := "<init>", desc := "()V" } : Jvm.MethodName) prog_12_method_1_code (1 : Nat) (Option.none : Option Jvm.ClassFile.FieldType)) ∈ lw_good := good_in (List.mem_append_right _ (List.mem_append_left _ (List.mem_of_getElem? (i := 148) (l := tables_1_1) rfl))) rfl
set_option maxHeartbeats 4000000 in
set_option maxRecDepth 100000 in
theorem mCI_66 : (Cond.initialized "KindRounds$Text") ∈ lw_good := good_in (List.mem_append_right _ (List.mem_append_left _ (List.mem_of_getElem? (i := 6) (l := tables_1_1) rfl))) rfl
set_option maxHeartbeats 4000000 in
set_option maxRecDepth 100000 in
theorem mCI_67 : (Cond.methodLink "KindRounds$Mentions" (1 : Nat) ({ cls := "java/lang/Object", name := "<init>", desc := "()V" } : Jvm.MethodName)) ∈ lw_good := good_in (List.mem_append_right _ (List.mem_append_right _ (List.mem_append_left _ (List.mem_of_getElem? (i := 45) (l := tables_1_2) rfl)))) rfl
set_option maxHeartbeats 4000000 in
set_option maxRecDepth 100000 in
theorem mCI_68 : (Cond.fieldLink "KindRounds$Mentions" (9 : Nat) "KindRounds$Mentions" "roles" "[I") ∈ lw_good := good_in (List.mem_append_right _ (List.mem_append_right _ (List.mem_append_left _ (List.mem_of_getElem? (i := 46) (l := tables_1_2) rfl)))) rfl
set_option maxHeartbeats 4000000 in
set_option maxRecDepth 100000 in
theorem mCI_69 : (Cond.fieldLink "KindRounds$Mentions" (13 : Nat) "KindRounds$Mentions" "names" "[J") ∈ lw_good := good_in (List.mem_append_right _ (List.mem_append_right _ (List.mem_append_left _ (List.mem_of_getElem? (i := 49) (l := tables_1_2) rfl)))) rfl
set_option maxHeartbeats 4000000 in
set_option maxRecDepth 100000 in
theorem mCI_70 : (Cond.fieldLink "KindRounds$Mentions" (17 : Nat) "KindRounds$Mentions" "spots" "[I") ∈ lw_good := good_in (List.mem_append_right _ (List.mem_append_right _ (List.mem_append_left _ (List.mem_of_getElem? (i := 52) (l := tables_1_2) rfl)))) rfl
set_option maxHeartbeats 4000000 in
set_option maxRecDepth 100000 in
theorem mCI_71 : (Cond.fieldLink "KindRounds$Mentions" (20 : Nat) "KindRounds$Mentions" "owners" "[I") ∈ lw_good := good_in (List.mem_append_right _ (List.mem_append_right _ (List.mem_append_left _ (List.mem_of_getElem? (i := 55) (l := tables_1_2) rfl)))) rfl
set_option maxHeartbeats 4000000 in
set_option maxRecDepth 100000 in
theorem mCI_72 : (Cond.fieldLink "KindRounds$Mentions" (23 : Nat) "KindRounds$Mentions" "values" "[I") ∈ lw_good := good_in (List.mem_append_right _ (List.mem_append_right _ (List.mem_append_left _ (List.mem_of_getElem? (i := 57) (l := tables_1_2) rfl)))) rfl
set_option maxHeartbeats 4000000 in
set_option maxRecDepth 100000 in
theorem mCI_73 : (Cond.code ({ cls := "KindRounds$Mentions", name := "<init>", desc := "()V" } : Jvm.MethodName) prog_6_method_1_code (1 : Nat) (Option.none : Option Jvm.ClassFile.FieldType)) ∈ lw_good := good_in (List.mem_append_right _ (List.mem_append_right _ (List.mem_append_left _ (List.mem_of_getElem? (i := 44) (l := tables_1_2) rfl)))) rfl
set_option maxHeartbeats 4000000 in
set_option maxRecDepth 100000 in
theorem mCI_74 : (Cond.initialized "KindRounds$Mentions") ∈ lw_good := good_in (List.mem_append_right _ (List.mem_append_left _ (List.mem_of_getElem? (i := 8) (l := tables_1_1) rfl))) rfl
set_option maxHeartbeats 4000000 in
set_option maxRecDepth 100000 in
theorem mCI_75 : (Cond.methodLink "KindRounds$Parser" (3 : Nat) ({ cls := "java/lang/Object", name := "<init>", desc := "()V" } : Jvm.MethodName)) ∈ lw_good := good_in (List.mem_append_right _ (List.mem_append_right _ (List.mem_append_left _ (List.mem_of_getElem? (i := 84) (l := tables_1_2) rfl)))) rfl
set_option maxHeartbeats 4000000 in
set_option maxRecDepth 100000 in
theorem mCI_76 : (Cond.fieldLink "KindRounds$Parser" (9 : Nat) "KindRounds$Parser" "tape" "LKindRounds$Tape;") ∈ lw_good := good_in (List.mem_append_right _ (List.mem_append_right _ (List.mem_append_left _ (List.mem_of_getElem? (i := 85) (l := tables_1_2) rfl)))) rfl
set_option maxHeartbeats 4000000 in
set_option maxRecDepth 100000 in
theorem mCI_77 : (Cond.fieldLink "KindRounds$Parser" (15 : Nat) "KindRounds$Parser" "text" "LKindRounds$Text;") ∈ lw_good := good_in (List.mem_append_right _ (List.mem_append_right _ (List.mem_append_left _ (List.mem_of_getElem? (i := 86) (l := tables_1_2) rfl)))) rfl
set_option maxHeartbeats 4000000 in
set_option maxRecDepth 100000 in
theorem mCI_78 : (Cond.fieldLink "KindRounds$Parser" (19 : Nat) "KindRounds$Parser" "mentions" "LKindRounds$Mentions;") ∈ lw_good := good_in (List.mem_append_right _ (List.mem_append_right _ (List.mem_append_left _ (List.mem_of_getElem? (i := 87) (l := tables_1_2) rfl)))) rfl
set_option maxHeartbeats 4000000 in
set_option maxRecDepth 100000 in
theorem mCI_79 : (Cond.fieldLink "KindRounds$Parser" (23 : Nat) "KindRounds$Parser" "kinds" "LKindRounds$Kinds;") ∈ lw_good := good_in (List.mem_append_right _ (List.mem_append_right _ (List.mem_append_left _ (List.mem_of_getElem? (i := 88) (l := tables_1_2) rfl)))) rfl
set_option maxHeartbeats 4000000 in
set_option maxRecDepth 100000 in
theorem mCI_80 : (Cond.fieldLink "KindRounds$Parser" (27 : Nat) "KindRounds$Parser" "fault" "LKindRounds$Fault;") ∈ lw_good := good_in (List.mem_append_right _ (List.mem_append_right _ (List.mem_append_left _ (List.mem_of_getElem? (i := 89) (l := tables_1_2) rfl)))) rfl
set_option maxHeartbeats 4000000 in
set_option maxRecDepth 100000 in
theorem mCI_81 : (Cond.fieldLinkNest "KindRounds$Parser" (31 : Nat) "KindRounds$Text" "row" "LKindRounds$Row;" "KindRounds") ∈ lw_nest := nest_in (List.mem_append_right _ (List.mem_append_right _ (List.mem_append_left _ (List.mem_of_getElem? (i := 1) (l := tables_1_2) rfl)))) rfl
set_option maxHeartbeats 4000000 in
set_option maxRecDepth 100000 in
theorem mCI_82 : (Cond.fieldLink "KindRounds$Parser" (37 : Nat) "KindRounds$Parser" "row" "LKindRounds$Row;") ∈ lw_good := good_in (List.mem_append_right _ (List.mem_append_right _ (List.mem_append_left _ (List.mem_of_getElem? (i := 90) (l := tables_1_2) rfl)))) rfl
set_option maxHeartbeats 4000000 in
set_option maxRecDepth 100000 in
theorem mCI_83 : (Cond.code ({ cls := "KindRounds$Parser", name := "<init>", desc := "(LKindRounds$Tape;LKindRounds$Text;LKindRounds$Mentions;LKindRounds$Kinds;LKindRounds$Fault;)V" } : Jvm.MethodName) prog_7_method_1_code (6 : Nat) (Option.none : Option Jvm.ClassFile.FieldType)) ∈ lw_good := good_in (List.mem_append_right _ (List.mem_append_right _ (List.mem_append_left _ (List.mem_of_getElem? (i := 83) (l := tables_1_2) rfl)))) rfl
set_option maxHeartbeats 4000000 in
set_option maxRecDepth 100000 in
theorem mCI_84 : (Cond.initialized "KindRounds$Parser") ∈ lw_good := good_in (List.mem_append_right _ (List.mem_append_left _ (List.mem_of_getElem? (i := 9) (l := tables_1_1) rfl))) rfl
set_option maxHeartbeats 4000000 in
set_option maxRecDepth 100000 in
theorem mCI_85 : (Cond.methodLink "KindRounds$Checker" (3 : Nat) ({ cls := "java/lang/Object", name := "<init>", desc := "()V" } : Jvm.MethodName)) ∈ lw_good := good_in (List.mem_append_right _ (List.mem_append_right _ (List.mem_append_left _ (List.mem_of_getElem? (i := 112) (l := tables_1_2) rfl)))) rfl
set_option maxHeartbeats 4000000 in
set_option maxRecDepth 100000 in
theorem mCI_86 : (Cond.fieldLink "KindRounds$Checker" (9 : Nat) "KindRounds$Checker" "text" "LKindRounds$Text;") ∈ lw_good := good_in (List.mem_append_right _ (List.mem_append_right _ (List.mem_append_left _ (List.mem_of_getElem? (i := 113) (l := tables_1_2) rfl)))) rfl
set_option maxHeartbeats 4000000 in
set_option maxRecDepth 100000 in
theorem mCI_87 : (Cond.fieldLink "KindRounds$Checker" (15 : Nat) "KindRounds$Checker" "mentions" "LKindRounds$Mentions;") ∈ lw_good := good_in (List.mem_append_right _ (List.mem_append_right _ (List.mem_append_left _ (List.mem_of_getElem? (i := 114) (l := tables_1_2) rfl)))) rfl
set_option maxHeartbeats 4000000 in
set_option maxRecDepth 100000 in
theorem mCI_88 : (Cond.fieldLink "KindRounds$Checker" (19 : Nat) "KindRounds$Checker" "fault" "LKindRounds$Fault;") ∈ lw_good := good_in (List.mem_append_right _ (List.mem_append_right _ (List.mem_append_left _ (List.mem_of_getElem? (i := 115) (l := tables_1_2) rfl)))) rfl
set_option maxHeartbeats 4000000 in
set_option maxRecDepth 100000 in
theorem mCI_89 : (Cond.fieldLink "KindRounds$Checker" (23 : Nat) "KindRounds$Checker" "ringMasks" "[I") ∈ lw_good := good_in (List.mem_append_right _ (List.mem_append_right _ (List.mem_append_left _ (List.mem_of_getElem? (i := 116) (l := tables_1_2) rfl)))) rfl
set_option maxHeartbeats 4000000 in
set_option maxRecDepth 100000 in
theorem mCI_90 : (Cond.code ({ cls := "KindRounds$Checker", name := "<init>", desc := "(LKindRounds$Text;LKindRounds$Mentions;LKindRounds$Fault;)V" } : Jvm.MethodName) prog_2_method_1_code (4 : Nat) (Option.none : Option Jvm.ClassFile.FieldType)) ∈ lw_good := good_in (List.mem_append_right _ (List.mem_append_right _ (List.mem_append_left _ (List.mem_of_getElem? (i := 111) (l := tables_1_2) rfl)))) rfl
set_option maxHeartbeats 4000000 in
set_option maxRecDepth 100000 in
theorem mCI_91 : (Cond.initialized "KindRounds$Checker") ∈ lw_good := good_in (List.mem_append_right _ (List.mem_append_left _ (List.mem_of_getElem? (i := 10) (l := tables_1_1) rfl))) rfl
set_option maxHeartbeats 4000000 in
set_option maxRecDepth 100000 in
theorem mCI_92 : (Cond.methodLink "KindRounds$Solver" (3 : Nat) ({ cls := "java/lang/Object", name := "<init>", desc := "()V" } : Jvm.MethodName)) ∈ lw_good := good_in (List.mem_append_right _ (List.mem_append_right _ (List.mem_append_left _ (List.mem_of_getElem? (i := 131) (l := tables_1_2) rfl)))) rfl
set_option maxHeartbeats 4000000 in
set_option maxRecDepth 100000 in
theorem mCI_93 : (Cond.fieldLink "KindRounds$Solver" (9 : Nat) "KindRounds$Solver" "text" "LKindRounds$Text;") ∈ lw_good := good_in (List.mem_append_right _ (List.mem_append_right _ (List.mem_append_left _ (List.mem_of_getElem? (i := 132) (l := tables_1_2) rfl)))) rfl
set_option maxHeartbeats 4000000 in
set_option maxRecDepth 100000 in
theorem mCI_94 : (Cond.fieldLink "KindRounds$Solver" (15 : Nat) "KindRounds$Solver" "mentions" "LKindRounds$Mentions;") ∈ lw_good := good_in (List.mem_append_right _ (List.mem_append_right _ (List.mem_append_left _ (List.mem_of_getElem? (i := 133) (l := tables_1_2) rfl)))) rfl
set_option maxHeartbeats 4000000 in
set_option maxRecDepth 100000 in
theorem mCI_95 : (Cond.fieldLink "KindRounds$Solver" (19 : Nat) "KindRounds$Solver" "kinds" "LKindRounds$Kinds;") ∈ lw_good := good_in (List.mem_append_right _ (List.mem_append_right _ (List.mem_append_left _ (List.mem_of_getElem? (i := 134) (l := tables_1_2) rfl)))) rfl
set_option maxHeartbeats 4000000 in
set_option maxRecDepth 100000 in
theorem mCI_96 : (Cond.fieldLink "KindRounds$Solver" (23 : Nat) "KindRounds$Solver" "fault" "LKindRounds$Fault;") ∈ lw_good := good_in (List.mem_append_right _ (List.mem_append_right _ (List.mem_append_left _ (List.mem_of_getElem? (i := 135) (l := tables_1_2) rfl)))) rfl
set_option maxHeartbeats 4000000 in
set_option maxRecDepth 100000 in
theorem mCI_97 : (Cond.fieldLink "KindRounds$Solver" (27 : Nat) "KindRounds$Solver" "lefts" "[I") ∈ lw_good := good_in (List.mem_append_right _ (List.mem_append_right _ (List.mem_append_left _ (List.mem_of_getElem? (i := 136) (l := tables_1_2) rfl)))) rfl
set_option maxHeartbeats 4000000 in
set_option maxRecDepth 100000 in
theorem mCI_98 : (Cond.fieldLink "KindRounds$Solver" (31 : Nat) "KindRounds$Solver" "rights" "[I") ∈ lw_good := good_in (List.mem_append_right _ (List.mem_append_right _ (List.mem_append_left _ (List.mem_of_getElem? (i := 137) (l := tables_1_2) rfl)))) rfl
set_option maxHeartbeats 4000000 in
set_option maxRecDepth 100000 in
theorem mCI_99 : (Cond.fieldLink "KindRounds$Solver" (34 : Nat) "KindRounds$Solver" "spots" "[I") ∈ lw_good := good_in (List.mem_append_right _ (List.mem_append_right _ (List.mem_append_left _ (List.mem_of_getElem? (i := 138) (l := tables_1_2) rfl)))) rfl
set_option maxHeartbeats 4000000 in
set_option maxRecDepth 100000 in
theorem mCI_100 : (Cond.fieldLink "KindRounds$Solver" (37 : Nat) "KindRounds$Solver" "frameNodes" "[I") ∈ lw_good := good_in (List.mem_append_right _ (List.mem_append_right _ (List.mem_append_left _ (List.mem_of_getElem? (i := 140) (l := tables_1_2) rfl)))) rfl
set_option maxHeartbeats 4000000 in
set_option maxRecDepth 100000 in
theorem mCI_101 : (Cond.fieldLink "KindRounds$Solver" (40 : Nat) "KindRounds$Solver" "frameKinds" "[I") ∈ lw_good := good_in (List.mem_append_right _ (List.mem_append_right _ (List.mem_append_left _ (List.mem_of_getElem? (i := 141) (l := tables_1_2) rfl)))) rfl
set_option maxHeartbeats 4000000 in
set_option maxRecDepth 100000 in
theorem mCI_102 : (Cond.fieldLink "KindRounds$Solver" (43 : Nat) "KindRounds$Solver" "frameDone" "[I") ∈ lw_good := good_in (List.mem_append_right _ (List.mem_append_right _ (List.mem_append_left _ (List.mem_of_getElem? (i := 142) (l := tables_1_2) rfl)))) rfl
set_option maxHeartbeats 4000000 in
set_option maxRecDepth 100000 in
theorem mCI_103 : (Cond.fieldLink "KindRounds$Solver" (46 : Nat) "KindRounds$Solver" "freeNames" "[J") ∈ lw_good := good_in (List.mem_append_right _ (List.mem_append_right _ (List.mem_append_left _ (List.mem_of_getElem? (i := 144) (l := tables_1_2) rfl)))) rfl
set_option maxHeartbeats 4000000 in
set_option maxRecDepth 100000 in
theorem mCI_104 : (Cond.fieldLink "KindRounds$Solver" (50 : Nat) "KindRounds$Solver" "freeKinds" "[I") ∈ lw_good := good_in (List.mem_append_right _ (List.mem_append_right _ (List.mem_append_left _ (List.mem_of_getElem? (i := 145) (l := tables_1_2) rfl)))) rfl
set_option maxHeartbeats 4000000 in
set_option maxRecDepth 100000 in
theorem mCI_105 : (Cond.code ({ cls := "KindRounds$Solver", name := "<init>", desc := "(LKindRounds$Text;LKindRounds$Mentions;LKindRounds$Kinds;LKindRounds$Fault;)V" } : Jvm.MethodName) prog_10_method_1_code (5 : Nat) (Option.none : Option Jvm.ClassFile.FieldType)) ∈ lw_good := good_in (List.mem_append_right _ (List.mem_append_right _ (List.mem_append_left _ (List.mem_of_getElem? (i := 130) (l := tables_1_2) rfl)))) rfl
set_option maxHeartbeats 4000000 in
set_option maxRecDepth 100000 in
theorem mCI_106 : (Cond.initialized "KindRounds$Solver") ∈ lw_good := good_in (List.mem_append_right _ (List.mem_append_left _ (List.mem_of_getElem? (i := 11) (l := tables_1_1) rfl))) rfl
set_option maxHeartbeats 4000000 in
set_option maxRecDepth 100000 in
theorem mCI_107 : (Cond.methodLink "KindRounds$Plainer" (3 : Nat) ({ cls := "java/lang/Object", name := "<init>", desc := "()V" } : Jvm.MethodName)) ∈ lw_good := good_in (List.mem_append_right _ (List.mem_append_right _ (List.mem_append_left _ (List.mem_of_getElem? (i := 187) (l := tables_1_2) rfl)))) rfl
set_option maxHeartbeats 4000000 in
set_option maxRecDepth 100000 in
theorem mCI_108 : (Cond.fieldLink "KindRounds$Plainer" (9 : Nat) "KindRounds$Plainer" "text" "LKindRounds$Text;") ∈ lw_good := good_in (List.mem_append_right _ (List.mem_append_right _ (List.mem_append_left _ (List.mem_of_getElem? (i := 190) (l := tables_1_2) rfl)))) rfl
set_option maxHeartbeats 4000000 in
set_option maxRecDepth 100000 in
theorem mCI_109 : (Cond.classLink "KindRounds$Plainer" (15 : Nat) "KindRounds$Row") ∈ lw_good := good_in (List.mem_append_right _ (List.mem_append_right _ (List.mem_append_left _ (List.mem_of_getElem? (i := 188) (l := tables_1_2) rfl)))) rfl
set_option maxHeartbeats 4000000 in
set_option maxRecDepth 100000 in
theorem mCI_110 : (Cond.methodLinkNest "KindRounds$Plainer" (17 : Nat) ({ cls := "KindRounds$Row", name := "<init>", desc := "()V" } : Jvm.MethodName) "KindRounds") ∈ lw_nest := nest_in (List.mem_append_right _ (List.mem_append_right _ (List.mem_append_left _ (List.mem_of_getElem? (i := 189) (l := tables_1_2) rfl)))) rfl
set_option maxHeartbeats 4000000 in
set_option maxRecDepth 100000 in
theorem mCI_111 : (Cond.fieldLink "KindRounds$Plainer" (18 : Nat) "KindRounds$Plainer" "now" "LKindRounds$Row;") ∈ lw_good := good_in (List.mem_append_right _ (List.mem_append_right _ (List.mem_append_left _ (List.mem_of_getElem? (i := 191) (l := tables_1_2) rfl)))) rfl
set_option maxHeartbeats 4000000 in
set_option maxRecDepth 100000 in
theorem mCI_112 : (Cond.fieldLink "KindRounds$Plainer" (22 : Nat) "KindRounds$Plainer" "next" "LKindRounds$Row;") ∈ lw_good := good_in (List.mem_append_right _ (List.mem_append_right _ (List.mem_append_left _ (List.mem_of_getElem? (i := 192) (l := tables_1_2) rfl)))) rfl
set_option maxHeartbeats 4000000 in
set_option maxRecDepth 100000 in
theorem mCI_113 : (Cond.fieldLink "KindRounds$Plainer" (25 : Nat) "KindRounds$Plainer" "kept" "LKindRounds$Row;") ∈ lw_good := good_in (List.mem_append_right _ (List.mem_append_right _ (List.mem_append_left _ (List.mem_of_getElem? (i := 193) (l := tables_1_2) rfl)))) rfl
set_option maxHeartbeats 4000000 in
set_option maxRecDepth 100000 in
theorem mCI_114 : (Cond.fieldLink "KindRounds$Plainer" (28 : Nat) "KindRounds$Plainer" "argStarts" "[I") ∈ lw_good := good_in (List.mem_append_right _ (List.mem_append_right _ (List.mem_append_left _ (List.mem_of_getElem? (i := 194) (l := tables_1_2) rfl)))) rfl
set_option maxHeartbeats 4000000 in
set_option maxRecDepth 100000 in
theorem mCI_115 : (Cond.fieldLink "KindRounds$Plainer" (32 : Nat) "KindRounds$Plainer" "frameNodes" "[I") ∈ lw_good := good_in (List.mem_append_right _ (List.mem_append_right _ (List.mem_append_left _ (List.mem_of_getElem? (i := 195) (l := tables_1_2) rfl)))) rfl
set_option maxHeartbeats 4000000 in
set_option maxRecDepth 100000 in
theorem mCI_116 : (Cond.fieldLink "KindRounds$Plainer" (35 : Nat) "KindRounds$Plainer" "frameDone" "[I") ∈ lw_good := good_in (List.mem_append_right _ (List.mem_append_right _ (List.mem_append_left _ (List.mem_of_getElem? (i := 196) (l := tables_1_2) rfl)))) rfl
set_option maxHeartbeats 4000000 in
set_option maxRecDepth 100000 in
theorem mCI_117 : (Cond.code ({ cls := "KindRounds$Plainer", name := "<init>", desc := "(LKindRounds$Text;)V" } : Jvm.MethodName) prog_8_method_1_code (2 : Nat) (Option.none : Option Jvm.ClassFile.FieldType)) ∈ lw_good := good_in (List.mem_append_right _ (List.mem_append_right _ (List.mem_append_left _ (List.mem_of_getElem? (i := 186) (l := tables_1_2) rfl)))) rfl
set_option maxHeartbeats 4000000 in
set_option maxRecDepth 100000 in
theorem mCI_118 : (Cond.initialized "KindRounds$Plainer") ∈ lw_good := good_in (List.mem_append_right _ (List.mem_append_left _ (List.mem_of_getElem? (i := 12) (l := tables_1_1) rfl))) rfl
set_option maxHeartbeats 4000000 in
set_option maxRecDepth 100000 in
theorem mCI_119 : (Cond.methodLink "KindRounds" (1 : Nat) ({ cls := "java/lang/Object", name := "<init>", desc := "()V" } : Jvm.MethodName)) ∈ lw_good := good_in (List.mem_append_right _ (List.mem_append_left _ (List.mem_of_getElem? (i := 27) (l := tables_1_1) rfl))) rfl
set_option maxHeartbeats 4000000 in
set_option maxRecDepth 100000 in
theorem mCI_120 : (Cond.classLink "KindRounds" (7 : Nat) "KindRounds$Tape") ∈ lw_good := good_in (List.mem_append_right _ (List.mem_append_left _ (List.mem_of_getElem? (i := 30) (l := tables_1_1) rfl))) rfl
set_option maxHeartbeats 4000000 in
set_option maxRecDepth 100000 in
theorem mCI_121 : (Cond.instantiable "KindRounds$Tape" (7 : Nat)) ∈ lw_good := good_in (List.mem_append_right _ (List.mem_append_left _ (List.mem_of_getElem? (i := 31) (l := tables_1_1) rfl))) rfl
set_option maxHeartbeats 4000000 in
set_option maxRecDepth 100000 in
theorem mCI_122 : (Cond.methodLinkNest "KindRounds" (9 : Nat) ({ cls := "KindRounds$Tape", name := "<init>", desc := "()V" } : Jvm.MethodName) "KindRounds") ∈ lw_nest := nest_in (List.mem_append_right _ (List.mem_append_left _ (List.mem_of_getElem? (i := 32) (l := tables_1_1) rfl))) rfl
set_option maxHeartbeats 4000000 in
set_option maxRecDepth 100000 in
theorem mCI_123 : (Cond.instanceMethod ({ cls := "KindRounds$Tape", name := "<init>", desc := "()V" } : Jvm.MethodName)) ∈ lw_good := good_in (List.mem_append_right _ (List.mem_append_left _ (List.mem_of_getElem? (i := 33) (l := tables_1_1) rfl))) rfl
set_option maxHeartbeats 4000000 in
set_option maxRecDepth 100000 in
theorem mCI_124 : (Cond.fieldLink "KindRounds" (10 : Nat) "KindRounds" "tape" "LKindRounds$Tape;") ∈ lw_good := good_in (List.mem_append_right _ (List.mem_append_right _ (List.mem_append_left _ (List.mem_of_getElem? (i := 220) (l := tables_1_2) rfl)))) rfl
set_option maxHeartbeats 4000000 in
set_option maxRecDepth 100000 in
theorem mCI_125 : (Cond.classLink "KindRounds" (16 : Nat) "KindRounds$Fault") ∈ lw_good := good_in (List.mem_append_right _ (List.mem_append_left _ (List.mem_of_getElem? (i := 61) (l := tables_1_1) rfl))) rfl
set_option maxHeartbeats 4000000 in
set_option maxRecDepth 100000 in
theorem mCI_126 : (Cond.instantiable "KindRounds$Fault" (4 : Nat)) ∈ lw_good := good_in (List.mem_append_right _ (List.mem_append_left _ (List.mem_of_getElem? (i := 62) (l := tables_1_1) rfl))) rfl
set_option maxHeartbeats 4000000 in
set_option maxRecDepth 100000 in
theorem mCI_127 : (Cond.methodLinkNest "KindRounds" (18 : Nat) ({ cls := "KindRounds$Fault", name := "<init>", desc := "()V" } : Jvm.MethodName) "KindRounds") ∈ lw_nest := nest_in (List.mem_append_right _ (List.mem_append_left _ (List.mem_of_getElem? (i := 63) (l := tables_1_1) rfl))) rfl
set_option maxHeartbeats 4000000 in
set_option maxRecDepth 100000 in
theorem mCI_128 : (Cond.instanceMethod ({ cls := "KindRounds$Fault", name := "<init>", desc := "()V" } : Jvm.MethodName)) ∈ lw_good := good_in (List.mem_append_right _ (List.mem_append_left _ (List.mem_of_getElem? (i := 64) (l := tables_1_1) rfl))) rfl
set_option maxHeartbeats 4000000 in
set_option maxRecDepth 100000 in
theorem mCI_129 : (Cond.fieldLink "KindRounds" (19 : Nat) "KindRounds" "fault" "LKindRounds$Fault;") ∈ lw_good := good_in (List.mem_append_right _ (List.mem_append_right _ (List.mem_append_left _ (List.mem_of_getElem? (i := 221) (l := tables_1_2) rfl)))) rfl
set_option maxHeartbeats 4000000 in
set_option maxRecDepth 100000 in
theorem mCI_130 : (Cond.classLink "KindRounds" (23 : Nat) "KindRounds$Kinds") ∈ lw_good := good_in (List.mem_append_right _ (List.mem_append_left _ (List.mem_of_getElem? (i := 103) (l := tables_1_1) rfl))) rfl
set_option maxHeartbeats 4000000 in
set_option maxRecDepth 100000 in
theorem mCI_131 : (Cond.instantiable "KindRounds$Kinds" (11 : Nat)) ∈ lw_good := good_in (List.mem_append_right _ (List.mem_append_left _ (List.mem_of_getElem? (i := 104) (l := tables_1_1) rfl))) rfl
set_option maxHeartbeats 4000000 in
set_option maxRecDepth 100000 in
theorem mCI_132 : (Cond.methodLinkNest "KindRounds" (25 : Nat) ({ cls := "KindRounds$Kinds", name := "<init>", desc := "()V" } : Jvm.MethodName) "KindRounds") ∈ lw_nest := nest_in (List.mem_append_right _ (List.mem_append_left _ (List.mem_of_getElem? (i := 105) (l := tables_1_1) rfl))) rfl
set_option maxHeartbeats 4000000 in
set_option maxRecDepth 100000 in
theorem mCI_133 : (Cond.instanceMethod ({ cls := "KindRounds$Kinds", name := "<init>", desc := "()V" } : Jvm.MethodName)) ∈ lw_good := good_in (List.mem_append_right _ (List.mem_append_left _ (List.mem_of_getElem? (i := 106) (l := tables_1_1) rfl))) rfl
set_option maxHeartbeats 4000000 in
set_option maxRecDepth 100000 in
theorem mCI_134 : (Cond.fieldLink "KindRounds" (26 : Nat) "KindRounds" "kinds" "LKindRounds$Kinds;") ∈ lw_good := good_in (List.mem_append_right _ (List.mem_append_right _ (List.mem_append_left _ (List.mem_of_getElem? (i := 222) (l := tables_1_2) rfl)))) rfl
set_option maxHeartbeats 4000000 in
set_option maxRecDepth 100000 in
theorem mCI_135 : (Cond.classLink "KindRounds" (30 : Nat) "KindRounds$Text") ∈ lw_good := good_in (List.mem_append_right _ (List.mem_append_left _ (List.mem_of_getElem? (i := 144) (l := tables_1_1) rfl))) rfl
set_option maxHeartbeats 4000000 in
set_option maxRecDepth 100000 in
theorem mCI_136 : (Cond.instantiable "KindRounds$Text" (17 : Nat)) ∈ lw_good := good_in (List.mem_append_right _ (List.mem_append_left _ (List.mem_of_getElem? (i := 145) (l := tables_1_1) rfl))) rfl
set_option maxHeartbeats 4000000 in
set_option maxRecDepth 100000 in
theorem mCI_137 : (Cond.methodLinkNest "KindRounds" (32 : Nat) ({ cls := "KindRounds$Text", name := "<init>", desc := "()V" } : Jvm.MethodName) "KindRounds") ∈ lw_nest := nest_in (List.mem_append_right _ (List.mem_append_left _ (List.mem_of_getElem? (i := 146) (l := tables_1_1) rfl))) rfl
set_option maxHeartbeats 4000000 in
set_option maxRecDepth 100000 in
theorem mCI_138 : (Cond.instanceMethod ({ cls := "KindRounds$Text", name := "<init>", desc := "()V" } : Jvm.MethodName)) ∈ lw_good := good_in (List.mem_append_right _ (List.mem_append_left _ (List.mem_of_getElem? (i := 147) (l := tables_1_1) rfl))) rfl
set_option maxHeartbeats 4000000 in
set_option maxRecDepth 100000 in
theorem mCI_139 : (Cond.fieldLink "KindRounds" (33 : Nat) "KindRounds" "text" "LKindRounds$Text;") ∈ lw_good := good_in (List.mem_append_right _ (List.mem_append_right _ (List.mem_append_left _ (List.mem_of_getElem? (i := 223) (l := tables_1_2) rfl)))) rfl
set_option maxHeartbeats 4000000 in
set_option maxRecDepth 100000 in
theorem mCI_140 : (Cond.classLink "KindRounds" (37 : Nat) "KindRounds$Mentions") ∈ lw_good := good_in (List.mem_append_right _ (List.mem_append_right _ (List.mem_append_left _ (List.mem_of_getElem? (i := 40) (l := tables_1_2) rfl)))) rfl
set_option maxHeartbeats 4000000 in
set_option maxRecDepth 100000 in
theorem mCI_141 : (Cond.instantiable "KindRounds$Mentions" (6 : Nat)) ∈ lw_good := good_in (List.mem_append_right _ (List.mem_append_right _ (List.mem_append_left _ (List.mem_of_getElem? (i := 41) (l := tables_1_2) rfl)))) rfl
set_option maxHeartbeats 4000000 in
set_option maxRecDepth 100000 in
theorem mCI_142 : (Cond.methodLinkNest "KindRounds" (39 : Nat) ({ cls := "KindRounds$Mentions", name := "<init>", desc := "()V" } : Jvm.MethodName) "KindRounds") ∈ lw_nest := nest_in (List.mem_append_right _ (List.mem_append_right _ (List.mem_append_left _ (List.mem_of_getElem? (i := 42) (l := tables_1_2) rfl)))) rfl
set_option maxHeartbeats 4000000 in
set_option maxRecDepth 100000 in
theorem mCI_143 : (Cond.instanceMethod ({ cls := "KindRounds$Mentions", name := "<init>", desc := "()V" } : Jvm.MethodName)) ∈ lw_good := good_in (List.mem_append_right _ (List.mem_append_right _ (List.mem_append_left _ (List.mem_of_getElem? (i := 43) (l := tables_1_2) rfl)))) rfl
set_option maxHeartbeats 4000000 in
set_option maxRecDepth 100000 in
theorem mCI_144 : (Cond.fieldLink "KindRounds" (40 : Nat) "KindRounds" "mentions" "LKindRounds$Mentions;") ∈ lw_good := good_in (List.mem_append_right _ (List.mem_append_right _ (List.mem_append_left _ (List.mem_of_getElem? (i := 224) (l := tables_1_2) rfl)))) rfl
set_option maxHeartbeats 4000000 in
set_option maxRecDepth 100000 in
theorem mCI_145 : (Cond.classLink "KindRounds" (44 : Nat) "KindRounds$Row") ∈ lw_good := good_in (List.mem_append_right _ (List.mem_append_right _ (List.mem_append_left _ (List.mem_of_getElem? (i := 77) (l := tables_1_2) rfl)))) rfl
set_option maxHeartbeats 4000000 in
set_option maxRecDepth 100000 in
theorem mCI_146 : (Cond.methodLinkNest "KindRounds" (46 : Nat) ({ cls := "KindRounds$Row", name := "<init>", desc := "()V" } : Jvm.MethodName) "KindRounds") ∈ lw_nest := nest_in (List.mem_append_right _ (List.mem_append_right _ (List.mem_append_left _ (List.mem_of_getElem? (i := 78) (l := tables_1_2) rfl)))) rfl
set_option maxHeartbeats 4000000 in
set_option maxRecDepth 100000 in
theorem mCI_147 : (Cond.fieldLink "KindRounds" (47 : Nat) "KindRounds" "asked" "LKindRounds$Row;") ∈ lw_good := good_in (List.mem_append_right _ (List.mem_append_right _ (List.mem_append_left _ (List.mem_of_getElem? (i := 225) (l := tables_1_2) rfl)))) rfl
set_option maxHeartbeats 4000000 in
set_option maxRecDepth 100000 in
theorem mCI_148 : (Cond.classLink "KindRounds" (51 : Nat) "KindRounds$Parser") ∈ lw_good := good_in (List.mem_append_right _ (List.mem_append_right _ (List.mem_append_left _ (List.mem_of_getElem? (i := 79) (l := tables_1_2) rfl)))) rfl
set_option maxHeartbeats 4000000 in
set_option maxRecDepth 100000 in
theorem mCI_149 : (Cond.instantiable "KindRounds$Parser" (7 : Nat)) ∈ lw_good := good_in (List.mem_append_right _ (List.mem_append_right _ (List.mem_append_left _ (List.mem_of_getElem? (i := 80) (l := tables_1_2) rfl)))) rfl
set_option maxHeartbeats 4000000 in
set_option maxRecDepth 100000 in
theorem mCI_150 : (Cond.methodLinkNest "KindRounds" (53 : Nat) ({ cls := "KindRounds$Parser", name := "<init>", desc := "(LKindRounds$Tape;LKindRounds$Text;LKindRounds$Mentions;LKindRounds$Kinds;LKindRounds$Fault;)V" } : Jvm.MethodName) "KindRounds") ∈ lw_nest := nest_in (List.mem_append_right _ (List.mem_append_right _ (List.mem_append_left _ (List.mem_of_getElem? (i := 81) (l := tables_1_2) rfl)))) rfl
set_option maxHeartbeats 4000000 in
set_option maxRecDepth 100000 in
theorem mCI_151 : (Cond.instanceMethod ({ cls := "KindRounds$Parser", name := "<init>", desc := "(LKindRounds$Tape;LKindRounds$Text;LKindRounds$Mentions;LKindRounds$Kinds;LKindRounds$Fault;)V" } : Jvm.MethodName)) ∈ lw_good := good_in (List.mem_append_right _ (List.mem_append_right _ (List.mem_append_left _ (List.mem_of_getElem? (i := 82) (l := tables_1_2) rfl)))) rfl
set_option maxHeartbeats 4000000 in
set_option maxRecDepth 100000 in
theorem mCI_152 : (Cond.fieldLink "KindRounds" (56 : Nat) "KindRounds" "parser" "LKindRounds$Parser;") ∈ lw_good := good_in (List.mem_append_right _ (List.mem_append_right _ (List.mem_append_left _ (List.mem_of_getElem? (i := 226) (l := tables_1_2) rfl)))) rfl
set_option maxHeartbeats 4000000 in
set_option maxRecDepth 100000 in
theorem mCI_153 : (Cond.classLink "KindRounds" (60 : Nat) "KindRounds$Checker") ∈ lw_good := good_in (List.mem_append_right _ (List.mem_append_right _ (List.mem_append_left _ (List.mem_of_getElem? (i := 107) (l := tables_1_2) rfl)))) rfl
set_option maxHeartbeats 4000000 in
set_option maxRecDepth 100000 in
theorem mCI_154 : (Cond.instantiable "KindRounds$Checker" (4 : Nat)) ∈ lw_good := good_in (List.mem_append_right _ (List.mem_append_right _ (List.mem_append_left _ (List.mem_of_getElem? (i := 108) (l := tables_1_2) rfl)))) rfl
set_option maxHeartbeats 4000000 in
set_option maxRecDepth 100000 in
theorem mCI_155 : (Cond.methodLinkNest "KindRounds" (62 : Nat) ({ cls := "KindRounds$Checker", name := "<init>", desc := "(LKindRounds$Text;LKindRounds$Mentions;LKindRounds$Fault;)V" } : Jvm.MethodName) "KindRounds") ∈ lw_nest := nest_in (List.mem_append_right _ (List.mem_append_right _ (List.mem_append_left _ (List.mem_of_getElem? (i := 109) (l := tables_1_2) rfl)))) rfl
set_option maxHeartbeats 4000000 in
set_option maxRecDepth 100000 in
theorem mCI_156 : (Cond.instanceMethod ({ cls := "KindRounds$Checker", name := "<init>", desc := "(LKindRounds$Text;LKindRounds$Mentions;LKindRounds$Fault;)V" } : Jvm.MethodName)) ∈ lw_good := good_in (List.mem_append_right _ (List.mem_append_right _ (List.mem_append_left _ (List.mem_of_getElem? (i := 110) (l := tables_1_2) rfl)))) rfl
set_option maxHeartbeats 4000000 in
set_option maxRecDepth 100000 in
theorem mCI_157 : (Cond.fieldLink "KindRounds" (65 : Nat) "KindRounds" "checker" "LKindRounds$Checker;") ∈ lw_good := good_in (List.mem_append_right _ (List.mem_append_right _ (List.mem_append_left _ (List.mem_of_getElem? (i := 227) (l := tables_1_2) rfl)))) rfl
set_option maxHeartbeats 4000000 in
set_option maxRecDepth 100000 in
theorem mCI_158 : (Cond.classLink "KindRounds" (69 : Nat) "KindRounds$Solver") ∈ lw_good := good_in (List.mem_append_right _ (List.mem_append_right _ (List.mem_append_left _ (List.mem_of_getElem? (i := 126) (l := tables_1_2) rfl)))) rfl
set_option maxHeartbeats 4000000 in
set_option maxRecDepth 100000 in
theorem mCI_159 : (Cond.instantiable "KindRounds$Solver" (16 : Nat)) ∈ lw_good := good_in (List.mem_append_right _ (List.mem_append_right _ (List.mem_append_left _ (List.mem_of_getElem? (i := 127) (l := tables_1_2) rfl)))) rfl
set_option maxHeartbeats 4000000 in
set_option maxRecDepth 100000 in
theorem mCI_160 : (Cond.methodLinkNest "KindRounds" (71 : Nat) ({ cls := "KindRounds$Solver", name := "<init>", desc := "(LKindRounds$Text;LKindRounds$Mentions;LKindRounds$Kinds;LKindRounds$Fault;)V" } : Jvm.MethodName) "KindRounds") ∈ lw_nest := nest_in (List.mem_append_right _ (List.mem_append_right _ (List.mem_append_left _ (List.mem_of_getElem? (i := 128) (l := tables_1_2) rfl)))) rfl
set_option maxHeartbeats 4000000 in
set_option maxRecDepth 100000 in
theorem mCI_161 : (Cond.instanceMethod ({ cls := "KindRounds$Solver", name := "<init>", desc := "(LKindRounds$Text;LKindRounds$Mentions;LKindRounds$Kinds;LKindRounds$Fault;)V" } : Jvm.MethodName)) ∈ lw_good := good_in (List.mem_append_right _ (List.mem_append_right _ (List.mem_append_left _ (List.mem_of_getElem? (i := 129) (l := tables_1_2) rfl)))) rfl
set_option maxHeartbeats 4000000 in
set_option maxRecDepth 100000 in
theorem mCI_162 : (Cond.fieldLink "KindRounds" (74 : Nat) "KindRounds" "solver" "LKindRounds$Solver;") ∈ lw_good := good_in (List.mem_append_right _ (List.mem_append_right _ (List.mem_append_left _ (List.mem_of_getElem? (i := 228) (l := tables_1_2) rfl)))) rfl
set_option maxHeartbeats 4000000 in
set_option maxRecDepth 100000 in
theorem mCI_163 : (Cond.classLink "KindRounds" (78 : Nat) "KindRounds$Plainer") ∈ lw_good := good_in (List.mem_append_right _ (List.mem_append_right _ (List.mem_append_left _ (List.mem_of_getElem? (i := 182) (l := tables_1_2) rfl)))) rfl
set_option maxHeartbeats 4000000 in
set_option maxRecDepth 100000 in
theorem mCI_164 : (Cond.instantiable "KindRounds$Plainer" (9 : Nat)) ∈ lw_good := good_in (List.mem_append_right _ (List.mem_append_right _ (List.mem_append_left _ (List.mem_of_getElem? (i := 183) (l := tables_1_2) rfl)))) rfl
set_option maxHeartbeats 4000000 in
set_option maxRecDepth 100000 in
theorem mCI_165 : (Cond.methodLinkNest "KindRounds" (80 : Nat) ({ cls := "KindRounds$Plainer", name := "<init>", desc := "(LKindRounds$Text;)V" } : Jvm.MethodName) "KindRounds") ∈ lw_nest := nest_in (List.mem_append_right _ (List.mem_append_right _ (List.mem_append_left _ (List.mem_of_getElem? (i := 184) (l := tables_1_2) rfl)))) rfl
set_option maxHeartbeats 4000000 in
set_option maxRecDepth 100000 in
theorem mCI_166 : (Cond.instanceMethod ({ cls := "KindRounds$Plainer", name := "<init>", desc := "(LKindRounds$Text;)V" } : Jvm.MethodName)) ∈ lw_good := good_in (List.mem_append_right _ (List.mem_append_right _ (List.mem_append_left _ (List.mem_of_getElem? (i := 185) (l := tables_1_2) rfl)))) rfl
set_option maxHeartbeats 4000000 in
set_option maxRecDepth 100000 in
theorem mCI_167 : (Cond.fieldLink "KindRounds" (83 : Nat) "KindRounds" "plainer" "LKindRounds$Plainer;") ∈ lw_good := good_in (List.mem_append_right _ (List.mem_append_right _ (List.mem_append_left _ (List.mem_of_getElem? (i := 229) (l := tables_1_2) rfl)))) rfl
set_option maxHeartbeats 4000000 in
set_option maxRecDepth 100000 in
theorem mCI_168 : (Cond.classLink "KindRounds" (87 : Nat) "KindRounds$Line") ∈ lw_good := good_in (List.mem_append_right _ (List.mem_append_right _ (List.mem_append_left _ (List.mem_of_getElem? (i := 218) (l := tables_1_2) rfl)))) rfl
set_option maxHeartbeats 4000000 in
set_option maxRecDepth 100000 in
theorem mCI_169 : (Cond.methodLinkNest "KindRounds" (89 : Nat) ({ cls := "KindRounds$Line", name := "<init>", desc := "()V" } : Jvm.MethodName) "KindRounds") ∈ lw_nest := nest_in (List.mem_append_right _ (List.mem_append_right _ (List.mem_append_left _ (List.mem_of_getElem? (i := 219) (l := tables_1_2) rfl)))) rfl
set_option maxHeartbeats 4000000 in
set_option maxRecDepth 100000 in
theorem mCI_170 : (Cond.fieldLink "KindRounds" (90 : Nat) "KindRounds" "shown" "LKindRounds$Line;") ∈ lw_good := good_in (List.mem_append_right _ (List.mem_append_right _ (List.mem_append_left _ (List.mem_of_getElem? (i := 230) (l := tables_1_2) rfl)))) rfl
set_option maxHeartbeats 4000000 in
set_option maxRecDepth 100000 in
theorem mCI_171 : (Cond.fieldLink "KindRounds" (94 : Nat) "KindRounds" "spare" "LKindRounds$Line;") ∈ lw_good := good_in (List.mem_append_right _ (List.mem_append_right _ (List.mem_append_left _ (List.mem_of_getElem? (i := 231) (l := tables_1_2) rfl)))) rfl
set_option maxHeartbeats 4000000 in
set_option maxRecDepth 100000 in
theorem mCI_172 : (Cond.code ({ cls := "KindRounds", name := "<init>", desc := "()V" } : Jvm.MethodName) prog_1_method_1_code (1 : Nat) (Option.none : Option Jvm.ClassFile.FieldType)) ∈ lw_good := good_in (List.mem_append_right _ (List.mem_append_left _ (List.mem_of_getElem? (i := 26) (l := tables_1_1) rfl))) rfl
set_option maxHeartbeats 4000000 in
set_option maxRecDepth 100000 in
theorem mCI_173 : (Cond.initialized "KindRounds") ∈ lw_good := good_in (List.mem_append_right _ (List.mem_append_left _ (List.mem_of_getElem? (i := 1) (l := tables_1_1) rfl))) rfl
theorem km_Li_init : kM y_Li_init bc_Li_init 1 none 0 := ⟨mCI_5, mCI_6, by decide, by decide, by decide⟩
theorem km_Ro_init : kM y_Ro_init bc_Ro_init 1 none 0 := ⟨mCI_16, mCI_17, by decide, by decide, by decide⟩
theorem km_Ta_init : kM y_Ta_init bc_Ta_init 1 none 0 := ⟨mCI_23, mCI_24, by decide, by decide, by decide⟩
theorem km_Fa_init : kM y_Fa_init bc_Fa_init 1 none 0 := ⟨mCI_32, mCI_33, by decide, by decide, by decide⟩
theorem km_Ki_init : kM y_Ki_init bc_Ki_init 1 none 0 := ⟨mCI_43, mCI_44, by decide, by decide, by decide⟩
theorem km_Te_init : kM y_Te_init bc_Te_init 1 none 0 := ⟨mCI_65, mCI_66, by decide, by decide, by decide⟩
theorem km_Me_init : kM y_Me_init bc_Me_init 1 none 0 := ⟨mCI_73, mCI_74, by decide, by decide, by decide⟩
theorem km_Pa_init : kM y_Pa_init bc_Pa_init 6 none 5 := ⟨mCI_83, mCI_84, by decide, by decide, by decide⟩
theorem km_Ch_init : kM y_Ch_init bc_Ch_init 4 none 3 := ⟨mCI_90, mCI_91, by decide, by decide, by decide⟩
theorem km_So_init : kM y_So_init bc_So_init 5 none 4 := ⟨mCI_105, mCI_106, by decide, by decide, by decide⟩
theorem km_Pl_init : kM y_Pl_init bc_Pl_init 2 none 1 := ⟨mCI_117, mCI_118, by decide, by decide, by decide⟩
theorem km_Q_init : kM y_Q_init bc_Q_init 1 none 0 := ⟨mCI_172, mCI_173, by decide, by decide, by decide⟩
theorem ks_1201 : (Int16.ofInt 1201).toInt32 = (1201 : Int32) := by decide
theorem ks_201 : (Int16.ofInt 201).toInt32 = (201 : Int32) := by decide
theorem ks_3434 : (Int16.ofInt 3434).toInt32 = (3434 : Int32) := by decide
set_option maxHeartbeats 4000000 in
set_option maxRecDepth 100000 in
theorem i_Li_init {l : Launch} {D : va_G} {h : Nat} : kN l D clC y_Li_init bc_Li_init 1 1 1 2400 h [] [(h, .inr (11, [.null, .int 0]))] (fun w t => ∃ (q1 : Nat) (c1 : ClassId), w = [(h, .inr (11, [.ref q1, .int 0])), (q1, .inl (c1, 2400, .inl (fun _ => 0)))] ∧ t = [(c1, .byte)]) := by
  refine kN_of (by decide) rfl (Nat.le_of_ble_eq_true rfl) ?_
  intro p e s m below meth c A C hr hin hAe
  refine y_lv (lv' := [(0, .ref h)]) [0] rfl ?_
  refine y_aload_n (pc := 0) C d_Li_init_0 rfl 0 rfl ?_
  refine y_obj (pc := 1) C mCI_0 mCI_1 mCI_2 (by decide) (by decide) d_Li_init_1 ?_
  refine y_aload_n (pc := 4) C d_Li_init_4 rfl 0 rfl ?_
  refine y_sipush (pc := 5) C d_Li_init_5 ks_2400 ?_
  refine y_newa (pc := 8) (N' := 2400) (a0 := (2400, .inl (fun _ => 0))) C mCI_3 rfl (fun _ => rfl) (by decide) (by decide) (by decide) (Nat.le_of_ble_eq_true rfl) (Nat.le_of_ble_eq_true rfl) d_Li_init_8 (fun q1 c1 => ?_)
  refine y_ws (ws' := [(h, .inr (11, [.null, .int 0])), (q1, .inl (c1, 2400, .inl (fun _ => 0)))]) (tys' := [(c1, .byte)]) rfl rfl ?_
  refine y_putF (pc := 10) (q0 := 0) (v := .ref q1) (ty := .array .byte) (ws' := [(h, .inr (11, [.ref q1, .int 0])), (q1, .inl (c1, 2400, .inl (fun _ => 0)))]) C hin 0 mCI_4 i_Li t_Li t_Li_ok n_Li rfl rfl (Nat.le_of_ble_eq_true rfl) rfl rfl rfl rfl rfl rfl (Nat.le_of_ble_eq_true rfl) rfl d_Li_init_10 ?_
  refine y_ret (pc := 13) C hr ?_ ?_ ?_ d_Li_init_13
  · exact Nat.le_of_ble_eq_true rfl
  · exact Nat.le_of_ble_eq_true rfl
  · exact ⟨q1, c1, rfl, rfl⟩
set_option maxHeartbeats 4000000 in
set_option maxRecDepth 100000 in
theorem i_Ro_init {l : Launch} {D : va_G} {h : Nat} : kN l D clC y_Ro_init bc_Ro_init 1 1 6 1202 h [] [(h, .inr (10, [.null, .null, .null, .null, .int 0, .null, .null, .int 0]))] (fun w t => ∃ (q1 : Nat) (c1 : ClassId) (q2 : Nat) (c2 : ClassId) (q3 : Nat) (c3 : ClassId) (q4 : Nat) (c4 : ClassId) (q5 : Nat) (c5 : ClassId) (q6 : Nat) (c6 : ClassId), w = [(h, .inr (10, [.ref q1, .ref q2, .ref q3, .ref q4, .int 0, .ref q5, .ref q6, .int 0])), (q1, .inl (c1, 200, .inl (fun _ => 0))), (q2, .inl (c2, 200, .inr (.inl (fun _ => 0)))), (q3, .inl (c3, 200, .inl (fun _ => 0))), (q4, .inl (c4, 200, .inl (fun _ => 0))), (q5, .inl (c5, 201, .inl (fun _ => 0))), (q6, .inl (c6, 201, .inl (fun _ => 0)))] ∧ t = [(c1, .int), (c2, .long), (c3, .int), (c4, .int), (c5, .int), (c6, .int)]) := by
  refine kN_of (by decide) rfl (Nat.le_of_ble_eq_true rfl) ?_
  intro p e s m below meth c A C hr hin hAe
  refine y_lv (lv' := [(0, .ref h)]) [0] rfl ?_
  refine y_aload_n (pc := 0) C d_Ro_init_0 rfl 0 rfl ?_
  refine y_obj (pc := 1) C mCI_7 mCI_1 mCI_2 (by decide) (by decide) d_Ro_init_1 ?_
  refine y_aload_n (pc := 4) C d_Ro_init_4 rfl 0 rfl ?_
  refine y_sipush (pc := 5) C d_Ro_init_5 ks_200 ?_
  refine y_newa (pc := 8) (N' := 200) (a0 := (200, .inl (fun _ => 0))) C mCI_8 rfl (fun _ => rfl) (by decide) (by decide) (by decide) (Nat.le_of_ble_eq_true rfl) (Nat.le_of_ble_eq_true rfl) d_Ro_init_8 (fun q1 c1 => ?_)
  refine y_ws (ws' := [(h, .inr (10, [.null, .null, .null, .null, .int 0, .null, .null, .int 0])), (q1, .inl (c1, 200, .inl (fun _ => 0)))]) (tys' := [(c1, .int)]) rfl rfl ?_
  refine y_putF (pc := 10) (q0 := 0) (v := .ref q1) (ty := .array .int) (ws' := [(h, .inr (10, [.ref q1, .null, .null, .null, .int 0, .null, .null, .int 0])), (q1, .inl (c1, 200, .inl (fun _ => 0)))]) C hin 0 mCI_9 i_Ro t_Ro t_Ro_ok n_Ro rfl rfl (Nat.le_of_ble_eq_true rfl) rfl rfl rfl rfl rfl rfl (Nat.le_of_ble_eq_true rfl) rfl d_Ro_init_10 ?_
  refine y_aload_n (pc := 13) C d_Ro_init_13 rfl 0 rfl ?_
  refine y_sipush (pc := 14) C d_Ro_init_14 ks_200 ?_
  refine y_newa (pc := 17) (N' := 200) (a0 := (200, .inr (.inl (fun _ => 0)))) C mCI_10 rfl (fun _ => rfl) (by decide) (by decide) (by decide) (Nat.le_of_ble_eq_true rfl) (Nat.le_of_ble_eq_true rfl) d_Ro_init_17 (fun q2 c2 => ?_)
  refine y_ws (ws' := [(h, .inr (10, [.ref q1, .null, .null, .null, .int 0, .null, .null, .int 0])), (q1, .inl (c1, 200, .inl (fun _ => 0))), (q2, .inl (c2, 200, .inr (.inl (fun _ => 0))))]) (tys' := [(c1, .int), (c2, .long)]) rfl rfl ?_
  refine y_putF (pc := 19) (q0 := 0) (v := .ref q2) (ty := .array .long) (ws' := [(h, .inr (10, [.ref q1, .ref q2, .null, .null, .int 0, .null, .null, .int 0])), (q1, .inl (c1, 200, .inl (fun _ => 0))), (q2, .inl (c2, 200, .inr (.inl (fun _ => 0))))]) C hin 1 mCI_11 i_Ro t_Ro t_Ro_ok n_Ro rfl rfl (Nat.le_of_ble_eq_true rfl) rfl rfl rfl rfl rfl rfl (Nat.le_of_ble_eq_true rfl) rfl d_Ro_init_19 ?_
  refine y_aload_n (pc := 22) C d_Ro_init_22 rfl 0 rfl ?_
  refine y_sipush (pc := 23) C d_Ro_init_23 ks_200 ?_
  refine y_newa (pc := 26) (N' := 200) (a0 := (200, .inl (fun _ => 0))) C mCI_8 rfl (fun _ => rfl) (by decide) (by decide) (by decide) (Nat.le_of_ble_eq_true rfl) (Nat.le_of_ble_eq_true rfl) d_Ro_init_26 (fun q3 c3 => ?_)
  refine y_ws (ws' := [(h, .inr (10, [.ref q1, .ref q2, .null, .null, .int 0, .null, .null, .int 0])), (q1, .inl (c1, 200, .inl (fun _ => 0))), (q2, .inl (c2, 200, .inr (.inl (fun _ => 0)))), (q3, .inl (c3, 200, .inl (fun _ => 0)))]) (tys' := [(c1, .int), (c2, .long), (c3, .int)]) rfl rfl ?_
  refine y_putF (pc := 28) (q0 := 0) (v := .ref q3) (ty := .array .int) (ws' := [(h, .inr (10, [.ref q1, .ref q2, .ref q3, .null, .int 0, .null, .null, .int 0])), (q1, .inl (c1, 200, .inl (fun _ => 0))), (q2, .inl (c2, 200, .inr (.inl (fun _ => 0)))), (q3, .inl (c3, 200, .inl (fun _ => 0)))]) C hin 2 mCI_12 i_Ro t_Ro t_Ro_ok n_Ro rfl rfl (Nat.le_of_ble_eq_true rfl) rfl rfl rfl rfl rfl rfl (Nat.le_of_ble_eq_true rfl) rfl d_Ro_init_28 ?_
  refine y_aload_n (pc := 31) C d_Ro_init_31 rfl 0 rfl ?_
  refine y_sipush (pc := 32) C d_Ro_init_32 ks_200 ?_
  refine y_newa (pc := 35) (N' := 200) (a0 := (200, .inl (fun _ => 0))) C mCI_8 rfl (fun _ => rfl) (by decide) (by decide) (by decide) (Nat.le_of_ble_eq_true rfl) (Nat.le_of_ble_eq_true rfl) d_Ro_init_35 (fun q4 c4 => ?_)
  refine y_ws (ws' := [(h, .inr (10, [.ref q1, .ref q2, .ref q3, .null, .int 0, .null, .null, .int 0])), (q1, .inl (c1, 200, .inl (fun _ => 0))), (q2, .inl (c2, 200, .inr (.inl (fun _ => 0)))), (q3, .inl (c3, 200, .inl (fun _ => 0))), (q4, .inl (c4, 200, .inl (fun _ => 0)))]) (tys' := [(c1, .int), (c2, .long), (c3, .int), (c4, .int)]) rfl rfl ?_
  refine y_putF (pc := 37) (q0 := 0) (v := .ref q4) (ty := .array .int) (ws' := [(h, .inr (10, [.ref q1, .ref q2, .ref q3, .ref q4, .int 0, .null, .null, .int 0])), (q1, .inl (c1, 200, .inl (fun _ => 0))), (q2, .inl (c2, 200, .inr (.inl (fun _ => 0)))), (q3, .inl (c3, 200, .inl (fun _ => 0))), (q4, .inl (c4, 200, .inl (fun _ => 0)))]) C hin 3 mCI_13 i_Ro t_Ro t_Ro_ok n_Ro rfl rfl (Nat.le_of_ble_eq_true rfl) rfl rfl rfl rfl rfl rfl (Nat.le_of_ble_eq_true rfl) rfl d_Ro_init_37 ?_
  refine y_aload_n (pc := 40) C d_Ro_init_40 rfl 0 rfl ?_
  refine y_sipush (pc := 41) C d_Ro_init_41 ks_201 ?_
  refine y_newa (pc := 44) (N' := 201) (a0 := (201, .inl (fun _ => 0))) C mCI_8 rfl (fun _ => rfl) (by decide) (by decide) (by decide) (Nat.le_of_ble_eq_true rfl) (Nat.le_of_ble_eq_true rfl) d_Ro_init_44 (fun q5 c5 => ?_)
  refine y_ws (ws' := [(h, .inr (10, [.ref q1, .ref q2, .ref q3, .ref q4, .int 0, .null, .null, .int 0])), (q1, .inl (c1, 200, .inl (fun _ => 0))), (q2, .inl (c2, 200, .inr (.inl (fun _ => 0)))), (q3, .inl (c3, 200, .inl (fun _ => 0))), (q4, .inl (c4, 200, .inl (fun _ => 0))), (q5, .inl (c5, 201, .inl (fun _ => 0)))]) (tys' := [(c1, .int), (c2, .long), (c3, .int), (c4, .int), (c5, .int)]) rfl rfl ?_
  refine y_putF (pc := 46) (q0 := 0) (v := .ref q5) (ty := .array .int) (ws' := [(h, .inr (10, [.ref q1, .ref q2, .ref q3, .ref q4, .int 0, .ref q5, .null, .int 0])), (q1, .inl (c1, 200, .inl (fun _ => 0))), (q2, .inl (c2, 200, .inr (.inl (fun _ => 0)))), (q3, .inl (c3, 200, .inl (fun _ => 0))), (q4, .inl (c4, 200, .inl (fun _ => 0))), (q5, .inl (c5, 201, .inl (fun _ => 0)))]) C hin 5 mCI_14 i_Ro t_Ro t_Ro_ok n_Ro rfl rfl (Nat.le_of_ble_eq_true rfl) rfl rfl rfl rfl rfl rfl (Nat.le_of_ble_eq_true rfl) rfl d_Ro_init_46 ?_
  refine y_aload_n (pc := 49) C d_Ro_init_49 rfl 0 rfl ?_
  refine y_sipush (pc := 50) C d_Ro_init_50 ks_201 ?_
  refine y_newa (pc := 53) (N' := 201) (a0 := (201, .inl (fun _ => 0))) C mCI_8 rfl (fun _ => rfl) (by decide) (by decide) (by decide) (Nat.le_of_ble_eq_true rfl) (Nat.le_of_ble_eq_true rfl) d_Ro_init_53 (fun q6 c6 => ?_)
  refine y_ws (ws' := [(h, .inr (10, [.ref q1, .ref q2, .ref q3, .ref q4, .int 0, .ref q5, .null, .int 0])), (q1, .inl (c1, 200, .inl (fun _ => 0))), (q2, .inl (c2, 200, .inr (.inl (fun _ => 0)))), (q3, .inl (c3, 200, .inl (fun _ => 0))), (q4, .inl (c4, 200, .inl (fun _ => 0))), (q5, .inl (c5, 201, .inl (fun _ => 0))), (q6, .inl (c6, 201, .inl (fun _ => 0)))]) (tys' := [(c1, .int), (c2, .long), (c3, .int), (c4, .int), (c5, .int), (c6, .int)]) rfl rfl ?_
  refine y_putF (pc := 55) (q0 := 0) (v := .ref q6) (ty := .array .int) (ws' := [(h, .inr (10, [.ref q1, .ref q2, .ref q3, .ref q4, .int 0, .ref q5, .ref q6, .int 0])), (q1, .inl (c1, 200, .inl (fun _ => 0))), (q2, .inl (c2, 200, .inr (.inl (fun _ => 0)))), (q3, .inl (c3, 200, .inl (fun _ => 0))), (q4, .inl (c4, 200, .inl (fun _ => 0))), (q5, .inl (c5, 201, .inl (fun _ => 0))), (q6, .inl (c6, 201, .inl (fun _ => 0)))]) C hin 6 mCI_15 i_Ro t_Ro t_Ro_ok n_Ro rfl rfl (Nat.le_of_ble_eq_true rfl) rfl rfl rfl rfl rfl rfl (Nat.le_of_ble_eq_true rfl) rfl d_Ro_init_55 ?_
  refine y_ret (pc := 58) C hr ?_ ?_ ?_ d_Ro_init_58
  · exact Nat.le_of_ble_eq_true rfl
  · exact Nat.le_of_ble_eq_true rfl
  · exact ⟨q1, c1, q2, c2, q3, c3, q4, c4, q5, c5, q6, c6, rfl, rfl⟩
set_option maxHeartbeats 4000000 in
set_option maxRecDepth 100000 in
theorem i_Ta_init {l : Launch} {D : va_G} {h : Nat} : kN l D clC y_Ta_init bc_Ta_init 1 1 4 4803 h [] [(h, .inr (1, [.null, .int 0, .null, .null, .null, .int 0, .int 0]))] (fun w t => ∃ (q1 : Nat) (c1 : ClassId) (q2 : Nat) (c2 : ClassId) (q3 : Nat) (c3 : ClassId) (q4 : Nat) (c4 : ClassId), w = [(h, .inr (1, [.ref q1, .int 0, .ref q2, .ref q3, .ref q4, .int 0, .int 0])), (q1, .inl (c1, 1200, .inl (fun _ => 0))), (q2, .inl (c2, 1201, .inl (fun _ => 0))), (q3, .inl (c3, 1201, .inr (.inl (fun _ => 0)))), (q4, .inl (c4, 1201, .inl (fun _ => 0)))] ∧ t = [(c1, .int), (c2, .int), (c3, .long), (c4, .int)]) := by
  refine kN_of (by decide) rfl (Nat.le_of_ble_eq_true rfl) ?_
  intro p e s m below meth c A C hr hin hAe
  refine y_lv (lv' := [(0, .ref h)]) [0] rfl ?_
  refine y_aload_n (pc := 0) C d_Ta_init_0 rfl 0 rfl ?_
  refine y_obj (pc := 1) C mCI_18 mCI_1 mCI_2 (by decide) (by decide) d_Ta_init_1 ?_
  refine y_aload_n (pc := 4) C d_Ta_init_4 rfl 0 rfl ?_
  refine y_sipush (pc := 5) C d_Ta_init_5 ks_1200 ?_
  refine y_newa (pc := 8) (N' := 1200) (a0 := (1200, .inl (fun _ => 0))) C mCI_8 rfl (fun _ => rfl) (by decide) (by decide) (by decide) (Nat.le_of_ble_eq_true rfl) (Nat.le_of_ble_eq_true rfl) d_Ta_init_8 (fun q1 c1 => ?_)
  refine y_ws (ws' := [(h, .inr (1, [.null, .int 0, .null, .null, .null, .int 0, .int 0])), (q1, .inl (c1, 1200, .inl (fun _ => 0)))]) (tys' := [(c1, .int)]) rfl rfl ?_
  refine y_putF (pc := 10) (q0 := 0) (v := .ref q1) (ty := .array .int) (ws' := [(h, .inr (1, [.ref q1, .int 0, .null, .null, .null, .int 0, .int 0])), (q1, .inl (c1, 1200, .inl (fun _ => 0)))]) C hin 0 mCI_19 i_Ta t_Ta t_Ta_ok n_Ta rfl rfl (Nat.le_of_ble_eq_true rfl) rfl rfl rfl rfl rfl rfl (Nat.le_of_ble_eq_true rfl) rfl d_Ta_init_10 ?_
  refine y_aload_n (pc := 13) C d_Ta_init_13 rfl 0 rfl ?_
  refine y_sipush (pc := 14) C d_Ta_init_14 ks_1201 ?_
  refine y_newa (pc := 17) (N' := 1201) (a0 := (1201, .inl (fun _ => 0))) C mCI_8 rfl (fun _ => rfl) (by decide) (by decide) (by decide) (Nat.le_of_ble_eq_true rfl) (Nat.le_of_ble_eq_true rfl) d_Ta_init_17 (fun q2 c2 => ?_)
  refine y_ws (ws' := [(h, .inr (1, [.ref q1, .int 0, .null, .null, .null, .int 0, .int 0])), (q1, .inl (c1, 1200, .inl (fun _ => 0))), (q2, .inl (c2, 1201, .inl (fun _ => 0)))]) (tys' := [(c1, .int), (c2, .int)]) rfl rfl ?_
  refine y_putF (pc := 19) (q0 := 0) (v := .ref q2) (ty := .array .int) (ws' := [(h, .inr (1, [.ref q1, .int 0, .ref q2, .null, .null, .int 0, .int 0])), (q1, .inl (c1, 1200, .inl (fun _ => 0))), (q2, .inl (c2, 1201, .inl (fun _ => 0)))]) C hin 2 mCI_20 i_Ta t_Ta t_Ta_ok n_Ta rfl rfl (Nat.le_of_ble_eq_true rfl) rfl rfl rfl rfl rfl rfl (Nat.le_of_ble_eq_true rfl) rfl d_Ta_init_19 ?_
  refine y_aload_n (pc := 22) C d_Ta_init_22 rfl 0 rfl ?_
  refine y_sipush (pc := 23) C d_Ta_init_23 ks_1201 ?_
  refine y_newa (pc := 26) (N' := 1201) (a0 := (1201, .inr (.inl (fun _ => 0)))) C mCI_10 rfl (fun _ => rfl) (by decide) (by decide) (by decide) (Nat.le_of_ble_eq_true rfl) (Nat.le_of_ble_eq_true rfl) d_Ta_init_26 (fun q3 c3 => ?_)
  refine y_ws (ws' := [(h, .inr (1, [.ref q1, .int 0, .ref q2, .null, .null, .int 0, .int 0])), (q1, .inl (c1, 1200, .inl (fun _ => 0))), (q2, .inl (c2, 1201, .inl (fun _ => 0))), (q3, .inl (c3, 1201, .inr (.inl (fun _ => 0))))]) (tys' := [(c1, .int), (c2, .int), (c3, .long)]) rfl rfl ?_
  refine y_putF (pc := 28) (q0 := 0) (v := .ref q3) (ty := .array .long) (ws' := [(h, .inr (1, [.ref q1, .int 0, .ref q2, .ref q3, .null, .int 0, .int 0])), (q1, .inl (c1, 1200, .inl (fun _ => 0))), (q2, .inl (c2, 1201, .inl (fun _ => 0))), (q3, .inl (c3, 1201, .inr (.inl (fun _ => 0))))]) C hin 3 mCI_21 i_Ta t_Ta t_Ta_ok n_Ta rfl rfl (Nat.le_of_ble_eq_true rfl) rfl rfl rfl rfl rfl rfl (Nat.le_of_ble_eq_true rfl) rfl d_Ta_init_28 ?_
  refine y_aload_n (pc := 31) C d_Ta_init_31 rfl 0 rfl ?_
  refine y_sipush (pc := 32) C d_Ta_init_32 ks_1201 ?_
  refine y_newa (pc := 35) (N' := 1201) (a0 := (1201, .inl (fun _ => 0))) C mCI_8 rfl (fun _ => rfl) (by decide) (by decide) (by decide) (Nat.le_of_ble_eq_true rfl) (Nat.le_of_ble_eq_true rfl) d_Ta_init_35 (fun q4 c4 => ?_)
  refine y_ws (ws' := [(h, .inr (1, [.ref q1, .int 0, .ref q2, .ref q3, .null, .int 0, .int 0])), (q1, .inl (c1, 1200, .inl (fun _ => 0))), (q2, .inl (c2, 1201, .inl (fun _ => 0))), (q3, .inl (c3, 1201, .inr (.inl (fun _ => 0)))), (q4, .inl (c4, 1201, .inl (fun _ => 0)))]) (tys' := [(c1, .int), (c2, .int), (c3, .long), (c4, .int)]) rfl rfl ?_
  refine y_putF (pc := 37) (q0 := 0) (v := .ref q4) (ty := .array .int) (ws' := [(h, .inr (1, [.ref q1, .int 0, .ref q2, .ref q3, .ref q4, .int 0, .int 0])), (q1, .inl (c1, 1200, .inl (fun _ => 0))), (q2, .inl (c2, 1201, .inl (fun _ => 0))), (q3, .inl (c3, 1201, .inr (.inl (fun _ => 0)))), (q4, .inl (c4, 1201, .inl (fun _ => 0)))]) C hin 4 mCI_22 i_Ta t_Ta t_Ta_ok n_Ta rfl rfl (Nat.le_of_ble_eq_true rfl) rfl rfl rfl rfl rfl rfl (Nat.le_of_ble_eq_true rfl) rfl d_Ta_init_37 ?_
  refine y_ret (pc := 40) C hr ?_ ?_ ?_ d_Ta_init_40
  · exact Nat.le_of_ble_eq_true rfl
  · exact Nat.le_of_ble_eq_true rfl
  · exact ⟨q1, c1, q2, c2, q3, c3, q4, c4, rfl, rfl⟩
set_option maxHeartbeats 4000000 in
set_option maxRecDepth 100000 in
theorem i_Fa_init {l : Launch} {D : va_G} {h : Nat} : kN l D clC y_Fa_init bc_Fa_init 1 2 4 4804 h [] [(h, .inr (2, [.int 0, .int 0, .null, .null]))] (fun w t => ∃ (q1 : Nat) (w1_q1 : Nat) (w1_c1 : ClassId) (q3 : Nat) (w3_q1 : Nat) (w3_c1 : ClassId), w = [(h, .inr (2, [.int 0, .int 0, .ref q1, .ref q3])), (q1, .inr (11, [.ref w1_q1, .int 0])), (w1_q1, .inl (w1_c1, 2400, .inl (fun _ => 0))), (q3, .inr (11, [.ref w3_q1, .int 0])), (w3_q1, .inl (w3_c1, 2400, .inl (fun _ => 0)))] ∧ t = [(w1_c1, .byte), (w3_c1, .byte)]) := by
  refine kN_of (by decide) rfl (Nat.le_of_ble_eq_true rfl) ?_
  intro p e s m below meth c A C hr hin hAe
  refine y_lv (lv' := [(0, .ref h)]) [0] rfl ?_
  refine y_aload_n (pc := 0) C d_Fa_init_0 rfl 0 rfl ?_
  refine y_obj (pc := 1) C mCI_25 mCI_1 mCI_2 (by decide) (by decide) d_Fa_init_1 ?_
  refine y_aload_n (pc := 4) C d_Fa_init_4 rfl 0 rfl ?_
  refine y_new (pc := 5) (ci := 11) (fs := [.null, .int 0]) C i_Li t_Li t_Li_ok mCI_26 mCI_27 mCI_6 rfl df_Li (Nat.le_of_ble_eq_true rfl) (Nat.le_of_ble_eq_true rfl) d_Fa_init_5 (fun q1 => ?_)
  refine y_ws (ws' := [(h, .inr (2, [.int 0, .int 0, .null, .null])), (q1, .inr (11, [.null, .int 0]))]) (tys' := []) rfl rfl ?_
  refine y_dup (pc := 8) C d_Fa_init_8 rfl ?_
  refine y_ctor (pc := 9) (wc := [(q1, .inr (11, [.null, .int 0]))]) (wr := [(h, .inr (2, [.int 0, .int 0, .null, .null]))]) C (i_Li_init (h := q1)) km_Li_init mCI_29 rfl mCI_28 [1] [0] rfl rfl rfl rfl rfl (by decide) rfl (rmN_of (Nat.le_of_ble_eq_true rfl) (Nat.le_of_ble_eq_true rfl)) ⟨Nat.le_of_ble_eq_true rfl, Nat.le_of_ble_eq_true rfl⟩ rfl (Nat.le_of_ble_eq_true rfl) d_Fa_init_9 (fun w t hwt => ?_)
  obtain ⟨w1_q1, w1_c1, rfl, rfl⟩ := hwt
  refine y_ws (ws' := [(h, .inr (2, [.int 0, .int 0, .null, .null])), (q1, .inr (11, [.ref w1_q1, .int 0])), (w1_q1, .inl (w1_c1, 2400, .inl (fun _ => 0)))]) (tys' := [(w1_c1, .byte)]) rfl rfl ?_
  refine y_putF (pc := 12) (q0 := 0) (v := .ref q1) (ty := .object "KindRounds$Line") (ws' := [(h, .inr (2, [.int 0, .int 0, .ref q1, .null])), (q1, .inr (11, [.ref w1_q1, .int 0])), (w1_q1, .inl (w1_c1, 2400, .inl (fun _ => 0)))]) C hin 2 mCI_30 i_Fa t_Fa t_Fa_ok n_Fa rfl rfl (Nat.le_of_ble_eq_true rfl) rfl rfl rfl rfl rfl rfl (Nat.le_of_ble_eq_true rfl) rfl d_Fa_init_12 ?_
  refine y_aload_n (pc := 15) C d_Fa_init_15 rfl 0 rfl ?_
  refine y_new (pc := 16) (ci := 11) (fs := [.null, .int 0]) C i_Li t_Li t_Li_ok mCI_26 mCI_27 mCI_6 rfl df_Li (Nat.le_of_ble_eq_true rfl) (Nat.le_of_ble_eq_true rfl) d_Fa_init_16 (fun q3 => ?_)
  refine y_ws (ws' := [(h, .inr (2, [.int 0, .int 0, .ref q1, .null])), (q1, .inr (11, [.ref w1_q1, .int 0])), (w1_q1, .inl (w1_c1, 2400, .inl (fun _ => 0))), (q3, .inr (11, [.null, .int 0]))]) (tys' := [(w1_c1, .byte)]) rfl rfl ?_
  refine y_dup (pc := 19) C d_Fa_init_19 rfl ?_
  refine y_ctor (pc := 20) (wc := [(q3, .inr (11, [.null, .int 0]))]) (wr := [(h, .inr (2, [.int 0, .int 0, .ref q1, .null])), (q1, .inr (11, [.ref w1_q1, .int 0])), (w1_q1, .inl (w1_c1, 2400, .inl (fun _ => 0)))]) C (i_Li_init (h := q3)) km_Li_init mCI_29 rfl mCI_28 [3] [0, 1, 2] rfl rfl rfl rfl rfl (by decide) rfl (rmN_of (Nat.le_of_ble_eq_true rfl) (Nat.le_of_ble_eq_true rfl)) ⟨Nat.le_of_ble_eq_true rfl, Nat.le_of_ble_eq_true rfl⟩ rfl (Nat.le_of_ble_eq_true rfl) d_Fa_init_20 (fun w t hwt => ?_)
  obtain ⟨w3_q1, w3_c1, rfl, rfl⟩ := hwt
  refine y_ws (ws' := [(h, .inr (2, [.int 0, .int 0, .ref q1, .null])), (q1, .inr (11, [.ref w1_q1, .int 0])), (w1_q1, .inl (w1_c1, 2400, .inl (fun _ => 0))), (q3, .inr (11, [.ref w3_q1, .int 0])), (w3_q1, .inl (w3_c1, 2400, .inl (fun _ => 0)))]) (tys' := [(w1_c1, .byte), (w3_c1, .byte)]) rfl rfl ?_
  refine y_putF (pc := 23) (q0 := 0) (v := .ref q3) (ty := .object "KindRounds$Line") (ws' := [(h, .inr (2, [.int 0, .int 0, .ref q1, .ref q3])), (q1, .inr (11, [.ref w1_q1, .int 0])), (w1_q1, .inl (w1_c1, 2400, .inl (fun _ => 0))), (q3, .inr (11, [.ref w3_q1, .int 0])), (w3_q1, .inl (w3_c1, 2400, .inl (fun _ => 0)))]) C hin 3 mCI_31 i_Fa t_Fa t_Fa_ok n_Fa rfl rfl (Nat.le_of_ble_eq_true rfl) rfl rfl rfl rfl rfl rfl (Nat.le_of_ble_eq_true rfl) rfl d_Fa_init_23 ?_
  refine y_ret (pc := 26) C hr ?_ ?_ ?_ d_Fa_init_26
  · exact Nat.le_of_ble_eq_true rfl
  · exact Nat.le_of_ble_eq_true rfl
  · exact ⟨q1, w1_q1, w1_c1, q3, w3_q1, w3_c1, rfl, rfl⟩
set_option maxHeartbeats 4000000 in
set_option maxRecDepth 100000 in
theorem i_Ki_init {l : Launch} {D : va_G} {h : Nat} : kN l D clC y_Ki_init bc_Ki_init 1 1 6 11999 h [] [(h, .inr (3, [.null, .null, .null, .null, .null, .null, .int 0, .int 0, .int 0, .int 0, .int 0]))] (fun w t => ∃ (q1 : Nat) (c1 : ClassId) (q2 : Nat) (c2 : ClassId) (q3 : Nat) (c3 : ClassId) (q4 : Nat) (c4 : ClassId) (q5 : Nat) (c5 : ClassId) (q6 : Nat) (c6 : ClassId), w = [(h, .inr (3, [.ref q1, .ref q2, .ref q3, .ref q4, .ref q5, .ref q6, .int (1 : Int32), .int (1 : Int32), .int 0, .int 0, .int 0])), (q1, .inl (c1, 1713, .inl (fun _ => 0))), (q2, .inl (c2, 1713, .inl (fun _ => 0))), (q3, .inl (c3, 1713, .inl (upd (fun _ => 0) 0 (-1 : Int32)))), (q4, .inl (c4, 1713, .inl (fun _ => 0))), (q5, .inl (c5, 1713, .inl (fun _ => 0))), (q6, .inl (c6, 3434, .inl (fun _ => 0)))] ∧ t = [(c1, .int), (c2, .int), (c3, .int), (c4, .int), (c5, .int), (c6, .int)]) := by
  refine kN_of (by decide) rfl (Nat.le_of_ble_eq_true rfl) ?_
  intro p e s m below meth c A C hr hin hAe
  refine y_lv (lv' := [(0, .ref h)]) [0] rfl ?_
  refine y_aload_n (pc := 0) C d_Ki_init_0 rfl 0 rfl ?_
  refine y_obj (pc := 1) C mCI_34 mCI_1 mCI_2 (by decide) (by decide) d_Ki_init_1 ?_
  refine y_aload_n (pc := 4) C d_Ki_init_4 rfl 0 rfl ?_
  refine y_sipush (pc := 5) C d_Ki_init_5 ks_1713 ?_
  refine y_newa (pc := 8) (N' := 1713) (a0 := (1713, .inl (fun _ => 0))) C mCI_8 rfl (fun _ => rfl) (by decide) (by decide) (by decide) (Nat.le_of_ble_eq_true rfl) (Nat.le_of_ble_eq_true rfl) d_Ki_init_8 (fun q1 c1 => ?_)
  refine y_ws (ws' := [(h, .inr (3, [.null, .null, .null, .null, .null, .null, .int 0, .int 0, .int 0, .int 0, .int 0])), (q1, .inl (c1, 1713, .inl (fun _ => 0)))]) (tys' := [(c1, .int)]) rfl rfl ?_
  refine y_putF (pc := 10) (q0 := 0) (v := .ref q1) (ty := .array .int) (ws' := [(h, .inr (3, [.ref q1, .null, .null, .null, .null, .null, .int 0, .int 0, .int 0, .int 0, .int 0])), (q1, .inl (c1, 1713, .inl (fun _ => 0)))]) C hin 0 mCI_35 i_Ki t_Ki t_Ki_ok n_Ki rfl rfl (Nat.le_of_ble_eq_true rfl) rfl rfl rfl rfl rfl rfl (Nat.le_of_ble_eq_true rfl) rfl d_Ki_init_10 ?_
  refine y_aload_n (pc := 13) C d_Ki_init_13 rfl 0 rfl ?_
  refine y_sipush (pc := 14) C d_Ki_init_14 ks_1713 ?_
  refine y_newa (pc := 17) (N' := 1713) (a0 := (1713, .inl (fun _ => 0))) C mCI_8 rfl (fun _ => rfl) (by decide) (by decide) (by decide) (Nat.le_of_ble_eq_true rfl) (Nat.le_of_ble_eq_true rfl) d_Ki_init_17 (fun q2 c2 => ?_)
  refine y_ws (ws' := [(h, .inr (3, [.ref q1, .null, .null, .null, .null, .null, .int 0, .int 0, .int 0, .int 0, .int 0])), (q1, .inl (c1, 1713, .inl (fun _ => 0))), (q2, .inl (c2, 1713, .inl (fun _ => 0)))]) (tys' := [(c1, .int), (c2, .int)]) rfl rfl ?_
  refine y_putF (pc := 19) (q0 := 0) (v := .ref q2) (ty := .array .int) (ws' := [(h, .inr (3, [.ref q1, .ref q2, .null, .null, .null, .null, .int 0, .int 0, .int 0, .int 0, .int 0])), (q1, .inl (c1, 1713, .inl (fun _ => 0))), (q2, .inl (c2, 1713, .inl (fun _ => 0)))]) C hin 1 mCI_36 i_Ki t_Ki t_Ki_ok n_Ki rfl rfl (Nat.le_of_ble_eq_true rfl) rfl rfl rfl rfl rfl rfl (Nat.le_of_ble_eq_true rfl) rfl d_Ki_init_19 ?_
  refine y_aload_n (pc := 22) C d_Ki_init_22 rfl 0 rfl ?_
  refine y_sipush (pc := 23) C d_Ki_init_23 ks_1713 ?_
  refine y_newa (pc := 26) (N' := 1713) (a0 := (1713, .inl (fun _ => 0))) C mCI_8 rfl (fun _ => rfl) (by decide) (by decide) (by decide) (Nat.le_of_ble_eq_true rfl) (Nat.le_of_ble_eq_true rfl) d_Ki_init_26 (fun q3 c3 => ?_)
  refine y_ws (ws' := [(h, .inr (3, [.ref q1, .ref q2, .null, .null, .null, .null, .int 0, .int 0, .int 0, .int 0, .int 0])), (q1, .inl (c1, 1713, .inl (fun _ => 0))), (q2, .inl (c2, 1713, .inl (fun _ => 0))), (q3, .inl (c3, 1713, .inl (fun _ => 0)))]) (tys' := [(c1, .int), (c2, .int), (c3, .int)]) rfl rfl ?_
  refine y_putF (pc := 28) (q0 := 0) (v := .ref q3) (ty := .array .int) (ws' := [(h, .inr (3, [.ref q1, .ref q2, .ref q3, .null, .null, .null, .int 0, .int 0, .int 0, .int 0, .int 0])), (q1, .inl (c1, 1713, .inl (fun _ => 0))), (q2, .inl (c2, 1713, .inl (fun _ => 0))), (q3, .inl (c3, 1713, .inl (fun _ => 0)))]) C hin 2 mCI_37 i_Ki t_Ki t_Ki_ok n_Ki rfl rfl (Nat.le_of_ble_eq_true rfl) rfl rfl rfl rfl rfl rfl (Nat.le_of_ble_eq_true rfl) rfl d_Ki_init_28 ?_
  refine y_aload_n (pc := 31) C d_Ki_init_31 rfl 0 rfl ?_
  refine y_sipush (pc := 32) C d_Ki_init_32 ks_1713 ?_
  refine y_newa (pc := 35) (N' := 1713) (a0 := (1713, .inl (fun _ => 0))) C mCI_8 rfl (fun _ => rfl) (by decide) (by decide) (by decide) (Nat.le_of_ble_eq_true rfl) (Nat.le_of_ble_eq_true rfl) d_Ki_init_35 (fun q4 c4 => ?_)
  refine y_ws (ws' := [(h, .inr (3, [.ref q1, .ref q2, .ref q3, .null, .null, .null, .int 0, .int 0, .int 0, .int 0, .int 0])), (q1, .inl (c1, 1713, .inl (fun _ => 0))), (q2, .inl (c2, 1713, .inl (fun _ => 0))), (q3, .inl (c3, 1713, .inl (fun _ => 0))), (q4, .inl (c4, 1713, .inl (fun _ => 0)))]) (tys' := [(c1, .int), (c2, .int), (c3, .int), (c4, .int)]) rfl rfl ?_
  refine y_putF (pc := 37) (q0 := 0) (v := .ref q4) (ty := .array .int) (ws' := [(h, .inr (3, [.ref q1, .ref q2, .ref q3, .ref q4, .null, .null, .int 0, .int 0, .int 0, .int 0, .int 0])), (q1, .inl (c1, 1713, .inl (fun _ => 0))), (q2, .inl (c2, 1713, .inl (fun _ => 0))), (q3, .inl (c3, 1713, .inl (fun _ => 0))), (q4, .inl (c4, 1713, .inl (fun _ => 0)))]) C hin 3 mCI_38 i_Ki t_Ki t_Ki_ok n_Ki rfl rfl (Nat.le_of_ble_eq_true rfl) rfl rfl rfl rfl rfl rfl (Nat.le_of_ble_eq_true rfl) rfl d_Ki_init_37 ?_
  refine y_aload_n (pc := 40) C d_Ki_init_40 rfl 0 rfl ?_
  refine y_sipush (pc := 41) C d_Ki_init_41 ks_1713 ?_
  refine y_newa (pc := 44) (N' := 1713) (a0 := (1713, .inl (fun _ => 0))) C mCI_8 rfl (fun _ => rfl) (by decide) (by decide) (by decide) (Nat.le_of_ble_eq_true rfl) (Nat.le_of_ble_eq_true rfl) d_Ki_init_44 (fun q5 c5 => ?_)
  refine y_ws (ws' := [(h, .inr (3, [.ref q1, .ref q2, .ref q3, .ref q4, .null, .null, .int 0, .int 0, .int 0, .int 0, .int 0])), (q1, .inl (c1, 1713, .inl (fun _ => 0))), (q2, .inl (c2, 1713, .inl (fun _ => 0))), (q3, .inl (c3, 1713, .inl (fun _ => 0))), (q4, .inl (c4, 1713, .inl (fun _ => 0))), (q5, .inl (c5, 1713, .inl (fun _ => 0)))]) (tys' := [(c1, .int), (c2, .int), (c3, .int), (c4, .int), (c5, .int)]) rfl rfl ?_
  refine y_putF (pc := 46) (q0 := 0) (v := .ref q5) (ty := .array .int) (ws' := [(h, .inr (3, [.ref q1, .ref q2, .ref q3, .ref q4, .ref q5, .null, .int 0, .int 0, .int 0, .int 0, .int 0])), (q1, .inl (c1, 1713, .inl (fun _ => 0))), (q2, .inl (c2, 1713, .inl (fun _ => 0))), (q3, .inl (c3, 1713, .inl (fun _ => 0))), (q4, .inl (c4, 1713, .inl (fun _ => 0))), (q5, .inl (c5, 1713, .inl (fun _ => 0)))]) C hin 4 mCI_39 i_Ki t_Ki t_Ki_ok n_Ki rfl rfl (Nat.le_of_ble_eq_true rfl) rfl rfl rfl rfl rfl rfl (Nat.le_of_ble_eq_true rfl) rfl d_Ki_init_46 ?_
  refine y_aload_n (pc := 49) C d_Ki_init_49 rfl 0 rfl ?_
  refine y_sipush (pc := 50) C d_Ki_init_50 ks_3434 ?_
  refine y_newa (pc := 53) (N' := 3434) (a0 := (3434, .inl (fun _ => 0))) C mCI_8 rfl (fun _ => rfl) (by decide) (by decide) (by decide) (Nat.le_of_ble_eq_true rfl) (Nat.le_of_ble_eq_true rfl) d_Ki_init_53 (fun q6 c6 => ?_)
  refine y_ws (ws' := [(h, .inr (3, [.ref q1, .ref q2, .ref q3, .ref q4, .ref q5, .null, .int 0, .int 0, .int 0, .int 0, .int 0])), (q1, .inl (c1, 1713, .inl (fun _ => 0))), (q2, .inl (c2, 1713, .inl (fun _ => 0))), (q3, .inl (c3, 1713, .inl (fun _ => 0))), (q4, .inl (c4, 1713, .inl (fun _ => 0))), (q5, .inl (c5, 1713, .inl (fun _ => 0))), (q6, .inl (c6, 3434, .inl (fun _ => 0)))]) (tys' := [(c1, .int), (c2, .int), (c3, .int), (c4, .int), (c5, .int), (c6, .int)]) rfl rfl ?_
  refine y_putF (pc := 55) (q0 := 0) (v := .ref q6) (ty := .array .int) (ws' := [(h, .inr (3, [.ref q1, .ref q2, .ref q3, .ref q4, .ref q5, .ref q6, .int 0, .int 0, .int 0, .int 0, .int 0])), (q1, .inl (c1, 1713, .inl (fun _ => 0))), (q2, .inl (c2, 1713, .inl (fun _ => 0))), (q3, .inl (c3, 1713, .inl (fun _ => 0))), (q4, .inl (c4, 1713, .inl (fun _ => 0))), (q5, .inl (c5, 1713, .inl (fun _ => 0))), (q6, .inl (c6, 3434, .inl (fun _ => 0)))]) C hin 5 mCI_40 i_Ki t_Ki t_Ki_ok n_Ki rfl rfl (Nat.le_of_ble_eq_true rfl) rfl rfl rfl rfl rfl rfl (Nat.le_of_ble_eq_true rfl) rfl d_Ki_init_55 ?_
  refine y_aload_n (pc := 58) C d_Ki_init_58 rfl 0 rfl ?_
  refine y_get (pc := 59) (q0 := 0) (v := .ref q3) C 2 mCI_37 i_Ki rfl rfl (Nat.le_of_ble_eq_true rfl) rfl rfl d_Ki_init_59 ?_
  refine y_iconst (pc := 62) C d_Ki_init_62 ki_0 ?_
  refine y_iconst (pc := 63) C d_Ki_init_63 ki_m1 ?_
  refine y_iast (pc := 64) (q0 := 3) (t0 := 2) (ws' := [(h, .inr (3, [.ref q1, .ref q2, .ref q3, .ref q4, .ref q5, .ref q6, .int 0, .int 0, .int 0, .int 0, .int 0])), (q1, .inl (c1, 1713, .inl (fun _ => 0))), (q2, .inl (c2, 1713, .inl (fun _ => 0))), (q3, .inl (c3, 1713, .inl (upd (fun _ => 0) 0 (-1 : Int32)))), (q4, .inl (c4, 1713, .inl (fun _ => 0))), (q5, .inl (c5, 1713, .inl (fun _ => 0))), (q6, .inl (c6, 3434, .inl (fun _ => 0)))]) C rfl rfl (by decide) rfl d_Ki_init_64 ?_
  refine y_aload_n (pc := 65) C d_Ki_init_65 rfl 0 rfl ?_
  refine y_iconst (pc := 66) C d_Ki_init_66 ki_1 ?_
  refine y_put (pc := 67) (q0 := 0) (v := .int (1 : Int32)) (ty := .int) (ws' := [(h, .inr (3, [.ref q1, .ref q2, .ref q3, .ref q4, .ref q5, .ref q6, .int (1 : Int32), .int 0, .int 0, .int 0, .int 0])), (q1, .inl (c1, 1713, .inl (fun _ => 0))), (q2, .inl (c2, 1713, .inl (fun _ => 0))), (q3, .inl (c3, 1713, .inl (upd (fun _ => 0) 0 (-1 : Int32)))), (q4, .inl (c4, 1713, .inl (fun _ => 0))), (q5, .inl (c5, 1713, .inl (fun _ => 0))), (q6, .inl (c6, 3434, .inl (fun _ => 0)))]) C 6 mCI_41 i_Ki t_Ki t_Ki_ok n_Ki rfl rfl (Nat.le_of_ble_eq_true rfl) rfl rfl rfl rfl rfl (Nat.le_of_ble_eq_true rfl) rfl d_Ki_init_67 ?_
  refine y_aload_n (pc := 70) C d_Ki_init_70 rfl 0 rfl ?_
  refine y_iconst (pc := 71) C d_Ki_init_71 ki_1 ?_
  refine y_put (pc := 72) (q0 := 0) (v := .int (1 : Int32)) (ty := .int) (ws' := [(h, .inr (3, [.ref q1, .ref q2, .ref q3, .ref q4, .ref q5, .ref q6, .int (1 : Int32), .int (1 : Int32), .int 0, .int 0, .int 0])), (q1, .inl (c1, 1713, .inl (fun _ => 0))), (q2, .inl (c2, 1713, .inl (fun _ => 0))), (q3, .inl (c3, 1713, .inl (upd (fun _ => 0) 0 (-1 : Int32)))), (q4, .inl (c4, 1713, .inl (fun _ => 0))), (q5, .inl (c5, 1713, .inl (fun _ => 0))), (q6, .inl (c6, 3434, .inl (fun _ => 0)))]) C 7 mCI_42 i_Ki t_Ki t_Ki_ok n_Ki rfl rfl (Nat.le_of_ble_eq_true rfl) rfl rfl rfl rfl rfl (Nat.le_of_ble_eq_true rfl) rfl d_Ki_init_72 ?_
  refine y_ret (pc := 75) C hr ?_ ?_ ?_ d_Ki_init_75
  · exact Nat.le_of_ble_eq_true rfl
  · exact Nat.le_of_ble_eq_true rfl
  · exact ⟨q1, c1, q2, c2, q3, c3, q4, c4, q5, c5, q6, c6, rfl, rfl⟩
set_option maxHeartbeats 4000000 in
set_option maxRecDepth 100000 in
theorem i_Te_init {l : Launch} {D : va_G} {h : Nat} : kN l D clC y_Te_init bc_Te_init 1 2 21 1498 h [] [(h, .inr (4, [.int 0, .null, .null, .null, .null, .null, .null, .null, .null, .null, .null, .null, .int 0, .null, .null, .null, .null]))] (fun w t => ∃ (q1 : Nat) (c1 : ClassId) (q2 : Nat) (c2 : ClassId) (q3 : Nat) (c3 : ClassId) (q4 : Nat) (c4 : ClassId) (q5 : Nat) (c5 : ClassId) (q6 : Nat) (c6 : ClassId) (q7 : Nat) (c7 : ClassId) (q8 : Nat) (c8 : ClassId) (q9 : Nat) (c9 : ClassId) (q10 : Nat) (c10 : ClassId) (q11 : Nat) (c11 : ClassId) (q12 : Nat) (c12 : ClassId) (q13 : Nat) (c13 : ClassId) (q14 : Nat) (c14 : ClassId) (q15 : Nat) (w15_q1 : Nat) (w15_c1 : ClassId) (w15_q2 : Nat) (w15_c2 : ClassId) (w15_q3 : Nat) (w15_c3 : ClassId) (w15_q4 : Nat) (w15_c4 : ClassId) (w15_q5 : Nat) (w15_c5 : ClassId) (w15_q6 : Nat) (w15_c6 : ClassId), w = [(h, .inr (4, [.int 0, .ref q1, .ref q2, .ref q3, .ref q4, .ref q5, .ref q6, .ref q7, .ref q8, .ref q9, .ref q10, .ref q11, .int 0, .ref q12, .ref q13, .ref q14, .ref q15])), (q1, .inl (c1, 16, .inl (fun _ => 0))), (q2, .inl (c2, 16, .inr (.inl (fun _ => 0)))), (q3, .inl (c3, 16, .inl (fun _ => 0))), (q4, .inl (c4, 16, .inl (fun _ => 0))), (q5, .inl (c5, 48, .inr (.inl (fun _ => 0)))), (q6, .inl (c6, 16, .inl (fun _ => 0))), (q7, .inl (c7, 16, .inl (fun _ => 0))), (q8, .inl (c8, 16, .inl (fun _ => 0))), (q9, .inl (c9, 16, .inl (fun _ => 0))), (q10, .inl (c10, 16, .inl (fun _ => 0))), (q11, .inl (c11, 16, .inl (fun _ => 0))), (q12, .inl (c12, 16, .inl (fun _ => 0))), (q13, .inl (c13, 48, .inl (fun _ => 0))), (q14, .inl (c14, 16, .inl (fun _ => 0))), (q15, .inr (10, [.ref w15_q1, .ref w15_q2, .ref w15_q3, .ref w15_q4, .int 0, .ref w15_q5, .ref w15_q6, .int 0])), (w15_q1, .inl (w15_c1, 200, .inl (fun _ => 0))), (w15_q2, .inl (w15_c2, 200, .inr (.inl (fun _ => 0)))), (w15_q3, .inl (w15_c3, 200, .inl (fun _ => 0))), (w15_q4, .inl (w15_c4, 200, .inl (fun _ => 0))), (w15_q5, .inl (w15_c5, 201, .inl (fun _ => 0))), (w15_q6, .inl (w15_c6, 201, .inl (fun _ => 0)))] ∧ t = [(c1, .int), (c2, .long), (c3, .int), (c4, .int), (c5, .long), (c6, .int), (c7, .int), (c8, .int), (c9, .int), (c10, .int), (c11, .int), (c12, .int), (c13, .int), (c14, .int), (w15_c1, .int), (w15_c2, .long), (w15_c3, .int), (w15_c4, .int), (w15_c5, .int), (w15_c6, .int)]) := by
  refine kN_of (by decide) rfl (Nat.le_of_ble_eq_true rfl) ?_
  intro p e s m below meth c A C hr hin hAe
  refine y_lv (lv' := [(0, .ref h)]) [0] rfl ?_
  refine y_aload_n (pc := 0) C d_Te_init_0 rfl 0 rfl ?_
  refine y_obj (pc := 1) C mCI_45 mCI_1 mCI_2 (by decide) (by decide) d_Te_init_1 ?_
  refine y_aload_n (pc := 4) C d_Te_init_4 rfl 0 rfl ?_
  refine y_bipush (pc := 5) C d_Te_init_5 kb_16 ?_
  refine y_newa (pc := 7) (N' := 16) (a0 := (16, .inl (fun _ => 0))) C mCI_8 rfl (fun _ => rfl) (by decide) (by decide) (by decide) (Nat.le_of_ble_eq_true rfl) (Nat.le_of_ble_eq_true rfl) d_Te_init_7 (fun q1 c1 => ?_)
  refine y_ws (ws' := [(h, .inr (4, [.int 0, .null, .null, .null, .null, .null, .null, .null, .null, .null, .null, .null, .int 0, .null, .null, .null, .null])), (q1, .inl (c1, 16, .inl (fun _ => 0)))]) (tys' := [(c1, .int)]) rfl rfl ?_
  refine y_putF (pc := 9) (q0 := 0) (v := .ref q1) (ty := .array .int) (ws' := [(h, .inr (4, [.int 0, .ref q1, .null, .null, .null, .null, .null, .null, .null, .null, .null, .null, .int 0, .null, .null, .null, .null])), (q1, .inl (c1, 16, .inl (fun _ => 0)))]) C hin 1 mCI_46 i_Te t_Te t_Te_ok n_Te rfl rfl (Nat.le_of_ble_eq_true rfl) rfl rfl rfl rfl rfl rfl (Nat.le_of_ble_eq_true rfl) rfl d_Te_init_9 ?_
  refine y_aload_n (pc := 12) C d_Te_init_12 rfl 0 rfl ?_
  refine y_bipush (pc := 13) C d_Te_init_13 kb_16 ?_
  refine y_newa (pc := 15) (N' := 16) (a0 := (16, .inr (.inl (fun _ => 0)))) C mCI_10 rfl (fun _ => rfl) (by decide) (by decide) (by decide) (Nat.le_of_ble_eq_true rfl) (Nat.le_of_ble_eq_true rfl) d_Te_init_15 (fun q2 c2 => ?_)
  refine y_ws (ws' := [(h, .inr (4, [.int 0, .ref q1, .null, .null, .null, .null, .null, .null, .null, .null, .null, .null, .int 0, .null, .null, .null, .null])), (q1, .inl (c1, 16, .inl (fun _ => 0))), (q2, .inl (c2, 16, .inr (.inl (fun _ => 0))))]) (tys' := [(c1, .int), (c2, .long)]) rfl rfl ?_
  refine y_putF (pc := 17) (q0 := 0) (v := .ref q2) (ty := .array .long) (ws' := [(h, .inr (4, [.int 0, .ref q1, .ref q2, .null, .null, .null, .null, .null, .null, .null, .null, .null, .int 0, .null, .null, .null, .null])), (q1, .inl (c1, 16, .inl (fun _ => 0))), (q2, .inl (c2, 16, .inr (.inl (fun _ => 0))))]) C hin 2 mCI_47 i_Te t_Te t_Te_ok n_Te rfl rfl (Nat.le_of_ble_eq_true rfl) rfl rfl rfl rfl rfl rfl (Nat.le_of_ble_eq_true rfl) rfl d_Te_init_17 ?_
  refine y_aload_n (pc := 20) C d_Te_init_20 rfl 0 rfl ?_
  refine y_bipush (pc := 21) C d_Te_init_21 kb_16 ?_
  refine y_newa (pc := 23) (N' := 16) (a0 := (16, .inl (fun _ => 0))) C mCI_8 rfl (fun _ => rfl) (by decide) (by decide) (by decide) (Nat.le_of_ble_eq_true rfl) (Nat.le_of_ble_eq_true rfl) d_Te_init_23 (fun q3 c3 => ?_)
  refine y_ws (ws' := [(h, .inr (4, [.int 0, .ref q1, .ref q2, .null, .null, .null, .null, .null, .null, .null, .null, .null, .int 0, .null, .null, .null, .null])), (q1, .inl (c1, 16, .inl (fun _ => 0))), (q2, .inl (c2, 16, .inr (.inl (fun _ => 0)))), (q3, .inl (c3, 16, .inl (fun _ => 0)))]) (tys' := [(c1, .int), (c2, .long), (c3, .int)]) rfl rfl ?_
  refine y_putF (pc := 25) (q0 := 0) (v := .ref q3) (ty := .array .int) (ws' := [(h, .inr (4, [.int 0, .ref q1, .ref q2, .ref q3, .null, .null, .null, .null, .null, .null, .null, .null, .int 0, .null, .null, .null, .null])), (q1, .inl (c1, 16, .inl (fun _ => 0))), (q2, .inl (c2, 16, .inr (.inl (fun _ => 0)))), (q3, .inl (c3, 16, .inl (fun _ => 0)))]) C hin 3 mCI_48 i_Te t_Te t_Te_ok n_Te rfl rfl (Nat.le_of_ble_eq_true rfl) rfl rfl rfl rfl rfl rfl (Nat.le_of_ble_eq_true rfl) rfl d_Te_init_25 ?_
  refine y_aload_n (pc := 28) C d_Te_init_28 rfl 0 rfl ?_
  refine y_bipush (pc := 29) C d_Te_init_29 kb_16 ?_
  refine y_newa (pc := 31) (N' := 16) (a0 := (16, .inl (fun _ => 0))) C mCI_8 rfl (fun _ => rfl) (by decide) (by decide) (by decide) (Nat.le_of_ble_eq_true rfl) (Nat.le_of_ble_eq_true rfl) d_Te_init_31 (fun q4 c4 => ?_)
  refine y_ws (ws' := [(h, .inr (4, [.int 0, .ref q1, .ref q2, .ref q3, .null, .null, .null, .null, .null, .null, .null, .null, .int 0, .null, .null, .null, .null])), (q1, .inl (c1, 16, .inl (fun _ => 0))), (q2, .inl (c2, 16, .inr (.inl (fun _ => 0)))), (q3, .inl (c3, 16, .inl (fun _ => 0))), (q4, .inl (c4, 16, .inl (fun _ => 0)))]) (tys' := [(c1, .int), (c2, .long), (c3, .int), (c4, .int)]) rfl rfl ?_
  refine y_putF (pc := 33) (q0 := 0) (v := .ref q4) (ty := .array .int) (ws' := [(h, .inr (4, [.int 0, .ref q1, .ref q2, .ref q3, .ref q4, .null, .null, .null, .null, .null, .null, .null, .int 0, .null, .null, .null, .null])), (q1, .inl (c1, 16, .inl (fun _ => 0))), (q2, .inl (c2, 16, .inr (.inl (fun _ => 0)))), (q3, .inl (c3, 16, .inl (fun _ => 0))), (q4, .inl (c4, 16, .inl (fun _ => 0)))]) C hin 4 mCI_49 i_Te t_Te t_Te_ok n_Te rfl rfl (Nat.le_of_ble_eq_true rfl) rfl rfl rfl rfl rfl rfl (Nat.le_of_ble_eq_true rfl) rfl d_Te_init_33 ?_
  refine y_aload_n (pc := 36) C d_Te_init_36 rfl 0 rfl ?_
  refine y_bipush (pc := 37) C d_Te_init_37 kb_48 ?_
  refine y_newa (pc := 39) (N' := 48) (a0 := (48, .inr (.inl (fun _ => 0)))) C mCI_10 rfl (fun _ => rfl) (by decide) (by decide) (by decide) (Nat.le_of_ble_eq_true rfl) (Nat.le_of_ble_eq_true rfl) d_Te_init_39 (fun q5 c5 => ?_)
  refine y_ws (ws' := [(h, .inr (4, [.int 0, .ref q1, .ref q2, .ref q3, .ref q4, .null, .null, .null, .null, .null, .null, .null, .int 0, .null, .null, .null, .null])), (q1, .inl (c1, 16, .inl (fun _ => 0))), (q2, .inl (c2, 16, .inr (.inl (fun _ => 0)))), (q3, .inl (c3, 16, .inl (fun _ => 0))), (q4, .inl (c4, 16, .inl (fun _ => 0))), (q5, .inl (c5, 48, .inr (.inl (fun _ => 0))))]) (tys' := [(c1, .int), (c2, .long), (c3, .int), (c4, .int), (c5, .long)]) rfl rfl ?_
  refine y_putF (pc := 41) (q0 := 0) (v := .ref q5) (ty := .array .long) (ws' := [(h, .inr (4, [.int 0, .ref q1, .ref q2, .ref q3, .ref q4, .ref q5, .null, .null, .null, .null, .null, .null, .int 0, .null, .null, .null, .null])), (q1, .inl (c1, 16, .inl (fun _ => 0))), (q2, .inl (c2, 16, .inr (.inl (fun _ => 0)))), (q3, .inl (c3, 16, .inl (fun _ => 0))), (q4, .inl (c4, 16, .inl (fun _ => 0))), (q5, .inl (c5, 48, .inr (.inl (fun _ => 0))))]) C hin 5 mCI_50 i_Te t_Te t_Te_ok n_Te rfl rfl (Nat.le_of_ble_eq_true rfl) rfl rfl rfl rfl rfl rfl (Nat.le_of_ble_eq_true rfl) rfl d_Te_init_41 ?_
  refine y_aload_n (pc := 44) C d_Te_init_44 rfl 0 rfl ?_
  refine y_bipush (pc := 45) C d_Te_init_45 kb_16 ?_
  refine y_newa (pc := 47) (N' := 16) (a0 := (16, .inl (fun _ => 0))) C mCI_8 rfl (fun _ => rfl) (by decide) (by decide) (by decide) (Nat.le_of_ble_eq_true rfl) (Nat.le_of_ble_eq_true rfl) d_Te_init_47 (fun q6 c6 => ?_)
  refine y_ws (ws' := [(h, .inr (4, [.int 0, .ref q1, .ref q2, .ref q3, .ref q4, .ref q5, .null, .null, .null, .null, .null, .null, .int 0, .null, .null, .null, .null])), (q1, .inl (c1, 16, .inl (fun _ => 0))), (q2, .inl (c2, 16, .inr (.inl (fun _ => 0)))), (q3, .inl (c3, 16, .inl (fun _ => 0))), (q4, .inl (c4, 16, .inl (fun _ => 0))), (q5, .inl (c5, 48, .inr (.inl (fun _ => 0)))), (q6, .inl (c6, 16, .inl (fun _ => 0)))]) (tys' := [(c1, .int), (c2, .long), (c3, .int), (c4, .int), (c5, .long), (c6, .int)]) rfl rfl ?_
  refine y_putF (pc := 49) (q0 := 0) (v := .ref q6) (ty := .array .int) (ws' := [(h, .inr (4, [.int 0, .ref q1, .ref q2, .ref q3, .ref q4, .ref q5, .ref q6, .null, .null, .null, .null, .null, .int 0, .null, .null, .null, .null])), (q1, .inl (c1, 16, .inl (fun _ => 0))), (q2, .inl (c2, 16, .inr (.inl (fun _ => 0)))), (q3, .inl (c3, 16, .inl (fun _ => 0))), (q4, .inl (c4, 16, .inl (fun _ => 0))), (q5, .inl (c5, 48, .inr (.inl (fun _ => 0)))), (q6, .inl (c6, 16, .inl (fun _ => 0)))]) C hin 6 mCI_51 i_Te t_Te t_Te_ok n_Te rfl rfl (Nat.le_of_ble_eq_true rfl) rfl rfl rfl rfl rfl rfl (Nat.le_of_ble_eq_true rfl) rfl d_Te_init_49 ?_
  refine y_aload_n (pc := 52) C d_Te_init_52 rfl 0 rfl ?_
  refine y_bipush (pc := 53) C d_Te_init_53 kb_16 ?_
  refine y_newa (pc := 55) (N' := 16) (a0 := (16, .inl (fun _ => 0))) C mCI_8 rfl (fun _ => rfl) (by decide) (by decide) (by decide) (Nat.le_of_ble_eq_true rfl) (Nat.le_of_ble_eq_true rfl) d_Te_init_55 (fun q7 c7 => ?_)
  refine y_ws (ws' := [(h, .inr (4, [.int 0, .ref q1, .ref q2, .ref q3, .ref q4, .ref q5, .ref q6, .null, .null, .null, .null, .null, .int 0, .null, .null, .null, .null])), (q1, .inl (c1, 16, .inl (fun _ => 0))), (q2, .inl (c2, 16, .inr (.inl (fun _ => 0)))), (q3, .inl (c3, 16, .inl (fun _ => 0))), (q4, .inl (c4, 16, .inl (fun _ => 0))), (q5, .inl (c5, 48, .inr (.inl (fun _ => 0)))), (q6, .inl (c6, 16, .inl (fun _ => 0))), (q7, .inl (c7, 16, .inl (fun _ => 0)))]) (tys' := [(c1, .int), (c2, .long), (c3, .int), (c4, .int), (c5, .long), (c6, .int), (c7, .int)]) rfl rfl ?_
  refine y_putF (pc := 57) (q0 := 0) (v := .ref q7) (ty := .array .int) (ws' := [(h, .inr (4, [.int 0, .ref q1, .ref q2, .ref q3, .ref q4, .ref q5, .ref q6, .ref q7, .null, .null, .null, .null, .int 0, .null, .null, .null, .null])), (q1, .inl (c1, 16, .inl (fun _ => 0))), (q2, .inl (c2, 16, .inr (.inl (fun _ => 0)))), (q3, .inl (c3, 16, .inl (fun _ => 0))), (q4, .inl (c4, 16, .inl (fun _ => 0))), (q5, .inl (c5, 48, .inr (.inl (fun _ => 0)))), (q6, .inl (c6, 16, .inl (fun _ => 0))), (q7, .inl (c7, 16, .inl (fun _ => 0)))]) C hin 7 mCI_52 i_Te t_Te t_Te_ok n_Te rfl rfl (Nat.le_of_ble_eq_true rfl) rfl rfl rfl rfl rfl rfl (Nat.le_of_ble_eq_true rfl) rfl d_Te_init_57 ?_
  refine y_aload_n (pc := 60) C d_Te_init_60 rfl 0 rfl ?_
  refine y_bipush (pc := 61) C d_Te_init_61 kb_16 ?_
  refine y_newa (pc := 63) (N' := 16) (a0 := (16, .inl (fun _ => 0))) C mCI_8 rfl (fun _ => rfl) (by decide) (by decide) (by decide) (Nat.le_of_ble_eq_true rfl) (Nat.le_of_ble_eq_true rfl) d_Te_init_63 (fun q8 c8 => ?_)
  refine y_ws (ws' := [(h, .inr (4, [.int 0, .ref q1, .ref q2, .ref q3, .ref q4, .ref q5, .ref q6, .ref q7, .null, .null, .null, .null, .int 0, .null, .null, .null, .null])), (q1, .inl (c1, 16, .inl (fun _ => 0))), (q2, .inl (c2, 16, .inr (.inl (fun _ => 0)))), (q3, .inl (c3, 16, .inl (fun _ => 0))), (q4, .inl (c4, 16, .inl (fun _ => 0))), (q5, .inl (c5, 48, .inr (.inl (fun _ => 0)))), (q6, .inl (c6, 16, .inl (fun _ => 0))), (q7, .inl (c7, 16, .inl (fun _ => 0))), (q8, .inl (c8, 16, .inl (fun _ => 0)))]) (tys' := [(c1, .int), (c2, .long), (c3, .int), (c4, .int), (c5, .long), (c6, .int), (c7, .int), (c8, .int)]) rfl rfl ?_
  refine y_putF (pc := 65) (q0 := 0) (v := .ref q8) (ty := .array .int) (ws' := [(h, .inr (4, [.int 0, .ref q1, .ref q2, .ref q3, .ref q4, .ref q5, .ref q6, .ref q7, .ref q8, .null, .null, .null, .int 0, .null, .null, .null, .null])), (q1, .inl (c1, 16, .inl (fun _ => 0))), (q2, .inl (c2, 16, .inr (.inl (fun _ => 0)))), (q3, .inl (c3, 16, .inl (fun _ => 0))), (q4, .inl (c4, 16, .inl (fun _ => 0))), (q5, .inl (c5, 48, .inr (.inl (fun _ => 0)))), (q6, .inl (c6, 16, .inl (fun _ => 0))), (q7, .inl (c7, 16, .inl (fun _ => 0))), (q8, .inl (c8, 16, .inl (fun _ => 0)))]) C hin 8 mCI_53 i_Te t_Te t_Te_ok n_Te rfl rfl (Nat.le_of_ble_eq_true rfl) rfl rfl rfl rfl rfl rfl (Nat.le_of_ble_eq_true rfl) rfl d_Te_init_65 ?_
  refine y_aload_n (pc := 68) C d_Te_init_68 rfl 0 rfl ?_
  refine y_bipush (pc := 69) C d_Te_init_69 kb_16 ?_
  refine y_newa (pc := 71) (N' := 16) (a0 := (16, .inl (fun _ => 0))) C mCI_8 rfl (fun _ => rfl) (by decide) (by decide) (by decide) (Nat.le_of_ble_eq_true rfl) (Nat.le_of_ble_eq_true rfl) d_Te_init_71 (fun q9 c9 => ?_)
  refine y_ws (ws' := [(h, .inr (4, [.int 0, .ref q1, .ref q2, .ref q3, .ref q4, .ref q5, .ref q6, .ref q7, .ref q8, .null, .null, .null, .int 0, .null, .null, .null, .null])), (q1, .inl (c1, 16, .inl (fun _ => 0))), (q2, .inl (c2, 16, .inr (.inl (fun _ => 0)))), (q3, .inl (c3, 16, .inl (fun _ => 0))), (q4, .inl (c4, 16, .inl (fun _ => 0))), (q5, .inl (c5, 48, .inr (.inl (fun _ => 0)))), (q6, .inl (c6, 16, .inl (fun _ => 0))), (q7, .inl (c7, 16, .inl (fun _ => 0))), (q8, .inl (c8, 16, .inl (fun _ => 0))), (q9, .inl (c9, 16, .inl (fun _ => 0)))]) (tys' := [(c1, .int), (c2, .long), (c3, .int), (c4, .int), (c5, .long), (c6, .int), (c7, .int), (c8, .int), (c9, .int)]) rfl rfl ?_
  refine y_putF (pc := 73) (q0 := 0) (v := .ref q9) (ty := .array .int) (ws' := [(h, .inr (4, [.int 0, .ref q1, .ref q2, .ref q3, .ref q4, .ref q5, .ref q6, .ref q7, .ref q8, .ref q9, .null, .null, .int 0, .null, .null, .null, .null])), (q1, .inl (c1, 16, .inl (fun _ => 0))), (q2, .inl (c2, 16, .inr (.inl (fun _ => 0)))), (q3, .inl (c3, 16, .inl (fun _ => 0))), (q4, .inl (c4, 16, .inl (fun _ => 0))), (q5, .inl (c5, 48, .inr (.inl (fun _ => 0)))), (q6, .inl (c6, 16, .inl (fun _ => 0))), (q7, .inl (c7, 16, .inl (fun _ => 0))), (q8, .inl (c8, 16, .inl (fun _ => 0))), (q9, .inl (c9, 16, .inl (fun _ => 0)))]) C hin 9 mCI_54 i_Te t_Te t_Te_ok n_Te rfl rfl (Nat.le_of_ble_eq_true rfl) rfl rfl rfl rfl rfl rfl (Nat.le_of_ble_eq_true rfl) rfl d_Te_init_73 ?_
  refine y_aload_n (pc := 76) C d_Te_init_76 rfl 0 rfl ?_
  refine y_bipush (pc := 77) C d_Te_init_77 kb_16 ?_
  refine y_newa (pc := 79) (N' := 16) (a0 := (16, .inl (fun _ => 0))) C mCI_8 rfl (fun _ => rfl) (by decide) (by decide) (by decide) (Nat.le_of_ble_eq_true rfl) (Nat.le_of_ble_eq_true rfl) d_Te_init_79 (fun q10 c10 => ?_)
  refine y_ws (ws' := [(h, .inr (4, [.int 0, .ref q1, .ref q2, .ref q3, .ref q4, .ref q5, .ref q6, .ref q7, .ref q8, .ref q9, .null, .null, .int 0, .null, .null, .null, .null])), (q1, .inl (c1, 16, .inl (fun _ => 0))), (q2, .inl (c2, 16, .inr (.inl (fun _ => 0)))), (q3, .inl (c3, 16, .inl (fun _ => 0))), (q4, .inl (c4, 16, .inl (fun _ => 0))), (q5, .inl (c5, 48, .inr (.inl (fun _ => 0)))), (q6, .inl (c6, 16, .inl (fun _ => 0))), (q7, .inl (c7, 16, .inl (fun _ => 0))), (q8, .inl (c8, 16, .inl (fun _ => 0))), (q9, .inl (c9, 16, .inl (fun _ => 0))), (q10, .inl (c10, 16, .inl (fun _ => 0)))]) (tys' := [(c1, .int), (c2, .long), (c3, .int), (c4, .int), (c5, .long), (c6, .int), (c7, .int), (c8, .int), (c9, .int), (c10, .int)]) rfl rfl ?_
  refine y_putF (pc := 81) (q0 := 0) (v := .ref q10) (ty := .array .int) (ws' := [(h, .inr (4, [.int 0, .ref q1, .ref q2, .ref q3, .ref q4, .ref q5, .ref q6, .ref q7, .ref q8, .ref q9, .ref q10, .null, .int 0, .null, .null, .null, .null])), (q1, .inl (c1, 16, .inl (fun _ => 0))), (q2, .inl (c2, 16, .inr (.inl (fun _ => 0)))), (q3, .inl (c3, 16, .inl (fun _ => 0))), (q4, .inl (c4, 16, .inl (fun _ => 0))), (q5, .inl (c5, 48, .inr (.inl (fun _ => 0)))), (q6, .inl (c6, 16, .inl (fun _ => 0))), (q7, .inl (c7, 16, .inl (fun _ => 0))), (q8, .inl (c8, 16, .inl (fun _ => 0))), (q9, .inl (c9, 16, .inl (fun _ => 0))), (q10, .inl (c10, 16, .inl (fun _ => 0)))]) C hin 10 mCI_55 i_Te t_Te t_Te_ok n_Te rfl rfl (Nat.le_of_ble_eq_true rfl) rfl rfl rfl rfl rfl rfl (Nat.le_of_ble_eq_true rfl) rfl d_Te_init_81 ?_
  refine y_aload_n (pc := 84) C d_Te_init_84 rfl 0 rfl ?_
  refine y_bipush (pc := 85) C d_Te_init_85 kb_16 ?_
  refine y_newa (pc := 87) (N' := 16) (a0 := (16, .inl (fun _ => 0))) C mCI_8 rfl (fun _ => rfl) (by decide) (by decide) (by decide) (Nat.le_of_ble_eq_true rfl) (Nat.le_of_ble_eq_true rfl) d_Te_init_87 (fun q11 c11 => ?_)
  refine y_ws (ws' := [(h, .inr (4, [.int 0, .ref q1, .ref q2, .ref q3, .ref q4, .ref q5, .ref q6, .ref q7, .ref q8, .ref q9, .ref q10, .null, .int 0, .null, .null, .null, .null])), (q1, .inl (c1, 16, .inl (fun _ => 0))), (q2, .inl (c2, 16, .inr (.inl (fun _ => 0)))), (q3, .inl (c3, 16, .inl (fun _ => 0))), (q4, .inl (c4, 16, .inl (fun _ => 0))), (q5, .inl (c5, 48, .inr (.inl (fun _ => 0)))), (q6, .inl (c6, 16, .inl (fun _ => 0))), (q7, .inl (c7, 16, .inl (fun _ => 0))), (q8, .inl (c8, 16, .inl (fun _ => 0))), (q9, .inl (c9, 16, .inl (fun _ => 0))), (q10, .inl (c10, 16, .inl (fun _ => 0))), (q11, .inl (c11, 16, .inl (fun _ => 0)))]) (tys' := [(c1, .int), (c2, .long), (c3, .int), (c4, .int), (c5, .long), (c6, .int), (c7, .int), (c8, .int), (c9, .int), (c10, .int), (c11, .int)]) rfl rfl ?_
  refine y_putF (pc := 89) (q0 := 0) (v := .ref q11) (ty := .array .int) (ws' := [(h, .inr (4, [.int 0, .ref q1, .ref q2, .ref q3, .ref q4, .ref q5, .ref q6, .ref q7, .ref q8, .ref q9, .ref q10, .ref q11, .int 0, .null, .null, .null, .null])), (q1, .inl (c1, 16, .inl (fun _ => 0))), (q2, .inl (c2, 16, .inr (.inl (fun _ => 0)))), (q3, .inl (c3, 16, .inl (fun _ => 0))), (q4, .inl (c4, 16, .inl (fun _ => 0))), (q5, .inl (c5, 48, .inr (.inl (fun _ => 0)))), (q6, .inl (c6, 16, .inl (fun _ => 0))), (q7, .inl (c7, 16, .inl (fun _ => 0))), (q8, .inl (c8, 16, .inl (fun _ => 0))), (q9, .inl (c9, 16, .inl (fun _ => 0))), (q10, .inl (c10, 16, .inl (fun _ => 0))), (q11, .inl (c11, 16, .inl (fun _ => 0)))]) C hin 11 mCI_56 i_Te t_Te t_Te_ok n_Te rfl rfl (Nat.le_of_ble_eq_true rfl) rfl rfl rfl rfl rfl rfl (Nat.le_of_ble_eq_true rfl) rfl d_Te_init_89 ?_
  refine y_aload_n (pc := 92) C d_Te_init_92 rfl 0 rfl ?_
  refine y_bipush (pc := 93) C d_Te_init_93 kb_16 ?_
  refine y_newa (pc := 95) (N' := 16) (a0 := (16, .inl (fun _ => 0))) C mCI_8 rfl (fun _ => rfl) (by decide) (by decide) (by decide) (Nat.le_of_ble_eq_true rfl) (Nat.le_of_ble_eq_true rfl) d_Te_init_95 (fun q12 c12 => ?_)
  refine y_ws (ws' := [(h, .inr (4, [.int 0, .ref q1, .ref q2, .ref q3, .ref q4, .ref q5, .ref q6, .ref q7, .ref q8, .ref q9, .ref q10, .ref q11, .int 0, .null, .null, .null, .null])), (q1, .inl (c1, 16, .inl (fun _ => 0))), (q2, .inl (c2, 16, .inr (.inl (fun _ => 0)))), (q3, .inl (c3, 16, .inl (fun _ => 0))), (q4, .inl (c4, 16, .inl (fun _ => 0))), (q5, .inl (c5, 48, .inr (.inl (fun _ => 0)))), (q6, .inl (c6, 16, .inl (fun _ => 0))), (q7, .inl (c7, 16, .inl (fun _ => 0))), (q8, .inl (c8, 16, .inl (fun _ => 0))), (q9, .inl (c9, 16, .inl (fun _ => 0))), (q10, .inl (c10, 16, .inl (fun _ => 0))), (q11, .inl (c11, 16, .inl (fun _ => 0))), (q12, .inl (c12, 16, .inl (fun _ => 0)))]) (tys' := [(c1, .int), (c2, .long), (c3, .int), (c4, .int), (c5, .long), (c6, .int), (c7, .int), (c8, .int), (c9, .int), (c10, .int), (c11, .int), (c12, .int)]) rfl rfl ?_
  refine y_putF (pc := 97) (q0 := 0) (v := .ref q12) (ty := .array .int) (ws' := [(h, .inr (4, [.int 0, .ref q1, .ref q2, .ref q3, .ref q4, .ref q5, .ref q6, .ref q7, .ref q8, .ref q9, .ref q10, .ref q11, .int 0, .ref q12, .null, .null, .null])), (q1, .inl (c1, 16, .inl (fun _ => 0))), (q2, .inl (c2, 16, .inr (.inl (fun _ => 0)))), (q3, .inl (c3, 16, .inl (fun _ => 0))), (q4, .inl (c4, 16, .inl (fun _ => 0))), (q5, .inl (c5, 48, .inr (.inl (fun _ => 0)))), (q6, .inl (c6, 16, .inl (fun _ => 0))), (q7, .inl (c7, 16, .inl (fun _ => 0))), (q8, .inl (c8, 16, .inl (fun _ => 0))), (q9, .inl (c9, 16, .inl (fun _ => 0))), (q10, .inl (c10, 16, .inl (fun _ => 0))), (q11, .inl (c11, 16, .inl (fun _ => 0))), (q12, .inl (c12, 16, .inl (fun _ => 0)))]) C hin 13 mCI_57 i_Te t_Te t_Te_ok n_Te rfl rfl (Nat.le_of_ble_eq_true rfl) rfl rfl rfl rfl rfl rfl (Nat.le_of_ble_eq_true rfl) rfl d_Te_init_97 ?_
  refine y_aload_n (pc := 100) C d_Te_init_100 rfl 0 rfl ?_
  refine y_bipush (pc := 101) C d_Te_init_101 kb_48 ?_
  refine y_newa (pc := 103) (N' := 48) (a0 := (48, .inl (fun _ => 0))) C mCI_8 rfl (fun _ => rfl) (by decide) (by decide) (by decide) (Nat.le_of_ble_eq_true rfl) (Nat.le_of_ble_eq_true rfl) d_Te_init_103 (fun q13 c13 => ?_)
  refine y_ws (ws' := [(h, .inr (4, [.int 0, .ref q1, .ref q2, .ref q3, .ref q4, .ref q5, .ref q6, .ref q7, .ref q8, .ref q9, .ref q10, .ref q11, .int 0, .ref q12, .null, .null, .null])), (q1, .inl (c1, 16, .inl (fun _ => 0))), (q2, .inl (c2, 16, .inr (.inl (fun _ => 0)))), (q3, .inl (c3, 16, .inl (fun _ => 0))), (q4, .inl (c4, 16, .inl (fun _ => 0))), (q5, .inl (c5, 48, .inr (.inl (fun _ => 0)))), (q6, .inl (c6, 16, .inl (fun _ => 0))), (q7, .inl (c7, 16, .inl (fun _ => 0))), (q8, .inl (c8, 16, .inl (fun _ => 0))), (q9, .inl (c9, 16, .inl (fun _ => 0))), (q10, .inl (c10, 16, .inl (fun _ => 0))), (q11, .inl (c11, 16, .inl (fun _ => 0))), (q12, .inl (c12, 16, .inl (fun _ => 0))), (q13, .inl (c13, 48, .inl (fun _ => 0)))]) (tys' := [(c1, .int), (c2, .long), (c3, .int), (c4, .int), (c5, .long), (c6, .int), (c7, .int), (c8, .int), (c9, .int), (c10, .int), (c11, .int), (c12, .int), (c13, .int)]) rfl rfl ?_
  refine y_putF (pc := 105) (q0 := 0) (v := .ref q13) (ty := .array .int) (ws' := [(h, .inr (4, [.int 0, .ref q1, .ref q2, .ref q3, .ref q4, .ref q5, .ref q6, .ref q7, .ref q8, .ref q9, .ref q10, .ref q11, .int 0, .ref q12, .ref q13, .null, .null])), (q1, .inl (c1, 16, .inl (fun _ => 0))), (q2, .inl (c2, 16, .inr (.inl (fun _ => 0)))), (q3, .inl (c3, 16, .inl (fun _ => 0))), (q4, .inl (c4, 16, .inl (fun _ => 0))), (q5, .inl (c5, 48, .inr (.inl (fun _ => 0)))), (q6, .inl (c6, 16, .inl (fun _ => 0))), (q7, .inl (c7, 16, .inl (fun _ => 0))), (q8, .inl (c8, 16, .inl (fun _ => 0))), (q9, .inl (c9, 16, .inl (fun _ => 0))), (q10, .inl (c10, 16, .inl (fun _ => 0))), (q11, .inl (c11, 16, .inl (fun _ => 0))), (q12, .inl (c12, 16, .inl (fun _ => 0))), (q13, .inl (c13, 48, .inl (fun _ => 0)))]) C hin 14 mCI_58 i_Te t_Te t_Te_ok n_Te rfl rfl (Nat.le_of_ble_eq_true rfl) rfl rfl rfl rfl rfl rfl (Nat.le_of_ble_eq_true rfl) rfl d_Te_init_105 ?_
  refine y_aload_n (pc := 108) C d_Te_init_108 rfl 0 rfl ?_
  refine y_bipush (pc := 109) C d_Te_init_109 kb_16 ?_
  refine y_newa (pc := 111) (N' := 16) (a0 := (16, .inl (fun _ => 0))) C mCI_8 rfl (fun _ => rfl) (by decide) (by decide) (by decide) (Nat.le_of_ble_eq_true rfl) (Nat.le_of_ble_eq_true rfl) d_Te_init_111 (fun q14 c14 => ?_)
  refine y_ws (ws' := [(h, .inr (4, [.int 0, .ref q1, .ref q2, .ref q3, .ref q4, .ref q5, .ref q6, .ref q7, .ref q8, .ref q9, .ref q10, .ref q11, .int 0, .ref q12, .ref q13, .null, .null])), (q1, .inl (c1, 16, .inl (fun _ => 0))), (q2, .inl (c2, 16, .inr (.inl (fun _ => 0)))), (q3, .inl (c3, 16, .inl (fun _ => 0))), (q4, .inl (c4, 16, .inl (fun _ => 0))), (q5, .inl (c5, 48, .inr (.inl (fun _ => 0)))), (q6, .inl (c6, 16, .inl (fun _ => 0))), (q7, .inl (c7, 16, .inl (fun _ => 0))), (q8, .inl (c8, 16, .inl (fun _ => 0))), (q9, .inl (c9, 16, .inl (fun _ => 0))), (q10, .inl (c10, 16, .inl (fun _ => 0))), (q11, .inl (c11, 16, .inl (fun _ => 0))), (q12, .inl (c12, 16, .inl (fun _ => 0))), (q13, .inl (c13, 48, .inl (fun _ => 0))), (q14, .inl (c14, 16, .inl (fun _ => 0)))]) (tys' := [(c1, .int), (c2, .long), (c3, .int), (c4, .int), (c5, .long), (c6, .int), (c7, .int), (c8, .int), (c9, .int), (c10, .int), (c11, .int), (c12, .int), (c13, .int), (c14, .int)]) rfl rfl ?_
  refine y_putF (pc := 113) (q0 := 0) (v := .ref q14) (ty := .array .int) (ws' := [(h, .inr (4, [.int 0, .ref q1, .ref q2, .ref q3, .ref q4, .ref q5, .ref q6, .ref q7, .ref q8, .ref q9, .ref q10, .ref q11, .int 0, .ref q12, .ref q13, .ref q14, .null])), (q1, .inl (c1, 16, .inl (fun _ => 0))), (q2, .inl (c2, 16, .inr (.inl (fun _ => 0)))), (q3, .inl (c3, 16, .inl (fun _ => 0))), (q4, .inl (c4, 16, .inl (fun _ => 0))), (q5, .inl (c5, 48, .inr (.inl (fun _ => 0)))), (q6, .inl (c6, 16, .inl (fun _ => 0))), (q7, .inl (c7, 16, .inl (fun _ => 0))), (q8, .inl (c8, 16, .inl (fun _ => 0))), (q9, .inl (c9, 16, .inl (fun _ => 0))), (q10, .inl (c10, 16, .inl (fun _ => 0))), (q11, .inl (c11, 16, .inl (fun _ => 0))), (q12, .inl (c12, 16, .inl (fun _ => 0))), (q13, .inl (c13, 48, .inl (fun _ => 0))), (q14, .inl (c14, 16, .inl (fun _ => 0)))]) C hin 15 mCI_59 i_Te t_Te t_Te_ok n_Te rfl rfl (Nat.le_of_ble_eq_true rfl) rfl rfl rfl rfl rfl rfl (Nat.le_of_ble_eq_true rfl) rfl d_Te_init_113 ?_
  refine y_aload_n (pc := 116) C d_Te_init_116 rfl 0 rfl ?_
  refine y_new (pc := 117) (ci := 10) (fs := [.null, .null, .null, .null, .int 0, .null, .null, .int 0]) C i_Ro t_Ro t_Ro_ok mCI_60 mCI_61 mCI_17 rfl df_Ro (Nat.le_of_ble_eq_true rfl) (Nat.le_of_ble_eq_true rfl) d_Te_init_117 (fun q15 => ?_)
  refine y_ws (ws' := [(h, .inr (4, [.int 0, .ref q1, .ref q2, .ref q3, .ref q4, .ref q5, .ref q6, .ref q7, .ref q8, .ref q9, .ref q10, .ref q11, .int 0, .ref q12, .ref q13, .ref q14, .null])), (q1, .inl (c1, 16, .inl (fun _ => 0))), (q2, .inl (c2, 16, .inr (.inl (fun _ => 0)))), (q3, .inl (c3, 16, .inl (fun _ => 0))), (q4, .inl (c4, 16, .inl (fun _ => 0))), (q5, .inl (c5, 48, .inr (.inl (fun _ => 0)))), (q6, .inl (c6, 16, .inl (fun _ => 0))), (q7, .inl (c7, 16, .inl (fun _ => 0))), (q8, .inl (c8, 16, .inl (fun _ => 0))), (q9, .inl (c9, 16, .inl (fun _ => 0))), (q10, .inl (c10, 16, .inl (fun _ => 0))), (q11, .inl (c11, 16, .inl (fun _ => 0))), (q12, .inl (c12, 16, .inl (fun _ => 0))), (q13, .inl (c13, 48, .inl (fun _ => 0))), (q14, .inl (c14, 16, .inl (fun _ => 0))), (q15, .inr (10, [.null, .null, .null, .null, .int 0, .null, .null, .int 0]))]) (tys' := [(c1, .int), (c2, .long), (c3, .int), (c4, .int), (c5, .long), (c6, .int), (c7, .int), (c8, .int), (c9, .int), (c10, .int), (c11, .int), (c12, .int), (c13, .int), (c14, .int)]) rfl rfl ?_
  refine y_dup (pc := 120) C d_Te_init_120 rfl ?_
  refine y_ctor (pc := 121) (wc := [(q15, .inr (10, [.null, .null, .null, .null, .int 0, .null, .null, .int 0]))]) (wr := [(h, .inr (4, [.int 0, .ref q1, .ref q2, .ref q3, .ref q4, .ref q5, .ref q6, .ref q7, .ref q8, .ref q9, .ref q10, .ref q11, .int 0, .ref q12, .ref q13, .ref q14, .null])), (q1, .inl (c1, 16, .inl (fun _ => 0))), (q2, .inl (c2, 16, .inr (.inl (fun _ => 0)))), (q3, .inl (c3, 16, .inl (fun _ => 0))), (q4, .inl (c4, 16, .inl (fun _ => 0))), (q5, .inl (c5, 48, .inr (.inl (fun _ => 0)))), (q6, .inl (c6, 16, .inl (fun _ => 0))), (q7, .inl (c7, 16, .inl (fun _ => 0))), (q8, .inl (c8, 16, .inl (fun _ => 0))), (q9, .inl (c9, 16, .inl (fun _ => 0))), (q10, .inl (c10, 16, .inl (fun _ => 0))), (q11, .inl (c11, 16, .inl (fun _ => 0))), (q12, .inl (c12, 16, .inl (fun _ => 0))), (q13, .inl (c13, 48, .inl (fun _ => 0))), (q14, .inl (c14, 16, .inl (fun _ => 0)))]) C (i_Ro_init (h := q15)) km_Ro_init mCI_63 rfl mCI_62 [15] [0, 1, 2, 3, 4, 5, 6, 7, 8, 9, 10, 11, 12, 13, 14] rfl rfl rfl rfl rfl (by decide) rfl (rmN_of (Nat.le_of_ble_eq_true rfl) (Nat.le_of_ble_eq_true rfl)) ⟨Nat.le_of_ble_eq_true rfl, Nat.le_of_ble_eq_true rfl⟩ rfl (Nat.le_of_ble_eq_true rfl) d_Te_init_121 (fun w t hwt => ?_)
  obtain ⟨w15_q1, w15_c1, w15_q2, w15_c2, w15_q3, w15_c3, w15_q4, w15_c4, w15_q5, w15_c5, w15_q6, w15_c6, rfl, rfl⟩ := hwt
  refine y_ws (ws' := [(h, .inr (4, [.int 0, .ref q1, .ref q2, .ref q3, .ref q4, .ref q5, .ref q6, .ref q7, .ref q8, .ref q9, .ref q10, .ref q11, .int 0, .ref q12, .ref q13, .ref q14, .null])), (q1, .inl (c1, 16, .inl (fun _ => 0))), (q2, .inl (c2, 16, .inr (.inl (fun _ => 0)))), (q3, .inl (c3, 16, .inl (fun _ => 0))), (q4, .inl (c4, 16, .inl (fun _ => 0))), (q5, .inl (c5, 48, .inr (.inl (fun _ => 0)))), (q6, .inl (c6, 16, .inl (fun _ => 0))), (q7, .inl (c7, 16, .inl (fun _ => 0))), (q8, .inl (c8, 16, .inl (fun _ => 0))), (q9, .inl (c9, 16, .inl (fun _ => 0))), (q10, .inl (c10, 16, .inl (fun _ => 0))), (q11, .inl (c11, 16, .inl (fun _ => 0))), (q12, .inl (c12, 16, .inl (fun _ => 0))), (q13, .inl (c13, 48, .inl (fun _ => 0))), (q14, .inl (c14, 16, .inl (fun _ => 0))), (q15, .inr (10, [.ref w15_q1, .ref w15_q2, .ref w15_q3, .ref w15_q4, .int 0, .ref w15_q5, .ref w15_q6, .int 0])), (w15_q1, .inl (w15_c1, 200, .inl (fun _ => 0))), (w15_q2, .inl (w15_c2, 200, .inr (.inl (fun _ => 0)))), (w15_q3, .inl (w15_c3, 200, .inl (fun _ => 0))), (w15_q4, .inl (w15_c4, 200, .inl (fun _ => 0))), (w15_q5, .inl (w15_c5, 201, .inl (fun _ => 0))), (w15_q6, .inl (w15_c6, 201, .inl (fun _ => 0)))]) (tys' := [(c1, .int), (c2, .long), (c3, .int), (c4, .int), (c5, .long), (c6, .int), (c7, .int), (c8, .int), (c9, .int), (c10, .int), (c11, .int), (c12, .int), (c13, .int), (c14, .int), (w15_c1, .int), (w15_c2, .long), (w15_c3, .int), (w15_c4, .int), (w15_c5, .int), (w15_c6, .int)]) rfl rfl ?_
  refine y_putF (pc := 124) (q0 := 0) (v := .ref q15) (ty := .object "KindRounds$Row") (ws' := [(h, .inr (4, [.int 0, .ref q1, .ref q2, .ref q3, .ref q4, .ref q5, .ref q6, .ref q7, .ref q8, .ref q9, .ref q10, .ref q11, .int 0, .ref q12, .ref q13, .ref q14, .ref q15])), (q1, .inl (c1, 16, .inl (fun _ => 0))), (q2, .inl (c2, 16, .inr (.inl (fun _ => 0)))), (q3, .inl (c3, 16, .inl (fun _ => 0))), (q4, .inl (c4, 16, .inl (fun _ => 0))), (q5, .inl (c5, 48, .inr (.inl (fun _ => 0)))), (q6, .inl (c6, 16, .inl (fun _ => 0))), (q7, .inl (c7, 16, .inl (fun _ => 0))), (q8, .inl (c8, 16, .inl (fun _ => 0))), (q9, .inl (c9, 16, .inl (fun _ => 0))), (q10, .inl (c10, 16, .inl (fun _ => 0))), (q11, .inl (c11, 16, .inl (fun _ => 0))), (q12, .inl (c12, 16, .inl (fun _ => 0))), (q13, .inl (c13, 48, .inl (fun _ => 0))), (q14, .inl (c14, 16, .inl (fun _ => 0))), (q15, .inr (10, [.ref w15_q1, .ref w15_q2, .ref w15_q3, .ref w15_q4, .int 0, .ref w15_q5, .ref w15_q6, .int 0])), (w15_q1, .inl (w15_c1, 200, .inl (fun _ => 0))), (w15_q2, .inl (w15_c2, 200, .inr (.inl (fun _ => 0)))), (w15_q3, .inl (w15_c3, 200, .inl (fun _ => 0))), (w15_q4, .inl (w15_c4, 200, .inl (fun _ => 0))), (w15_q5, .inl (w15_c5, 201, .inl (fun _ => 0))), (w15_q6, .inl (w15_c6, 201, .inl (fun _ => 0)))]) C hin 16 mCI_64 i_Te t_Te t_Te_ok n_Te rfl rfl (Nat.le_of_ble_eq_true rfl) rfl rfl rfl rfl rfl rfl (Nat.le_of_ble_eq_true rfl) rfl d_Te_init_124 ?_
  refine y_ret (pc := 127) C hr ?_ ?_ ?_ d_Te_init_127
  · exact Nat.le_of_ble_eq_true rfl
  · exact Nat.le_of_ble_eq_true rfl
  · exact ⟨q1, c1, q2, c2, q3, c3, q4, c4, q5, c5, q6, c6, q7, c7, q8, c8, q9, c9, q10, c10, q11, c11, q12, c12, q13, c13, q14, c14, q15, w15_q1, w15_c1, w15_q2, w15_c2, w15_q3, w15_c3, w15_q4, w15_c4, w15_q5, w15_c5, w15_q6, w15_c6, rfl, rfl⟩
set_option maxHeartbeats 4000000 in
set_option maxRecDepth 100000 in
theorem i_Me_init {l : Launch} {D : va_G} {h : Nat} : kN l D clC y_Me_init bc_Me_init 1 1 5 3000 h [] [(h, .inr (5, [.null, .null, .null, .null, .null, .int 0]))] (fun w t => ∃ (q1 : Nat) (c1 : ClassId) (q2 : Nat) (c2 : ClassId) (q3 : Nat) (c3 : ClassId) (q4 : Nat) (c4 : ClassId) (q5 : Nat) (c5 : ClassId), w = [(h, .inr (5, [.ref q1, .ref q2, .ref q3, .ref q4, .ref q5, .int 0])), (q1, .inl (c1, 600, .inl (fun _ => 0))), (q2, .inl (c2, 600, .inr (.inl (fun _ => 0)))), (q3, .inl (c3, 600, .inl (fun _ => 0))), (q4, .inl (c4, 600, .inl (fun _ => 0))), (q5, .inl (c5, 600, .inl (fun _ => 0)))] ∧ t = [(c1, .int), (c2, .long), (c3, .int), (c4, .int), (c5, .int)]) := by
  refine kN_of (by decide) rfl (Nat.le_of_ble_eq_true rfl) ?_
  intro p e s m below meth c A C hr hin hAe
  refine y_lv (lv' := [(0, .ref h)]) [0] rfl ?_
  refine y_aload_n (pc := 0) C d_Me_init_0 rfl 0 rfl ?_
  refine y_obj (pc := 1) C mCI_67 mCI_1 mCI_2 (by decide) (by decide) d_Me_init_1 ?_
  refine y_aload_n (pc := 4) C d_Me_init_4 rfl 0 rfl ?_
  refine y_sipush (pc := 5) C d_Me_init_5 ks_600 ?_
  refine y_newa (pc := 8) (N' := 600) (a0 := (600, .inl (fun _ => 0))) C mCI_8 rfl (fun _ => rfl) (by decide) (by decide) (by decide) (Nat.le_of_ble_eq_true rfl) (Nat.le_of_ble_eq_true rfl) d_Me_init_8 (fun q1 c1 => ?_)
  refine y_ws (ws' := [(h, .inr (5, [.null, .null, .null, .null, .null, .int 0])), (q1, .inl (c1, 600, .inl (fun _ => 0)))]) (tys' := [(c1, .int)]) rfl rfl ?_
  refine y_putF (pc := 10) (q0 := 0) (v := .ref q1) (ty := .array .int) (ws' := [(h, .inr (5, [.ref q1, .null, .null, .null, .null, .int 0])), (q1, .inl (c1, 600, .inl (fun _ => 0)))]) C hin 0 mCI_68 i_Me t_Me t_Me_ok n_Me rfl rfl (Nat.le_of_ble_eq_true rfl) rfl rfl rfl rfl rfl rfl (Nat.le_of_ble_eq_true rfl) rfl d_Me_init_10 ?_
  refine y_aload_n (pc := 13) C d_Me_init_13 rfl 0 rfl ?_
  refine y_sipush (pc := 14) C d_Me_init_14 ks_600 ?_
  refine y_newa (pc := 17) (N' := 600) (a0 := (600, .inr (.inl (fun _ => 0)))) C mCI_10 rfl (fun _ => rfl) (by decide) (by decide) (by decide) (Nat.le_of_ble_eq_true rfl) (Nat.le_of_ble_eq_true rfl) d_Me_init_17 (fun q2 c2 => ?_)
  refine y_ws (ws' := [(h, .inr (5, [.ref q1, .null, .null, .null, .null, .int 0])), (q1, .inl (c1, 600, .inl (fun _ => 0))), (q2, .inl (c2, 600, .inr (.inl (fun _ => 0))))]) (tys' := [(c1, .int), (c2, .long)]) rfl rfl ?_
  refine y_putF (pc := 19) (q0 := 0) (v := .ref q2) (ty := .array .long) (ws' := [(h, .inr (5, [.ref q1, .ref q2, .null, .null, .null, .int 0])), (q1, .inl (c1, 600, .inl (fun _ => 0))), (q2, .inl (c2, 600, .inr (.inl (fun _ => 0))))]) C hin 1 mCI_69 i_Me t_Me t_Me_ok n_Me rfl rfl (Nat.le_of_ble_eq_true rfl) rfl rfl rfl rfl rfl rfl (Nat.le_of_ble_eq_true rfl) rfl d_Me_init_19 ?_
  refine y_aload_n (pc := 22) C d_Me_init_22 rfl 0 rfl ?_
  refine y_sipush (pc := 23) C d_Me_init_23 ks_600 ?_
  refine y_newa (pc := 26) (N' := 600) (a0 := (600, .inl (fun _ => 0))) C mCI_8 rfl (fun _ => rfl) (by decide) (by decide) (by decide) (Nat.le_of_ble_eq_true rfl) (Nat.le_of_ble_eq_true rfl) d_Me_init_26 (fun q3 c3 => ?_)
  refine y_ws (ws' := [(h, .inr (5, [.ref q1, .ref q2, .null, .null, .null, .int 0])), (q1, .inl (c1, 600, .inl (fun _ => 0))), (q2, .inl (c2, 600, .inr (.inl (fun _ => 0)))), (q3, .inl (c3, 600, .inl (fun _ => 0)))]) (tys' := [(c1, .int), (c2, .long), (c3, .int)]) rfl rfl ?_
  refine y_putF (pc := 28) (q0 := 0) (v := .ref q3) (ty := .array .int) (ws' := [(h, .inr (5, [.ref q1, .ref q2, .ref q3, .null, .null, .int 0])), (q1, .inl (c1, 600, .inl (fun _ => 0))), (q2, .inl (c2, 600, .inr (.inl (fun _ => 0)))), (q3, .inl (c3, 600, .inl (fun _ => 0)))]) C hin 2 mCI_70 i_Me t_Me t_Me_ok n_Me rfl rfl (Nat.le_of_ble_eq_true rfl) rfl rfl rfl rfl rfl rfl (Nat.le_of_ble_eq_true rfl) rfl d_Me_init_28 ?_
  refine y_aload_n (pc := 31) C d_Me_init_31 rfl 0 rfl ?_
  refine y_sipush (pc := 32) C d_Me_init_32 ks_600 ?_
  refine y_newa (pc := 35) (N' := 600) (a0 := (600, .inl (fun _ => 0))) C mCI_8 rfl (fun _ => rfl) (by decide) (by decide) (by decide) (Nat.le_of_ble_eq_true rfl) (Nat.le_of_ble_eq_true rfl) d_Me_init_35 (fun q4 c4 => ?_)
  refine y_ws (ws' := [(h, .inr (5, [.ref q1, .ref q2, .ref q3, .null, .null, .int 0])), (q1, .inl (c1, 600, .inl (fun _ => 0))), (q2, .inl (c2, 600, .inr (.inl (fun _ => 0)))), (q3, .inl (c3, 600, .inl (fun _ => 0))), (q4, .inl (c4, 600, .inl (fun _ => 0)))]) (tys' := [(c1, .int), (c2, .long), (c3, .int), (c4, .int)]) rfl rfl ?_
  refine y_putF (pc := 37) (q0 := 0) (v := .ref q4) (ty := .array .int) (ws' := [(h, .inr (5, [.ref q1, .ref q2, .ref q3, .ref q4, .null, .int 0])), (q1, .inl (c1, 600, .inl (fun _ => 0))), (q2, .inl (c2, 600, .inr (.inl (fun _ => 0)))), (q3, .inl (c3, 600, .inl (fun _ => 0))), (q4, .inl (c4, 600, .inl (fun _ => 0)))]) C hin 3 mCI_71 i_Me t_Me t_Me_ok n_Me rfl rfl (Nat.le_of_ble_eq_true rfl) rfl rfl rfl rfl rfl rfl (Nat.le_of_ble_eq_true rfl) rfl d_Me_init_37 ?_
  refine y_aload_n (pc := 40) C d_Me_init_40 rfl 0 rfl ?_
  refine y_sipush (pc := 41) C d_Me_init_41 ks_600 ?_
  refine y_newa (pc := 44) (N' := 600) (a0 := (600, .inl (fun _ => 0))) C mCI_8 rfl (fun _ => rfl) (by decide) (by decide) (by decide) (Nat.le_of_ble_eq_true rfl) (Nat.le_of_ble_eq_true rfl) d_Me_init_44 (fun q5 c5 => ?_)
  refine y_ws (ws' := [(h, .inr (5, [.ref q1, .ref q2, .ref q3, .ref q4, .null, .int 0])), (q1, .inl (c1, 600, .inl (fun _ => 0))), (q2, .inl (c2, 600, .inr (.inl (fun _ => 0)))), (q3, .inl (c3, 600, .inl (fun _ => 0))), (q4, .inl (c4, 600, .inl (fun _ => 0))), (q5, .inl (c5, 600, .inl (fun _ => 0)))]) (tys' := [(c1, .int), (c2, .long), (c3, .int), (c4, .int), (c5, .int)]) rfl rfl ?_
  refine y_putF (pc := 46) (q0 := 0) (v := .ref q5) (ty := .array .int) (ws' := [(h, .inr (5, [.ref q1, .ref q2, .ref q3, .ref q4, .ref q5, .int 0])), (q1, .inl (c1, 600, .inl (fun _ => 0))), (q2, .inl (c2, 600, .inr (.inl (fun _ => 0)))), (q3, .inl (c3, 600, .inl (fun _ => 0))), (q4, .inl (c4, 600, .inl (fun _ => 0))), (q5, .inl (c5, 600, .inl (fun _ => 0)))]) C hin 4 mCI_72 i_Me t_Me t_Me_ok n_Me rfl rfl (Nat.le_of_ble_eq_true rfl) rfl rfl rfl rfl rfl rfl (Nat.le_of_ble_eq_true rfl) rfl d_Me_init_46 ?_
  refine y_ret (pc := 49) C hr ?_ ?_ ?_ d_Me_init_49
  · exact Nat.le_of_ble_eq_true rfl
  · exact Nat.le_of_ble_eq_true rfl
  · exact ⟨q1, c1, q2, c2, q3, c3, q4, c4, q5, c5, rfl, rfl⟩
set_option maxHeartbeats 4000000 in
set_option maxRecDepth 100000 in
theorem i_Pa_init {l : Launch} {D : va_G} {h : Nat} {x1 : Nat} {x2 : Nat} {x3 : Nat} {x4 : Nat} {x5 : Nat} {ro : Nat} {tfs : List Value} (hro : tfs[16]? = some (.ref ro)) : kN l D clC y_Pa_init bc_Pa_init 6 1 0 0 h [.ref x1, .ref x2, .ref x3, .ref x4, .ref x5] [(h, .inr (6, [.null, .null, .null, .null, .null, .null, .int 0])), (x2, .inr (4, tfs))] (fun w t => w = [(h, .inr (6, [.ref x1, .ref x2, .ref x3, .ref x4, .ref x5, .ref ro, .int 0])), (x2, .inr (4, tfs))] ∧ t = []) := by
  refine kN_of (by decide) rfl (Nat.le_of_ble_eq_true rfl) ?_
  intro p e s m below meth c A C hr hin hAe
  refine y_lv (lv' := [(0, .ref h), (1, .ref x1), (2, .ref x2), (3, .ref x3), (4, .ref x4), (5, .ref x5)]) [0, 1, 2, 3, 4, 5] rfl ?_
  refine y_aload_n (pc := 0) C d_Pa_init_0 rfl 0 rfl ?_
  refine y_obj (pc := 1) C mCI_75 mCI_1 mCI_2 (by decide) (by decide) d_Pa_init_1 ?_
  refine y_aload_n (pc := 4) C d_Pa_init_4 rfl 0 rfl ?_
  refine y_aload_n (pc := 5) C d_Pa_init_5 rfl 1 rfl ?_
  refine y_putF (pc := 6) (q0 := 0) (v := .ref x1) (ty := .object "KindRounds$Tape") (ws' := [(h, .inr (6, [.ref x1, .null, .null, .null, .null, .null, .int 0])), (x2, .inr (4, tfs))]) C hin 0 mCI_76 i_Pa t_Pa t_Pa_ok n_Pa rfl rfl (Nat.le_of_ble_eq_true rfl) rfl rfl rfl rfl rfl rfl (Nat.le_of_ble_eq_true rfl) rfl d_Pa_init_6 ?_
  refine y_aload_n (pc := 9) C d_Pa_init_9 rfl 0 rfl ?_
  refine y_aload_n (pc := 10) C d_Pa_init_10 rfl 2 rfl ?_
  refine y_putF (pc := 11) (q0 := 0) (v := .ref x2) (ty := .object "KindRounds$Text") (ws' := [(h, .inr (6, [.ref x1, .ref x2, .null, .null, .null, .null, .int 0])), (x2, .inr (4, tfs))]) C hin 1 mCI_77 i_Pa t_Pa t_Pa_ok n_Pa rfl rfl (Nat.le_of_ble_eq_true rfl) rfl rfl rfl rfl rfl rfl (Nat.le_of_ble_eq_true rfl) rfl d_Pa_init_11 ?_
  refine y_aload_n (pc := 14) C d_Pa_init_14 rfl 0 rfl ?_
  refine y_aload_n (pc := 15) C d_Pa_init_15 rfl 3 rfl ?_
  refine y_putF (pc := 16) (q0 := 0) (v := .ref x3) (ty := .object "KindRounds$Mentions") (ws' := [(h, .inr (6, [.ref x1, .ref x2, .ref x3, .null, .null, .null, .int 0])), (x2, .inr (4, tfs))]) C hin 2 mCI_78 i_Pa t_Pa t_Pa_ok n_Pa rfl rfl (Nat.le_of_ble_eq_true rfl) rfl rfl rfl rfl rfl rfl (Nat.le_of_ble_eq_true rfl) rfl d_Pa_init_16 ?_
  refine y_aload_n (pc := 19) C d_Pa_init_19 rfl 0 rfl ?_
  refine y_aload (pc := 20) C d_Pa_init_20 4 rfl ?_
  refine y_putF (pc := 22) (q0 := 0) (v := .ref x4) (ty := .object "KindRounds$Kinds") (ws' := [(h, .inr (6, [.ref x1, .ref x2, .ref x3, .ref x4, .null, .null, .int 0])), (x2, .inr (4, tfs))]) C hin 3 mCI_79 i_Pa t_Pa t_Pa_ok n_Pa rfl rfl (Nat.le_of_ble_eq_true rfl) rfl rfl rfl rfl rfl rfl (Nat.le_of_ble_eq_true rfl) rfl d_Pa_init_22 ?_
  refine y_aload_n (pc := 25) C d_Pa_init_25 rfl 0 rfl ?_
  refine y_aload (pc := 26) C d_Pa_init_26 5 rfl ?_
  refine y_putF (pc := 28) (q0 := 0) (v := .ref x5) (ty := .object "KindRounds$Fault") (ws' := [(h, .inr (6, [.ref x1, .ref x2, .ref x3, .ref x4, .ref x5, .null, .int 0])), (x2, .inr (4, tfs))]) C hin 4 mCI_80 i_Pa t_Pa t_Pa_ok n_Pa rfl rfl (Nat.le_of_ble_eq_true rfl) rfl rfl rfl rfl rfl rfl (Nat.le_of_ble_eq_true rfl) rfl d_Pa_init_28 ?_
  refine y_aload_n (pc := 31) C d_Pa_init_31 rfl 0 rfl ?_
  refine y_aload_n (pc := 32) C d_Pa_init_32 rfl 2 rfl ?_
  refine y_getN (pc := 33) (q0 := 1) (v := .ref ro) C 16 mCI_81 i_Te rfl rfl (Nat.le_of_ble_eq_true rfl) rfl hro d_Pa_init_33 ?_
  refine y_put (pc := 36) (q0 := 0) (v := .ref ro) (ty := .object "KindRounds$Row") (ws' := [(h, .inr (6, [.ref x1, .ref x2, .ref x3, .ref x4, .ref x5, .ref ro, .int 0])), (x2, .inr (4, tfs))]) C 5 mCI_82 i_Pa t_Pa t_Pa_ok n_Pa rfl rfl (Nat.le_of_ble_eq_true rfl) rfl rfl rfl rfl rfl (Nat.le_of_ble_eq_true rfl) rfl d_Pa_init_36 ?_
  refine y_ret (pc := 39) C hr ?_ ?_ ?_ d_Pa_init_39
  · exact Nat.le_of_ble_eq_true rfl
  · exact Nat.le_of_ble_eq_true rfl
  · exact ⟨rfl, rfl⟩
set_option maxHeartbeats 4000000 in
set_option maxRecDepth 100000 in
theorem i_Ch_init {l : Launch} {D : va_G} {h : Nat} {x1 : Nat} {x2 : Nat} {x3 : Nat} : kN l D clC y_Ch_init bc_Ch_init 4 1 1 16 h [.ref x1, .ref x2, .ref x3] [(h, .inr (7, [.null, .null, .null, .null]))] (fun w t => ∃ (q1 : Nat) (c1 : ClassId), w = [(h, .inr (7, [.ref x1, .ref x2, .ref x3, .ref q1])), (q1, .inl (c1, 16, .inl (fun _ => 0)))] ∧ t = [(c1, .int)]) := by
  refine kN_of (by decide) rfl (Nat.le_of_ble_eq_true rfl) ?_
  intro p e s m below meth c A C hr hin hAe
  refine y_lv (lv' := [(0, .ref h), (1, .ref x1), (2, .ref x2), (3, .ref x3)]) [0, 1, 2, 3] rfl ?_
  refine y_aload_n (pc := 0) C d_Ch_init_0 rfl 0 rfl ?_
  refine y_obj (pc := 1) C mCI_85 mCI_1 mCI_2 (by decide) (by decide) d_Ch_init_1 ?_
  refine y_aload_n (pc := 4) C d_Ch_init_4 rfl 0 rfl ?_
  refine y_aload_n (pc := 5) C d_Ch_init_5 rfl 1 rfl ?_
  refine y_putF (pc := 6) (q0 := 0) (v := .ref x1) (ty := .object "KindRounds$Text") (ws' := [(h, .inr (7, [.ref x1, .null, .null, .null]))]) C hin 0 mCI_86 i_Ch t_Ch t_Ch_ok n_Ch rfl rfl (Nat.le_of_ble_eq_true rfl) rfl rfl rfl rfl rfl rfl (Nat.le_of_ble_eq_true rfl) rfl d_Ch_init_6 ?_
  refine y_aload_n (pc := 9) C d_Ch_init_9 rfl 0 rfl ?_
  refine y_aload_n (pc := 10) C d_Ch_init_10 rfl 2 rfl ?_
  refine y_putF (pc := 11) (q0 := 0) (v := .ref x2) (ty := .object "KindRounds$Mentions") (ws' := [(h, .inr (7, [.ref x1, .ref x2, .null, .null]))]) C hin 1 mCI_87 i_Ch t_Ch t_Ch_ok n_Ch rfl rfl (Nat.le_of_ble_eq_true rfl) rfl rfl rfl rfl rfl rfl (Nat.le_of_ble_eq_true rfl) rfl d_Ch_init_11 ?_
  refine y_aload_n (pc := 14) C d_Ch_init_14 rfl 0 rfl ?_
  refine y_aload_n (pc := 15) C d_Ch_init_15 rfl 3 rfl ?_
  refine y_putF (pc := 16) (q0 := 0) (v := .ref x3) (ty := .object "KindRounds$Fault") (ws' := [(h, .inr (7, [.ref x1, .ref x2, .ref x3, .null]))]) C hin 2 mCI_88 i_Ch t_Ch t_Ch_ok n_Ch rfl rfl (Nat.le_of_ble_eq_true rfl) rfl rfl rfl rfl rfl rfl (Nat.le_of_ble_eq_true rfl) rfl d_Ch_init_16 ?_
  refine y_aload_n (pc := 19) C d_Ch_init_19 rfl 0 rfl ?_
  refine y_bipush (pc := 20) C d_Ch_init_20 kb_16 ?_
  refine y_newa (pc := 22) (N' := 16) (a0 := (16, .inl (fun _ => 0))) C mCI_8 rfl (fun _ => rfl) (by decide) (by decide) (by decide) (Nat.le_of_ble_eq_true rfl) (Nat.le_of_ble_eq_true rfl) d_Ch_init_22 (fun q1 c1 => ?_)
  refine y_ws (ws' := [(h, .inr (7, [.ref x1, .ref x2, .ref x3, .null])), (q1, .inl (c1, 16, .inl (fun _ => 0)))]) (tys' := [(c1, .int)]) rfl rfl ?_
  refine y_putF (pc := 24) (q0 := 0) (v := .ref q1) (ty := .array .int) (ws' := [(h, .inr (7, [.ref x1, .ref x2, .ref x3, .ref q1])), (q1, .inl (c1, 16, .inl (fun _ => 0)))]) C hin 3 mCI_89 i_Ch t_Ch t_Ch_ok n_Ch rfl rfl (Nat.le_of_ble_eq_true rfl) rfl rfl rfl rfl rfl rfl (Nat.le_of_ble_eq_true rfl) rfl d_Ch_init_24 ?_
  refine y_ret (pc := 27) C hr ?_ ?_ ?_ d_Ch_init_27
  · exact Nat.le_of_ble_eq_true rfl
  · exact Nat.le_of_ble_eq_true rfl
  · exact ⟨q1, c1, rfl, rfl⟩
set_option maxHeartbeats 4000000 in
set_option maxRecDepth 100000 in
theorem i_So_init {l : Launch} {D : va_G} {h : Nat} {x1 : Nat} {x2 : Nat} {x3 : Nat} {x4 : Nat} : kN l D clC y_So_init bc_So_init 5 1 8 1648 h [.ref x1, .ref x2, .ref x3, .ref x4] [(h, .inr (8, [.null, .null, .null, .null, .null, .null, .null, .int 0, .null, .null, .null, .int 0, .null, .null, .int 0, .int 0]))] (fun w t => ∃ (q1 : Nat) (c1 : ClassId) (q2 : Nat) (c2 : ClassId) (q3 : Nat) (c3 : ClassId) (q4 : Nat) (c4 : ClassId) (q5 : Nat) (c5 : ClassId) (q6 : Nat) (c6 : ClassId) (q7 : Nat) (c7 : ClassId) (q8 : Nat) (c8 : ClassId), w = [(h, .inr (8, [.ref x1, .ref x2, .ref x3, .ref x4, .ref q1, .ref q2, .ref q3, .int 0, .ref q4, .ref q5, .ref q6, .int 0, .ref q7, .ref q8, .int 0, .int 0])), (q1, .inl (c1, 216, .inl (fun _ => 0))), (q2, .inl (c2, 216, .inl (fun _ => 0))), (q3, .inl (c3, 216, .inl (fun _ => 0))), (q4, .inl (c4, 200, .inl (fun _ => 0))), (q5, .inl (c5, 200, .inl (fun _ => 0))), (q6, .inl (c6, 200, .inl (fun _ => 0))), (q7, .inl (c7, 200, .inr (.inl (fun _ => 0)))), (q8, .inl (c8, 200, .inl (fun _ => 0)))] ∧ t = [(c1, .int), (c2, .int), (c3, .int), (c4, .int), (c5, .int), (c6, .int), (c7, .long), (c8, .int)]) := by
  refine kN_of (by decide) rfl (Nat.le_of_ble_eq_true rfl) ?_
  intro p e s m below meth c A C hr hin hAe
  refine y_lv (lv' := [(0, .ref h), (1, .ref x1), (2, .ref x2), (3, .ref x3), (4, .ref x4)]) [0, 1, 2, 3, 4] rfl ?_
  refine y_aload_n (pc := 0) C d_So_init_0 rfl 0 rfl ?_
  refine y_obj (pc := 1) C mCI_92 mCI_1 mCI_2 (by decide) (by decide) d_So_init_1 ?_
  refine y_aload_n (pc := 4) C d_So_init_4 rfl 0 rfl ?_
  refine y_aload_n (pc := 5) C d_So_init_5 rfl 1 rfl ?_
  refine y_putF (pc := 6) (q0 := 0) (v := .ref x1) (ty := .object "KindRounds$Text") (ws' := [(h, .inr (8, [.ref x1, .null, .null, .null, .null, .null, .null, .int 0, .null, .null, .null, .int 0, .null, .null, .int 0, .int 0]))]) C hin 0 mCI_93 i_So t_So t_So_ok n_So rfl rfl (Nat.le_of_ble_eq_true rfl) rfl rfl rfl rfl rfl rfl (Nat.le_of_ble_eq_true rfl) rfl d_So_init_6 ?_
  refine y_aload_n (pc := 9) C d_So_init_9 rfl 0 rfl ?_
  refine y_aload_n (pc := 10) C d_So_init_10 rfl 2 rfl ?_
  refine y_putF (pc := 11) (q0 := 0) (v := .ref x2) (ty := .object "KindRounds$Mentions") (ws' := [(h, .inr (8, [.ref x1, .ref x2, .null, .null, .null, .null, .null, .int 0, .null, .null, .null, .int 0, .null, .null, .int 0, .int 0]))]) C hin 1 mCI_94 i_So t_So t_So_ok n_So rfl rfl (Nat.le_of_ble_eq_true rfl) rfl rfl rfl rfl rfl rfl (Nat.le_of_ble_eq_true rfl) rfl d_So_init_11 ?_
  refine y_aload_n (pc := 14) C d_So_init_14 rfl 0 rfl ?_
  refine y_aload_n (pc := 15) C d_So_init_15 rfl 3 rfl ?_
  refine y_putF (pc := 16) (q0 := 0) (v := .ref x3) (ty := .object "KindRounds$Kinds") (ws' := [(h, .inr (8, [.ref x1, .ref x2, .ref x3, .null, .null, .null, .null, .int 0, .null, .null, .null, .int 0, .null, .null, .int 0, .int 0]))]) C hin 2 mCI_95 i_So t_So t_So_ok n_So rfl rfl (Nat.le_of_ble_eq_true rfl) rfl rfl rfl rfl rfl rfl (Nat.le_of_ble_eq_true rfl) rfl d_So_init_16 ?_
  refine y_aload_n (pc := 19) C d_So_init_19 rfl 0 rfl ?_
  refine y_aload (pc := 20) C d_So_init_20 4 rfl ?_
  refine y_putF (pc := 22) (q0 := 0) (v := .ref x4) (ty := .object "KindRounds$Fault") (ws' := [(h, .inr (8, [.ref x1, .ref x2, .ref x3, .ref x4, .null, .null, .null, .int 0, .null, .null, .null, .int 0, .null, .null, .int 0, .int 0]))]) C hin 3 mCI_96 i_So t_So t_So_ok n_So rfl rfl (Nat.le_of_ble_eq_true rfl) rfl rfl rfl rfl rfl rfl (Nat.le_of_ble_eq_true rfl) rfl d_So_init_22 ?_
  refine y_aload_n (pc := 25) C d_So_init_25 rfl 0 rfl ?_
  refine y_sipush (pc := 26) C d_So_init_26 ks_216 ?_
  refine y_newa (pc := 29) (N' := 216) (a0 := (216, .inl (fun _ => 0))) C mCI_8 rfl (fun _ => rfl) (by decide) (by decide) (by decide) (Nat.le_of_ble_eq_true rfl) (Nat.le_of_ble_eq_true rfl) d_So_init_29 (fun q1 c1 => ?_)
  refine y_ws (ws' := [(h, .inr (8, [.ref x1, .ref x2, .ref x3, .ref x4, .null, .null, .null, .int 0, .null, .null, .null, .int 0, .null, .null, .int 0, .int 0])), (q1, .inl (c1, 216, .inl (fun _ => 0)))]) (tys' := [(c1, .int)]) rfl rfl ?_
  refine y_putF (pc := 31) (q0 := 0) (v := .ref q1) (ty := .array .int) (ws' := [(h, .inr (8, [.ref x1, .ref x2, .ref x3, .ref x4, .ref q1, .null, .null, .int 0, .null, .null, .null, .int 0, .null, .null, .int 0, .int 0])), (q1, .inl (c1, 216, .inl (fun _ => 0)))]) C hin 4 mCI_97 i_So t_So t_So_ok n_So rfl rfl (Nat.le_of_ble_eq_true rfl) rfl rfl rfl rfl rfl rfl (Nat.le_of_ble_eq_true rfl) rfl d_So_init_31 ?_
  refine y_aload_n (pc := 34) C d_So_init_34 rfl 0 rfl ?_
  refine y_sipush (pc := 35) C d_So_init_35 ks_216 ?_
  refine y_newa (pc := 38) (N' := 216) (a0 := (216, .inl (fun _ => 0))) C mCI_8 rfl (fun _ => rfl) (by decide) (by decide) (by decide) (Nat.le_of_ble_eq_true rfl) (Nat.le_of_ble_eq_true rfl) d_So_init_38 (fun q2 c2 => ?_)
  refine y_ws (ws' := [(h, .inr (8, [.ref x1, .ref x2, .ref x3, .ref x4, .ref q1, .null, .null, .int 0, .null, .null, .null, .int 0, .null, .null, .int 0, .int 0])), (q1, .inl (c1, 216, .inl (fun _ => 0))), (q2, .inl (c2, 216, .inl (fun _ => 0)))]) (tys' := [(c1, .int), (c2, .int)]) rfl rfl ?_
  refine y_putF (pc := 40) (q0 := 0) (v := .ref q2) (ty := .array .int) (ws' := [(h, .inr (8, [.ref x1, .ref x2, .ref x3, .ref x4, .ref q1, .ref q2, .null, .int 0, .null, .null, .null, .int 0, .null, .null, .int 0, .int 0])), (q1, .inl (c1, 216, .inl (fun _ => 0))), (q2, .inl (c2, 216, .inl (fun _ => 0)))]) C hin 5 mCI_98 i_So t_So t_So_ok n_So rfl rfl (Nat.le_of_ble_eq_true rfl) rfl rfl rfl rfl rfl rfl (Nat.le_of_ble_eq_true rfl) rfl d_So_init_40 ?_
  refine y_aload_n (pc := 43) C d_So_init_43 rfl 0 rfl ?_
  refine y_sipush (pc := 44) C d_So_init_44 ks_216 ?_
  refine y_newa (pc := 47) (N' := 216) (a0 := (216, .inl (fun _ => 0))) C mCI_8 rfl (fun _ => rfl) (by decide) (by decide) (by decide) (Nat.le_of_ble_eq_true rfl) (Nat.le_of_ble_eq_true rfl) d_So_init_47 (fun q3 c3 => ?_)
  refine y_ws (ws' := [(h, .inr (8, [.ref x1, .ref x2, .ref x3, .ref x4, .ref q1, .ref q2, .null, .int 0, .null, .null, .null, .int 0, .null, .null, .int 0, .int 0])), (q1, .inl (c1, 216, .inl (fun _ => 0))), (q2, .inl (c2, 216, .inl (fun _ => 0))), (q3, .inl (c3, 216, .inl (fun _ => 0)))]) (tys' := [(c1, .int), (c2, .int), (c3, .int)]) rfl rfl ?_
  refine y_putF (pc := 49) (q0 := 0) (v := .ref q3) (ty := .array .int) (ws' := [(h, .inr (8, [.ref x1, .ref x2, .ref x3, .ref x4, .ref q1, .ref q2, .ref q3, .int 0, .null, .null, .null, .int 0, .null, .null, .int 0, .int 0])), (q1, .inl (c1, 216, .inl (fun _ => 0))), (q2, .inl (c2, 216, .inl (fun _ => 0))), (q3, .inl (c3, 216, .inl (fun _ => 0)))]) C hin 6 mCI_99 i_So t_So t_So_ok n_So rfl rfl (Nat.le_of_ble_eq_true rfl) rfl rfl rfl rfl rfl rfl (Nat.le_of_ble_eq_true rfl) rfl d_So_init_49 ?_
  refine y_aload_n (pc := 52) C d_So_init_52 rfl 0 rfl ?_
  refine y_sipush (pc := 53) C d_So_init_53 ks_200 ?_
  refine y_newa (pc := 56) (N' := 200) (a0 := (200, .inl (fun _ => 0))) C mCI_8 rfl (fun _ => rfl) (by decide) (by decide) (by decide) (Nat.le_of_ble_eq_true rfl) (Nat.le_of_ble_eq_true rfl) d_So_init_56 (fun q4 c4 => ?_)
  refine y_ws (ws' := [(h, .inr (8, [.ref x1, .ref x2, .ref x3, .ref x4, .ref q1, .ref q2, .ref q3, .int 0, .null, .null, .null, .int 0, .null, .null, .int 0, .int 0])), (q1, .inl (c1, 216, .inl (fun _ => 0))), (q2, .inl (c2, 216, .inl (fun _ => 0))), (q3, .inl (c3, 216, .inl (fun _ => 0))), (q4, .inl (c4, 200, .inl (fun _ => 0)))]) (tys' := [(c1, .int), (c2, .int), (c3, .int), (c4, .int)]) rfl rfl ?_
  refine y_putF (pc := 58) (q0 := 0) (v := .ref q4) (ty := .array .int) (ws' := [(h, .inr (8, [.ref x1, .ref x2, .ref x3, .ref x4, .ref q1, .ref q2, .ref q3, .int 0, .ref q4, .null, .null, .int 0, .null, .null, .int 0, .int 0])), (q1, .inl (c1, 216, .inl (fun _ => 0))), (q2, .inl (c2, 216, .inl (fun _ => 0))), (q3, .inl (c3, 216, .inl (fun _ => 0))), (q4, .inl (c4, 200, .inl (fun _ => 0)))]) C hin 8 mCI_100 i_So t_So t_So_ok n_So rfl rfl (Nat.le_of_ble_eq_true rfl) rfl rfl rfl rfl rfl rfl (Nat.le_of_ble_eq_true rfl) rfl d_So_init_58 ?_
  refine y_aload_n (pc := 61) C d_So_init_61 rfl 0 rfl ?_
  refine y_sipush (pc := 62) C d_So_init_62 ks_200 ?_
  refine y_newa (pc := 65) (N' := 200) (a0 := (200, .inl (fun _ => 0))) C mCI_8 rfl (fun _ => rfl) (by decide) (by decide) (by decide) (Nat.le_of_ble_eq_true rfl) (Nat.le_of_ble_eq_true rfl) d_So_init_65 (fun q5 c5 => ?_)
  refine y_ws (ws' := [(h, .inr (8, [.ref x1, .ref x2, .ref x3, .ref x4, .ref q1, .ref q2, .ref q3, .int 0, .ref q4, .null, .null, .int 0, .null, .null, .int 0, .int 0])), (q1, .inl (c1, 216, .inl (fun _ => 0))), (q2, .inl (c2, 216, .inl (fun _ => 0))), (q3, .inl (c3, 216, .inl (fun _ => 0))), (q4, .inl (c4, 200, .inl (fun _ => 0))), (q5, .inl (c5, 200, .inl (fun _ => 0)))]) (tys' := [(c1, .int), (c2, .int), (c3, .int), (c4, .int), (c5, .int)]) rfl rfl ?_
  refine y_putF (pc := 67) (q0 := 0) (v := .ref q5) (ty := .array .int) (ws' := [(h, .inr (8, [.ref x1, .ref x2, .ref x3, .ref x4, .ref q1, .ref q2, .ref q3, .int 0, .ref q4, .ref q5, .null, .int 0, .null, .null, .int 0, .int 0])), (q1, .inl (c1, 216, .inl (fun _ => 0))), (q2, .inl (c2, 216, .inl (fun _ => 0))), (q3, .inl (c3, 216, .inl (fun _ => 0))), (q4, .inl (c4, 200, .inl (fun _ => 0))), (q5, .inl (c5, 200, .inl (fun _ => 0)))]) C hin 9 mCI_101 i_So t_So t_So_ok n_So rfl rfl (Nat.le_of_ble_eq_true rfl) rfl rfl rfl rfl rfl rfl (Nat.le_of_ble_eq_true rfl) rfl d_So_init_67 ?_
  refine y_aload_n (pc := 70) C d_So_init_70 rfl 0 rfl ?_
  refine y_sipush (pc := 71) C d_So_init_71 ks_200 ?_
  refine y_newa (pc := 74) (N' := 200) (a0 := (200, .inl (fun _ => 0))) C mCI_8 rfl (fun _ => rfl) (by decide) (by decide) (by decide) (Nat.le_of_ble_eq_true rfl) (Nat.le_of_ble_eq_true rfl) d_So_init_74 (fun q6 c6 => ?_)
  refine y_ws (ws' := [(h, .inr (8, [.ref x1, .ref x2, .ref x3, .ref x4, .ref q1, .ref q2, .ref q3, .int 0, .ref q4, .ref q5, .null, .int 0, .null, .null, .int 0, .int 0])), (q1, .inl (c1, 216, .inl (fun _ => 0))), (q2, .inl (c2, 216, .inl (fun _ => 0))), (q3, .inl (c3, 216, .inl (fun _ => 0))), (q4, .inl (c4, 200, .inl (fun _ => 0))), (q5, .inl (c5, 200, .inl (fun _ => 0))), (q6, .inl (c6, 200, .inl (fun _ => 0)))]) (tys' := [(c1, .int), (c2, .int), (c3, .int), (c4, .int), (c5, .int), (c6, .int)]) rfl rfl ?_
  refine y_putF (pc := 76) (q0 := 0) (v := .ref q6) (ty := .array .int) (ws' := [(h, .inr (8, [.ref x1, .ref x2, .ref x3, .ref x4, .ref q1, .ref q2, .ref q3, .int 0, .ref q4, .ref q5, .ref q6, .int 0, .null, .null, .int 0, .int 0])), (q1, .inl (c1, 216, .inl (fun _ => 0))), (q2, .inl (c2, 216, .inl (fun _ => 0))), (q3, .inl (c3, 216, .inl (fun _ => 0))), (q4, .inl (c4, 200, .inl (fun _ => 0))), (q5, .inl (c5, 200, .inl (fun _ => 0))), (q6, .inl (c6, 200, .inl (fun _ => 0)))]) C hin 10 mCI_102 i_So t_So t_So_ok n_So rfl rfl (Nat.le_of_ble_eq_true rfl) rfl rfl rfl rfl rfl rfl (Nat.le_of_ble_eq_true rfl) rfl d_So_init_76 ?_
  refine y_aload_n (pc := 79) C d_So_init_79 rfl 0 rfl ?_
  refine y_sipush (pc := 80) C d_So_init_80 ks_200 ?_
  refine y_newa (pc := 83) (N' := 200) (a0 := (200, .inr (.inl (fun _ => 0)))) C mCI_10 rfl (fun _ => rfl) (by decide) (by decide) (by decide) (Nat.le_of_ble_eq_true rfl) (Nat.le_of_ble_eq_true rfl) d_So_init_83 (fun q7 c7 => ?_)
  refine y_ws (ws' := [(h, .inr (8, [.ref x1, .ref x2, .ref x3, .ref x4, .ref q1, .ref q2, .ref q3, .int 0, .ref q4, .ref q5, .ref q6, .int 0, .null, .null, .int 0, .int 0])), (q1, .inl (c1, 216, .inl (fun _ => 0))), (q2, .inl (c2, 216, .inl (fun _ => 0))), (q3, .inl (c3, 216, .inl (fun _ => 0))), (q4, .inl (c4, 200, .inl (fun _ => 0))), (q5, .inl (c5, 200, .inl (fun _ => 0))), (q6, .inl (c6, 200, .inl (fun _ => 0))), (q7, .inl (c7, 200, .inr (.inl (fun _ => 0))))]) (tys' := [(c1, .int), (c2, .int), (c3, .int), (c4, .int), (c5, .int), (c6, .int), (c7, .long)]) rfl rfl ?_
  refine y_putF (pc := 85) (q0 := 0) (v := .ref q7) (ty := .array .long) (ws' := [(h, .inr (8, [.ref x1, .ref x2, .ref x3, .ref x4, .ref q1, .ref q2, .ref q3, .int 0, .ref q4, .ref q5, .ref q6, .int 0, .ref q7, .null, .int 0, .int 0])), (q1, .inl (c1, 216, .inl (fun _ => 0))), (q2, .inl (c2, 216, .inl (fun _ => 0))), (q3, .inl (c3, 216, .inl (fun _ => 0))), (q4, .inl (c4, 200, .inl (fun _ => 0))), (q5, .inl (c5, 200, .inl (fun _ => 0))), (q6, .inl (c6, 200, .inl (fun _ => 0))), (q7, .inl (c7, 200, .inr (.inl (fun _ => 0))))]) C hin 12 mCI_103 i_So t_So t_So_ok n_So rfl rfl (Nat.le_of_ble_eq_true rfl) rfl rfl rfl rfl rfl rfl (Nat.le_of_ble_eq_true rfl) rfl d_So_init_85 ?_
  refine y_aload_n (pc := 88) C d_So_init_88 rfl 0 rfl ?_
  refine y_sipush (pc := 89) C d_So_init_89 ks_200 ?_
  refine y_newa (pc := 92) (N' := 200) (a0 := (200, .inl (fun _ => 0))) C mCI_8 rfl (fun _ => rfl) (by decide) (by decide) (by decide) (Nat.le_of_ble_eq_true rfl) (Nat.le_of_ble_eq_true rfl) d_So_init_92 (fun q8 c8 => ?_)
  refine y_ws (ws' := [(h, .inr (8, [.ref x1, .ref x2, .ref x3, .ref x4, .ref q1, .ref q2, .ref q3, .int 0, .ref q4, .ref q5, .ref q6, .int 0, .ref q7, .null, .int 0, .int 0])), (q1, .inl (c1, 216, .inl (fun _ => 0))), (q2, .inl (c2, 216, .inl (fun _ => 0))), (q3, .inl (c3, 216, .inl (fun _ => 0))), (q4, .inl (c4, 200, .inl (fun _ => 0))), (q5, .inl (c5, 200, .inl (fun _ => 0))), (q6, .inl (c6, 200, .inl (fun _ => 0))), (q7, .inl (c7, 200, .inr (.inl (fun _ => 0)))), (q8, .inl (c8, 200, .inl (fun _ => 0)))]) (tys' := [(c1, .int), (c2, .int), (c3, .int), (c4, .int), (c5, .int), (c6, .int), (c7, .long), (c8, .int)]) rfl rfl ?_
  refine y_putF (pc := 94) (q0 := 0) (v := .ref q8) (ty := .array .int) (ws' := [(h, .inr (8, [.ref x1, .ref x2, .ref x3, .ref x4, .ref q1, .ref q2, .ref q3, .int 0, .ref q4, .ref q5, .ref q6, .int 0, .ref q7, .ref q8, .int 0, .int 0])), (q1, .inl (c1, 216, .inl (fun _ => 0))), (q2, .inl (c2, 216, .inl (fun _ => 0))), (q3, .inl (c3, 216, .inl (fun _ => 0))), (q4, .inl (c4, 200, .inl (fun _ => 0))), (q5, .inl (c5, 200, .inl (fun _ => 0))), (q6, .inl (c6, 200, .inl (fun _ => 0))), (q7, .inl (c7, 200, .inr (.inl (fun _ => 0)))), (q8, .inl (c8, 200, .inl (fun _ => 0)))]) C hin 13 mCI_104 i_So t_So t_So_ok n_So rfl rfl (Nat.le_of_ble_eq_true rfl) rfl rfl rfl rfl rfl rfl (Nat.le_of_ble_eq_true rfl) rfl d_So_init_94 ?_
  refine y_ret (pc := 97) C hr ?_ ?_ ?_ d_So_init_97
  · exact Nat.le_of_ble_eq_true rfl
  · exact Nat.le_of_ble_eq_true rfl
  · exact ⟨q1, c1, q2, c2, q3, c3, q4, c4, q5, c5, q6, c6, q7, c7, q8, c8, rfl, rfl⟩
set_option maxHeartbeats 4000000 in
set_option maxRecDepth 100000 in
theorem i_Pl_init {l : Launch} {D : va_G} {h : Nat} {x1 : Nat} : kN l D clC y_Pl_init bc_Pl_init 2 2 24 4034 h [.ref x1] [(h, .inr (9, [.null, .null, .null, .null, .null, .null, .null, .int 0, .int 0]))] (fun w t => ∃ (q1 : Nat) (w1_q1 : Nat) (w1_c1 : ClassId) (w1_q2 : Nat) (w1_c2 : ClassId) (w1_q3 : Nat) (w1_c3 : ClassId) (w1_q4 : Nat) (w1_c4 : ClassId) (w1_q5 : Nat) (w1_c5 : ClassId) (w1_q6 : Nat) (w1_c6 : ClassId) (q3 : Nat) (w3_q1 : Nat) (w3_c1 : ClassId) (w3_q2 : Nat) (w3_c2 : ClassId) (w3_q3 : Nat) (w3_c3 : ClassId) (w3_q4 : Nat) (w3_c4 : ClassId) (w3_q5 : Nat) (w3_c5 : ClassId) (w3_q6 : Nat) (w3_c6 : ClassId) (q5 : Nat) (w5_q1 : Nat) (w5_c1 : ClassId) (w5_q2 : Nat) (w5_c2 : ClassId) (w5_q3 : Nat) (w5_c3 : ClassId) (w5_q4 : Nat) (w5_c4 : ClassId) (w5_q5 : Nat) (w5_c5 : ClassId) (w5_q6 : Nat) (w5_c6 : ClassId) (q7 : Nat) (c7 : ClassId) (q8 : Nat) (c8 : ClassId) (q9 : Nat) (c9 : ClassId), w = [(h, .inr (9, [.ref x1, .ref q1, .ref q3, .ref q5, .ref q7, .ref q8, .ref q9, .int 0, .int 0])), (q1, .inr (10, [.ref w1_q1, .ref w1_q2, .ref w1_q3, .ref w1_q4, .int 0, .ref w1_q5, .ref w1_q6, .int 0])), (w1_q1, .inl (w1_c1, 200, .inl (fun _ => 0))), (w1_q2, .inl (w1_c2, 200, .inr (.inl (fun _ => 0)))), (w1_q3, .inl (w1_c3, 200, .inl (fun _ => 0))), (w1_q4, .inl (w1_c4, 200, .inl (fun _ => 0))), (w1_q5, .inl (w1_c5, 201, .inl (fun _ => 0))), (w1_q6, .inl (w1_c6, 201, .inl (fun _ => 0))), (q3, .inr (10, [.ref w3_q1, .ref w3_q2, .ref w3_q3, .ref w3_q4, .int 0, .ref w3_q5, .ref w3_q6, .int 0])), (w3_q1, .inl (w3_c1, 200, .inl (fun _ => 0))), (w3_q2, .inl (w3_c2, 200, .inr (.inl (fun _ => 0)))), (w3_q3, .inl (w3_c3, 200, .inl (fun _ => 0))), (w3_q4, .inl (w3_c4, 200, .inl (fun _ => 0))), (w3_q5, .inl (w3_c5, 201, .inl (fun _ => 0))), (w3_q6, .inl (w3_c6, 201, .inl (fun _ => 0))), (q5, .inr (10, [.ref w5_q1, .ref w5_q2, .ref w5_q3, .ref w5_q4, .int 0, .ref w5_q5, .ref w5_q6, .int 0])), (w5_q1, .inl (w5_c1, 200, .inl (fun _ => 0))), (w5_q2, .inl (w5_c2, 200, .inr (.inl (fun _ => 0)))), (w5_q3, .inl (w5_c3, 200, .inl (fun _ => 0))), (w5_q4, .inl (w5_c4, 200, .inl (fun _ => 0))), (w5_q5, .inl (w5_c5, 201, .inl (fun _ => 0))), (w5_q6, .inl (w5_c6, 201, .inl (fun _ => 0))), (q7, .inl (c7, 4, .inl (fun _ => 0))), (q8, .inl (c8, 200, .inl (fun _ => 0))), (q9, .inl (c9, 200, .inl (fun _ => 0)))] ∧ t = [(w1_c1, .int), (w1_c2, .long), (w1_c3, .int), (w1_c4, .int), (w1_c5, .int), (w1_c6, .int), (w3_c1, .int), (w3_c2, .long), (w3_c3, .int), (w3_c4, .int), (w3_c5, .int), (w3_c6, .int), (w5_c1, .int), (w5_c2, .long), (w5_c3, .int), (w5_c4, .int), (w5_c5, .int), (w5_c6, .int), (c7, .int), (c8, .int), (c9, .int)]) := by
  refine kN_of (by decide) rfl (Nat.le_of_ble_eq_true rfl) ?_
  intro p e s m below meth c A C hr hin hAe
  refine y_lv (lv' := [(0, .ref h), (1, .ref x1)]) [0, 1] rfl ?_
  refine y_aload_n (pc := 0) C d_Pl_init_0 rfl 0 rfl ?_
  refine y_obj (pc := 1) C mCI_107 mCI_1 mCI_2 (by decide) (by decide) d_Pl_init_1 ?_
  refine y_aload_n (pc := 4) C d_Pl_init_4 rfl 0 rfl ?_
  refine y_aload_n (pc := 5) C d_Pl_init_5 rfl 1 rfl ?_
  refine y_putF (pc := 6) (q0 := 0) (v := .ref x1) (ty := .object "KindRounds$Text") (ws' := [(h, .inr (9, [.ref x1, .null, .null, .null, .null, .null, .null, .int 0, .int 0]))]) C hin 0 mCI_108 i_Pl t_Pl t_Pl_ok n_Pl rfl rfl (Nat.le_of_ble_eq_true rfl) rfl rfl rfl rfl rfl rfl (Nat.le_of_ble_eq_true rfl) rfl d_Pl_init_6 ?_
  refine y_aload_n (pc := 9) C d_Pl_init_9 rfl 0 rfl ?_
  refine y_new (pc := 10) (ci := 10) (fs := [.null, .null, .null, .null, .int 0, .null, .null, .int 0]) C i_Ro t_Ro t_Ro_ok mCI_109 mCI_61 mCI_17 rfl df_Ro (Nat.le_of_ble_eq_true rfl) (Nat.le_of_ble_eq_true rfl) d_Pl_init_10 (fun q1 => ?_)
  refine y_ws (ws' := [(h, .inr (9, [.ref x1, .null, .null, .null, .null, .null, .null, .int 0, .int 0])), (q1, .inr (10, [.null, .null, .null, .null, .int 0, .null, .null, .int 0]))]) (tys' := []) rfl rfl ?_
  refine y_dup (pc := 13) C d_Pl_init_13 rfl ?_
  refine y_ctor (pc := 14) (wc := [(q1, .inr (10, [.null, .null, .null, .null, .int 0, .null, .null, .int 0]))]) (wr := [(h, .inr (9, [.ref x1, .null, .null, .null, .null, .null, .null, .int 0, .int 0]))]) C (i_Ro_init (h := q1)) km_Ro_init mCI_63 rfl mCI_110 [1] [0] rfl rfl rfl rfl rfl (by decide) rfl (rmN_of (Nat.le_of_ble_eq_true rfl) (Nat.le_of_ble_eq_true rfl)) ⟨Nat.le_of_ble_eq_true rfl, Nat.le_of_ble_eq_true rfl⟩ rfl (Nat.le_of_ble_eq_true rfl) d_Pl_init_14 (fun w t hwt => ?_)
  obtain ⟨w1_q1, w1_c1, w1_q2, w1_c2, w1_q3, w1_c3, w1_q4, w1_c4, w1_q5, w1_c5, w1_q6, w1_c6, rfl, rfl⟩ := hwt
  refine y_ws (ws' := [(h, .inr (9, [.ref x1, .null, .null, .null, .null, .null, .null, .int 0, .int 0])), (q1, .inr (10, [.ref w1_q1, .ref w1_q2, .ref w1_q3, .ref w1_q4, .int 0, .ref w1_q5, .ref w1_q6, .int 0])), (w1_q1, .inl (w1_c1, 200, .inl (fun _ => 0))), (w1_q2, .inl (w1_c2, 200, .inr (.inl (fun _ => 0)))), (w1_q3, .inl (w1_c3, 200, .inl (fun _ => 0))), (w1_q4, .inl (w1_c4, 200, .inl (fun _ => 0))), (w1_q5, .inl (w1_c5, 201, .inl (fun _ => 0))), (w1_q6, .inl (w1_c6, 201, .inl (fun _ => 0)))]) (tys' := [(w1_c1, .int), (w1_c2, .long), (w1_c3, .int), (w1_c4, .int), (w1_c5, .int), (w1_c6, .int)]) rfl rfl ?_
  refine y_put (pc := 17) (q0 := 0) (v := .ref q1) (ty := .object "KindRounds$Row") (ws' := [(h, .inr (9, [.ref x1, .ref q1, .null, .null, .null, .null, .null, .int 0, .int 0])), (q1, .inr (10, [.ref w1_q1, .ref w1_q2, .ref w1_q3, .ref w1_q4, .int 0, .ref w1_q5, .ref w1_q6, .int 0])), (w1_q1, .inl (w1_c1, 200, .inl (fun _ => 0))), (w1_q2, .inl (w1_c2, 200, .inr (.inl (fun _ => 0)))), (w1_q3, .inl (w1_c3, 200, .inl (fun _ => 0))), (w1_q4, .inl (w1_c4, 200, .inl (fun _ => 0))), (w1_q5, .inl (w1_c5, 201, .inl (fun _ => 0))), (w1_q6, .inl (w1_c6, 201, .inl (fun _ => 0)))]) C 1 mCI_111 i_Pl t_Pl t_Pl_ok n_Pl rfl rfl (Nat.le_of_ble_eq_true rfl) rfl rfl rfl rfl rfl (Nat.le_of_ble_eq_true rfl) rfl d_Pl_init_17 ?_
  refine y_aload_n (pc := 20) C d_Pl_init_20 rfl 0 rfl ?_
  refine y_new (pc := 21) (ci := 10) (fs := [.null, .null, .null, .null, .int 0, .null, .null, .int 0]) C i_Ro t_Ro t_Ro_ok mCI_109 mCI_61 mCI_17 rfl df_Ro (Nat.le_of_ble_eq_true rfl) (Nat.le_of_ble_eq_true rfl) d_Pl_init_21 (fun q3 => ?_)
  refine y_ws (ws' := [(h, .inr (9, [.ref x1, .ref q1, .null, .null, .null, .null, .null, .int 0, .int 0])), (q1, .inr (10, [.ref w1_q1, .ref w1_q2, .ref w1_q3, .ref w1_q4, .int 0, .ref w1_q5, .ref w1_q6, .int 0])), (w1_q1, .inl (w1_c1, 200, .inl (fun _ => 0))), (w1_q2, .inl (w1_c2, 200, .inr (.inl (fun _ => 0)))), (w1_q3, .inl (w1_c3, 200, .inl (fun _ => 0))), (w1_q4, .inl (w1_c4, 200, .inl (fun _ => 0))), (w1_q5, .inl (w1_c5, 201, .inl (fun _ => 0))), (w1_q6, .inl (w1_c6, 201, .inl (fun _ => 0))), (q3, .inr (10, [.null, .null, .null, .null, .int 0, .null, .null, .int 0]))]) (tys' := [(w1_c1, .int), (w1_c2, .long), (w1_c3, .int), (w1_c4, .int), (w1_c5, .int), (w1_c6, .int)]) rfl rfl ?_
  refine y_dup (pc := 24) C d_Pl_init_24 rfl ?_
  refine y_ctor (pc := 25) (wc := [(q3, .inr (10, [.null, .null, .null, .null, .int 0, .null, .null, .int 0]))]) (wr := [(h, .inr (9, [.ref x1, .ref q1, .null, .null, .null, .null, .null, .int 0, .int 0])), (q1, .inr (10, [.ref w1_q1, .ref w1_q2, .ref w1_q3, .ref w1_q4, .int 0, .ref w1_q5, .ref w1_q6, .int 0])), (w1_q1, .inl (w1_c1, 200, .inl (fun _ => 0))), (w1_q2, .inl (w1_c2, 200, .inr (.inl (fun _ => 0)))), (w1_q3, .inl (w1_c3, 200, .inl (fun _ => 0))), (w1_q4, .inl (w1_c4, 200, .inl (fun _ => 0))), (w1_q5, .inl (w1_c5, 201, .inl (fun _ => 0))), (w1_q6, .inl (w1_c6, 201, .inl (fun _ => 0)))]) C (i_Ro_init (h := q3)) km_Ro_init mCI_63 rfl mCI_110 [8] [0, 1, 2, 3, 4, 5, 6, 7] rfl rfl rfl rfl rfl (by decide) rfl (rmN_of (Nat.le_of_ble_eq_true rfl) (Nat.le_of_ble_eq_true rfl)) ⟨Nat.le_of_ble_eq_true rfl, Nat.le_of_ble_eq_true rfl⟩ rfl (Nat.le_of_ble_eq_true rfl) d_Pl_init_25 (fun w t hwt => ?_)
  obtain ⟨w3_q1, w3_c1, w3_q2, w3_c2, w3_q3, w3_c3, w3_q4, w3_c4, w3_q5, w3_c5, w3_q6, w3_c6, rfl, rfl⟩ := hwt
  refine y_ws (ws' := [(h, .inr (9, [.ref x1, .ref q1, .null, .null, .null, .null, .null, .int 0, .int 0])), (q1, .inr (10, [.ref w1_q1, .ref w1_q2, .ref w1_q3, .ref w1_q4, .int 0, .ref w1_q5, .ref w1_q6, .int 0])), (w1_q1, .inl (w1_c1, 200, .inl (fun _ => 0))), (w1_q2, .inl (w1_c2, 200, .inr (.inl (fun _ => 0)))), (w1_q3, .inl (w1_c3, 200, .inl (fun _ => 0))), (w1_q4, .inl (w1_c4, 200, .inl (fun _ => 0))), (w1_q5, .inl (w1_c5, 201, .inl (fun _ => 0))), (w1_q6, .inl (w1_c6, 201, .inl (fun _ => 0))), (q3, .inr (10, [.ref w3_q1, .ref w3_q2, .ref w3_q3, .ref w3_q4, .int 0, .ref w3_q5, .ref w3_q6, .int 0])), (w3_q1, .inl (w3_c1, 200, .inl (fun _ => 0))), (w3_q2, .inl (w3_c2, 200, .inr (.inl (fun _ => 0)))), (w3_q3, .inl (w3_c3, 200, .inl (fun _ => 0))), (w3_q4, .inl (w3_c4, 200, .inl (fun _ => 0))), (w3_q5, .inl (w3_c5, 201, .inl (fun _ => 0))), (w3_q6, .inl (w3_c6, 201, .inl (fun _ => 0)))]) (tys' := [(w1_c1, .int), (w1_c2, .long), (w1_c3, .int), (w1_c4, .int), (w1_c5, .int), (w1_c6, .int), (w3_c1, .int), (w3_c2, .long), (w3_c3, .int), (w3_c4, .int), (w3_c5, .int), (w3_c6, .int)]) rfl rfl ?_
  refine y_put (pc := 28) (q0 := 0) (v := .ref q3) (ty := .object "KindRounds$Row") (ws' := [(h, .inr (9, [.ref x1, .ref q1, .ref q3, .null, .null, .null, .null, .int 0, .int 0])), (q1, .inr (10, [.ref w1_q1, .ref w1_q2, .ref w1_q3, .ref w1_q4, .int 0, .ref w1_q5, .ref w1_q6, .int 0])), (w1_q1, .inl (w1_c1, 200, .inl (fun _ => 0))), (w1_q2, .inl (w1_c2, 200, .inr (.inl (fun _ => 0)))), (w1_q3, .inl (w1_c3, 200, .inl (fun _ => 0))), (w1_q4, .inl (w1_c4, 200, .inl (fun _ => 0))), (w1_q5, .inl (w1_c5, 201, .inl (fun _ => 0))), (w1_q6, .inl (w1_c6, 201, .inl (fun _ => 0))), (q3, .inr (10, [.ref w3_q1, .ref w3_q2, .ref w3_q3, .ref w3_q4, .int 0, .ref w3_q5, .ref w3_q6, .int 0])), (w3_q1, .inl (w3_c1, 200, .inl (fun _ => 0))), (w3_q2, .inl (w3_c2, 200, .inr (.inl (fun _ => 0)))), (w3_q3, .inl (w3_c3, 200, .inl (fun _ => 0))), (w3_q4, .inl (w3_c4, 200, .inl (fun _ => 0))), (w3_q5, .inl (w3_c5, 201, .inl (fun _ => 0))), (w3_q6, .inl (w3_c6, 201, .inl (fun _ => 0)))]) C 2 mCI_112 i_Pl t_Pl t_Pl_ok n_Pl rfl rfl (Nat.le_of_ble_eq_true rfl) rfl rfl rfl rfl rfl (Nat.le_of_ble_eq_true rfl) rfl d_Pl_init_28 ?_
  refine y_aload_n (pc := 31) C d_Pl_init_31 rfl 0 rfl ?_
  refine y_new (pc := 32) (ci := 10) (fs := [.null, .null, .null, .null, .int 0, .null, .null, .int 0]) C i_Ro t_Ro t_Ro_ok mCI_109 mCI_61 mCI_17 rfl df_Ro (Nat.le_of_ble_eq_true rfl) (Nat.le_of_ble_eq_true rfl) d_Pl_init_32 (fun q5 => ?_)
  refine y_ws (ws' := [(h, .inr (9, [.ref x1, .ref q1, .ref q3, .null, .null, .null, .null, .int 0, .int 0])), (q1, .inr (10, [.ref w1_q1, .ref w1_q2, .ref w1_q3, .ref w1_q4, .int 0, .ref w1_q5, .ref w1_q6, .int 0])), (w1_q1, .inl (w1_c1, 200, .inl (fun _ => 0))), (w1_q2, .inl (w1_c2, 200, .inr (.inl (fun _ => 0)))), (w1_q3, .inl (w1_c3, 200, .inl (fun _ => 0))), (w1_q4, .inl (w1_c4, 200, .inl (fun _ => 0))), (w1_q5, .inl (w1_c5, 201, .inl (fun _ => 0))), (w1_q6, .inl (w1_c6, 201, .inl (fun _ => 0))), (q3, .inr (10, [.ref w3_q1, .ref w3_q2, .ref w3_q3, .ref w3_q4, .int 0, .ref w3_q5, .ref w3_q6, .int 0])), (w3_q1, .inl (w3_c1, 200, .inl (fun _ => 0))), (w3_q2, .inl (w3_c2, 200, .inr (.inl (fun _ => 0)))), (w3_q3, .inl (w3_c3, 200, .inl (fun _ => 0))), (w3_q4, .inl (w3_c4, 200, .inl (fun _ => 0))), (w3_q5, .inl (w3_c5, 201, .inl (fun _ => 0))), (w3_q6, .inl (w3_c6, 201, .inl (fun _ => 0))), (q5, .inr (10, [.null, .null, .null, .null, .int 0, .null, .null, .int 0]))]) (tys' := [(w1_c1, .int), (w1_c2, .long), (w1_c3, .int), (w1_c4, .int), (w1_c5, .int), (w1_c6, .int), (w3_c1, .int), (w3_c2, .long), (w3_c3, .int), (w3_c4, .int), (w3_c5, .int), (w3_c6, .int)]) rfl rfl ?_
  refine y_dup (pc := 35) C d_Pl_init_35 rfl ?_
  refine y_ctor (pc := 36) (wc := [(q5, .inr (10, [.null, .null, .null, .null, .int 0, .null, .null, .int 0]))]) (wr := [(h, .inr (9, [.ref x1, .ref q1, .ref q3, .null, .null, .null, .null, .int 0, .int 0])), (q1, .inr (10, [.ref w1_q1, .ref w1_q2, .ref w1_q3, .ref w1_q4, .int 0, .ref w1_q5, .ref w1_q6, .int 0])), (w1_q1, .inl (w1_c1, 200, .inl (fun _ => 0))), (w1_q2, .inl (w1_c2, 200, .inr (.inl (fun _ => 0)))), (w1_q3, .inl (w1_c3, 200, .inl (fun _ => 0))), (w1_q4, .inl (w1_c4, 200, .inl (fun _ => 0))), (w1_q5, .inl (w1_c5, 201, .inl (fun _ => 0))), (w1_q6, .inl (w1_c6, 201, .inl (fun _ => 0))), (q3, .inr (10, [.ref w3_q1, .ref w3_q2, .ref w3_q3, .ref w3_q4, .int 0, .ref w3_q5, .ref w3_q6, .int 0])), (w3_q1, .inl (w3_c1, 200, .inl (fun _ => 0))), (w3_q2, .inl (w3_c2, 200, .inr (.inl (fun _ => 0)))), (w3_q3, .inl (w3_c3, 200, .inl (fun _ => 0))), (w3_q4, .inl (w3_c4, 200, .inl (fun _ => 0))), (w3_q5, .inl (w3_c5, 201, .inl (fun _ => 0))), (w3_q6, .inl (w3_c6, 201, .inl (fun _ => 0)))]) C (i_Ro_init (h := q5)) km_Ro_init mCI_63 rfl mCI_110 [15] [0, 1, 2, 3, 4, 5, 6, 7, 8, 9, 10, 11, 12, 13, 14] rfl rfl rfl rfl rfl (by decide) rfl (rmN_of (Nat.le_of_ble_eq_true rfl) (Nat.le_of_ble_eq_true rfl)) ⟨Nat.le_of_ble_eq_true rfl, Nat.le_of_ble_eq_true rfl⟩ rfl (Nat.le_of_ble_eq_true rfl) d_Pl_init_36 (fun w t hwt => ?_)
  obtain ⟨w5_q1, w5_c1, w5_q2, w5_c2, w5_q3, w5_c3, w5_q4, w5_c4, w5_q5, w5_c5, w5_q6, w5_c6, rfl, rfl⟩ := hwt
  refine y_ws (ws' := [(h, .inr (9, [.ref x1, .ref q1, .ref q3, .null, .null, .null, .null, .int 0, .int 0])), (q1, .inr (10, [.ref w1_q1, .ref w1_q2, .ref w1_q3, .ref w1_q4, .int 0, .ref w1_q5, .ref w1_q6, .int 0])), (w1_q1, .inl (w1_c1, 200, .inl (fun _ => 0))), (w1_q2, .inl (w1_c2, 200, .inr (.inl (fun _ => 0)))), (w1_q3, .inl (w1_c3, 200, .inl (fun _ => 0))), (w1_q4, .inl (w1_c4, 200, .inl (fun _ => 0))), (w1_q5, .inl (w1_c5, 201, .inl (fun _ => 0))), (w1_q6, .inl (w1_c6, 201, .inl (fun _ => 0))), (q3, .inr (10, [.ref w3_q1, .ref w3_q2, .ref w3_q3, .ref w3_q4, .int 0, .ref w3_q5, .ref w3_q6, .int 0])), (w3_q1, .inl (w3_c1, 200, .inl (fun _ => 0))), (w3_q2, .inl (w3_c2, 200, .inr (.inl (fun _ => 0)))), (w3_q3, .inl (w3_c3, 200, .inl (fun _ => 0))), (w3_q4, .inl (w3_c4, 200, .inl (fun _ => 0))), (w3_q5, .inl (w3_c5, 201, .inl (fun _ => 0))), (w3_q6, .inl (w3_c6, 201, .inl (fun _ => 0))), (q5, .inr (10, [.ref w5_q1, .ref w5_q2, .ref w5_q3, .ref w5_q4, .int 0, .ref w5_q5, .ref w5_q6, .int 0])), (w5_q1, .inl (w5_c1, 200, .inl (fun _ => 0))), (w5_q2, .inl (w5_c2, 200, .inr (.inl (fun _ => 0)))), (w5_q3, .inl (w5_c3, 200, .inl (fun _ => 0))), (w5_q4, .inl (w5_c4, 200, .inl (fun _ => 0))), (w5_q5, .inl (w5_c5, 201, .inl (fun _ => 0))), (w5_q6, .inl (w5_c6, 201, .inl (fun _ => 0)))]) (tys' := [(w1_c1, .int), (w1_c2, .long), (w1_c3, .int), (w1_c4, .int), (w1_c5, .int), (w1_c6, .int), (w3_c1, .int), (w3_c2, .long), (w3_c3, .int), (w3_c4, .int), (w3_c5, .int), (w3_c6, .int), (w5_c1, .int), (w5_c2, .long), (w5_c3, .int), (w5_c4, .int), (w5_c5, .int), (w5_c6, .int)]) rfl rfl ?_
  refine y_put (pc := 39) (q0 := 0) (v := .ref q5) (ty := .object "KindRounds$Row") (ws' := [(h, .inr (9, [.ref x1, .ref q1, .ref q3, .ref q5, .null, .null, .null, .int 0, .int 0])), (q1, .inr (10, [.ref w1_q1, .ref w1_q2, .ref w1_q3, .ref w1_q4, .int 0, .ref w1_q5, .ref w1_q6, .int 0])), (w1_q1, .inl (w1_c1, 200, .inl (fun _ => 0))), (w1_q2, .inl (w1_c2, 200, .inr (.inl (fun _ => 0)))), (w1_q3, .inl (w1_c3, 200, .inl (fun _ => 0))), (w1_q4, .inl (w1_c4, 200, .inl (fun _ => 0))), (w1_q5, .inl (w1_c5, 201, .inl (fun _ => 0))), (w1_q6, .inl (w1_c6, 201, .inl (fun _ => 0))), (q3, .inr (10, [.ref w3_q1, .ref w3_q2, .ref w3_q3, .ref w3_q4, .int 0, .ref w3_q5, .ref w3_q6, .int 0])), (w3_q1, .inl (w3_c1, 200, .inl (fun _ => 0))), (w3_q2, .inl (w3_c2, 200, .inr (.inl (fun _ => 0)))), (w3_q3, .inl (w3_c3, 200, .inl (fun _ => 0))), (w3_q4, .inl (w3_c4, 200, .inl (fun _ => 0))), (w3_q5, .inl (w3_c5, 201, .inl (fun _ => 0))), (w3_q6, .inl (w3_c6, 201, .inl (fun _ => 0))), (q5, .inr (10, [.ref w5_q1, .ref w5_q2, .ref w5_q3, .ref w5_q4, .int 0, .ref w5_q5, .ref w5_q6, .int 0])), (w5_q1, .inl (w5_c1, 200, .inl (fun _ => 0))), (w5_q2, .inl (w5_c2, 200, .inr (.inl (fun _ => 0)))), (w5_q3, .inl (w5_c3, 200, .inl (fun _ => 0))), (w5_q4, .inl (w5_c4, 200, .inl (fun _ => 0))), (w5_q5, .inl (w5_c5, 201, .inl (fun _ => 0))), (w5_q6, .inl (w5_c6, 201, .inl (fun _ => 0)))]) C 3 mCI_113 i_Pl t_Pl t_Pl_ok n_Pl rfl rfl (Nat.le_of_ble_eq_true rfl) rfl rfl rfl rfl rfl (Nat.le_of_ble_eq_true rfl) rfl d_Pl_init_39 ?_
  refine y_aload_n (pc := 42) C d_Pl_init_42 rfl 0 rfl ?_
  refine y_iconst (pc := 43) C d_Pl_init_43 ki_4 ?_
  refine y_newa (pc := 44) (N' := 4) (a0 := (4, .inl (fun _ => 0))) C mCI_8 rfl (fun _ => rfl) (by decide) (by decide) (by decide) (Nat.le_of_ble_eq_true rfl) (Nat.le_of_ble_eq_true rfl) d_Pl_init_44 (fun q7 c7 => ?_)
  refine y_ws (ws' := [(h, .inr (9, [.ref x1, .ref q1, .ref q3, .ref q5, .null, .null, .null, .int 0, .int 0])), (q1, .inr (10, [.ref w1_q1, .ref w1_q2, .ref w1_q3, .ref w1_q4, .int 0, .ref w1_q5, .ref w1_q6, .int 0])), (w1_q1, .inl (w1_c1, 200, .inl (fun _ => 0))), (w1_q2, .inl (w1_c2, 200, .inr (.inl (fun _ => 0)))), (w1_q3, .inl (w1_c3, 200, .inl (fun _ => 0))), (w1_q4, .inl (w1_c4, 200, .inl (fun _ => 0))), (w1_q5, .inl (w1_c5, 201, .inl (fun _ => 0))), (w1_q6, .inl (w1_c6, 201, .inl (fun _ => 0))), (q3, .inr (10, [.ref w3_q1, .ref w3_q2, .ref w3_q3, .ref w3_q4, .int 0, .ref w3_q5, .ref w3_q6, .int 0])), (w3_q1, .inl (w3_c1, 200, .inl (fun _ => 0))), (w3_q2, .inl (w3_c2, 200, .inr (.inl (fun _ => 0)))), (w3_q3, .inl (w3_c3, 200, .inl (fun _ => 0))), (w3_q4, .inl (w3_c4, 200, .inl (fun _ => 0))), (w3_q5, .inl (w3_c5, 201, .inl (fun _ => 0))), (w3_q6, .inl (w3_c6, 201, .inl (fun _ => 0))), (q5, .inr (10, [.ref w5_q1, .ref w5_q2, .ref w5_q3, .ref w5_q4, .int 0, .ref w5_q5, .ref w5_q6, .int 0])), (w5_q1, .inl (w5_c1, 200, .inl (fun _ => 0))), (w5_q2, .inl (w5_c2, 200, .inr (.inl (fun _ => 0)))), (w5_q3, .inl (w5_c3, 200, .inl (fun _ => 0))), (w5_q4, .inl (w5_c4, 200, .inl (fun _ => 0))), (w5_q5, .inl (w5_c5, 201, .inl (fun _ => 0))), (w5_q6, .inl (w5_c6, 201, .inl (fun _ => 0))), (q7, .inl (c7, 4, .inl (fun _ => 0)))]) (tys' := [(w1_c1, .int), (w1_c2, .long), (w1_c3, .int), (w1_c4, .int), (w1_c5, .int), (w1_c6, .int), (w3_c1, .int), (w3_c2, .long), (w3_c3, .int), (w3_c4, .int), (w3_c5, .int), (w3_c6, .int), (w5_c1, .int), (w5_c2, .long), (w5_c3, .int), (w5_c4, .int), (w5_c5, .int), (w5_c6, .int), (c7, .int)]) rfl rfl ?_
  refine y_putF (pc := 46) (q0 := 0) (v := .ref q7) (ty := .array .int) (ws' := [(h, .inr (9, [.ref x1, .ref q1, .ref q3, .ref q5, .ref q7, .null, .null, .int 0, .int 0])), (q1, .inr (10, [.ref w1_q1, .ref w1_q2, .ref w1_q3, .ref w1_q4, .int 0, .ref w1_q5, .ref w1_q6, .int 0])), (w1_q1, .inl (w1_c1, 200, .inl (fun _ => 0))), (w1_q2, .inl (w1_c2, 200, .inr (.inl (fun _ => 0)))), (w1_q3, .inl (w1_c3, 200, .inl (fun _ => 0))), (w1_q4, .inl (w1_c4, 200, .inl (fun _ => 0))), (w1_q5, .inl (w1_c5, 201, .inl (fun _ => 0))), (w1_q6, .inl (w1_c6, 201, .inl (fun _ => 0))), (q3, .inr (10, [.ref w3_q1, .ref w3_q2, .ref w3_q3, .ref w3_q4, .int 0, .ref w3_q5, .ref w3_q6, .int 0])), (w3_q1, .inl (w3_c1, 200, .inl (fun _ => 0))), (w3_q2, .inl (w3_c2, 200, .inr (.inl (fun _ => 0)))), (w3_q3, .inl (w3_c3, 200, .inl (fun _ => 0))), (w3_q4, .inl (w3_c4, 200, .inl (fun _ => 0))), (w3_q5, .inl (w3_c5, 201, .inl (fun _ => 0))), (w3_q6, .inl (w3_c6, 201, .inl (fun _ => 0))), (q5, .inr (10, [.ref w5_q1, .ref w5_q2, .ref w5_q3, .ref w5_q4, .int 0, .ref w5_q5, .ref w5_q6, .int 0])), (w5_q1, .inl (w5_c1, 200, .inl (fun _ => 0))), (w5_q2, .inl (w5_c2, 200, .inr (.inl (fun _ => 0)))), (w5_q3, .inl (w5_c3, 200, .inl (fun _ => 0))), (w5_q4, .inl (w5_c4, 200, .inl (fun _ => 0))), (w5_q5, .inl (w5_c5, 201, .inl (fun _ => 0))), (w5_q6, .inl (w5_c6, 201, .inl (fun _ => 0))), (q7, .inl (c7, 4, .inl (fun _ => 0)))]) C hin 4 mCI_114 i_Pl t_Pl t_Pl_ok n_Pl rfl rfl (Nat.le_of_ble_eq_true rfl) rfl rfl rfl rfl rfl rfl (Nat.le_of_ble_eq_true rfl) rfl d_Pl_init_46 ?_
  refine y_aload_n (pc := 49) C d_Pl_init_49 rfl 0 rfl ?_
  refine y_sipush (pc := 50) C d_Pl_init_50 ks_200 ?_
  refine y_newa (pc := 53) (N' := 200) (a0 := (200, .inl (fun _ => 0))) C mCI_8 rfl (fun _ => rfl) (by decide) (by decide) (by decide) (Nat.le_of_ble_eq_true rfl) (Nat.le_of_ble_eq_true rfl) d_Pl_init_53 (fun q8 c8 => ?_)
  refine y_ws (ws' := [(h, .inr (9, [.ref x1, .ref q1, .ref q3, .ref q5, .ref q7, .null, .null, .int 0, .int 0])), (q1, .inr (10, [.ref w1_q1, .ref w1_q2, .ref w1_q3, .ref w1_q4, .int 0, .ref w1_q5, .ref w1_q6, .int 0])), (w1_q1, .inl (w1_c1, 200, .inl (fun _ => 0))), (w1_q2, .inl (w1_c2, 200, .inr (.inl (fun _ => 0)))), (w1_q3, .inl (w1_c3, 200, .inl (fun _ => 0))), (w1_q4, .inl (w1_c4, 200, .inl (fun _ => 0))), (w1_q5, .inl (w1_c5, 201, .inl (fun _ => 0))), (w1_q6, .inl (w1_c6, 201, .inl (fun _ => 0))), (q3, .inr (10, [.ref w3_q1, .ref w3_q2, .ref w3_q3, .ref w3_q4, .int 0, .ref w3_q5, .ref w3_q6, .int 0])), (w3_q1, .inl (w3_c1, 200, .inl (fun _ => 0))), (w3_q2, .inl (w3_c2, 200, .inr (.inl (fun _ => 0)))), (w3_q3, .inl (w3_c3, 200, .inl (fun _ => 0))), (w3_q4, .inl (w3_c4, 200, .inl (fun _ => 0))), (w3_q5, .inl (w3_c5, 201, .inl (fun _ => 0))), (w3_q6, .inl (w3_c6, 201, .inl (fun _ => 0))), (q5, .inr (10, [.ref w5_q1, .ref w5_q2, .ref w5_q3, .ref w5_q4, .int 0, .ref w5_q5, .ref w5_q6, .int 0])), (w5_q1, .inl (w5_c1, 200, .inl (fun _ => 0))), (w5_q2, .inl (w5_c2, 200, .inr (.inl (fun _ => 0)))), (w5_q3, .inl (w5_c3, 200, .inl (fun _ => 0))), (w5_q4, .inl (w5_c4, 200, .inl (fun _ => 0))), (w5_q5, .inl (w5_c5, 201, .inl (fun _ => 0))), (w5_q6, .inl (w5_c6, 201, .inl (fun _ => 0))), (q7, .inl (c7, 4, .inl (fun _ => 0))), (q8, .inl (c8, 200, .inl (fun _ => 0)))]) (tys' := [(w1_c1, .int), (w1_c2, .long), (w1_c3, .int), (w1_c4, .int), (w1_c5, .int), (w1_c6, .int), (w3_c1, .int), (w3_c2, .long), (w3_c3, .int), (w3_c4, .int), (w3_c5, .int), (w3_c6, .int), (w5_c1, .int), (w5_c2, .long), (w5_c3, .int), (w5_c4, .int), (w5_c5, .int), (w5_c6, .int), (c7, .int), (c8, .int)]) rfl rfl ?_
  refine y_putF (pc := 55) (q0 := 0) (v := .ref q8) (ty := .array .int) (ws' := [(h, .inr (9, [.ref x1, .ref q1, .ref q3, .ref q5, .ref q7, .ref q8, .null, .int 0, .int 0])), (q1, .inr (10, [.ref w1_q1, .ref w1_q2, .ref w1_q3, .ref w1_q4, .int 0, .ref w1_q5, .ref w1_q6, .int 0])), (w1_q1, .inl (w1_c1, 200, .inl (fun _ => 0))), (w1_q2, .inl (w1_c2, 200, .inr (.inl (fun _ => 0)))), (w1_q3, .inl (w1_c3, 200, .inl (fun _ => 0))), (w1_q4, .inl (w1_c4, 200, .inl (fun _ => 0))), (w1_q5, .inl (w1_c5, 201, .inl (fun _ => 0))), (w1_q6, .inl (w1_c6, 201, .inl (fun _ => 0))), (q3, .inr (10, [.ref w3_q1, .ref w3_q2, .ref w3_q3, .ref w3_q4, .int 0, .ref w3_q5, .ref w3_q6, .int 0])), (w3_q1, .inl (w3_c1, 200, .inl (fun _ => 0))), (w3_q2, .inl (w3_c2, 200, .inr (.inl (fun _ => 0)))), (w3_q3, .inl (w3_c3, 200, .inl (fun _ => 0))), (w3_q4, .inl (w3_c4, 200, .inl (fun _ => 0))), (w3_q5, .inl (w3_c5, 201, .inl (fun _ => 0))), (w3_q6, .inl (w3_c6, 201, .inl (fun _ => 0))), (q5, .inr (10, [.ref w5_q1, .ref w5_q2, .ref w5_q3, .ref w5_q4, .int 0, .ref w5_q5, .ref w5_q6, .int 0])), (w5_q1, .inl (w5_c1, 200, .inl (fun _ => 0))), (w5_q2, .inl (w5_c2, 200, .inr (.inl (fun _ => 0)))), (w5_q3, .inl (w5_c3, 200, .inl (fun _ => 0))), (w5_q4, .inl (w5_c4, 200, .inl (fun _ => 0))), (w5_q5, .inl (w5_c5, 201, .inl (fun _ => 0))), (w5_q6, .inl (w5_c6, 201, .inl (fun _ => 0))), (q7, .inl (c7, 4, .inl (fun _ => 0))), (q8, .inl (c8, 200, .inl (fun _ => 0)))]) C hin 5 mCI_115 i_Pl t_Pl t_Pl_ok n_Pl rfl rfl (Nat.le_of_ble_eq_true rfl) rfl rfl rfl rfl rfl rfl (Nat.le_of_ble_eq_true rfl) rfl d_Pl_init_55 ?_
  refine y_aload_n (pc := 58) C d_Pl_init_58 rfl 0 rfl ?_
  refine y_sipush (pc := 59) C d_Pl_init_59 ks_200 ?_
  refine y_newa (pc := 62) (N' := 200) (a0 := (200, .inl (fun _ => 0))) C mCI_8 rfl (fun _ => rfl) (by decide) (by decide) (by decide) (Nat.le_of_ble_eq_true rfl) (Nat.le_of_ble_eq_true rfl) d_Pl_init_62 (fun q9 c9 => ?_)
  refine y_ws (ws' := [(h, .inr (9, [.ref x1, .ref q1, .ref q3, .ref q5, .ref q7, .ref q8, .null, .int 0, .int 0])), (q1, .inr (10, [.ref w1_q1, .ref w1_q2, .ref w1_q3, .ref w1_q4, .int 0, .ref w1_q5, .ref w1_q6, .int 0])), (w1_q1, .inl (w1_c1, 200, .inl (fun _ => 0))), (w1_q2, .inl (w1_c2, 200, .inr (.inl (fun _ => 0)))), (w1_q3, .inl (w1_c3, 200, .inl (fun _ => 0))), (w1_q4, .inl (w1_c4, 200, .inl (fun _ => 0))), (w1_q5, .inl (w1_c5, 201, .inl (fun _ => 0))), (w1_q6, .inl (w1_c6, 201, .inl (fun _ => 0))), (q3, .inr (10, [.ref w3_q1, .ref w3_q2, .ref w3_q3, .ref w3_q4, .int 0, .ref w3_q5, .ref w3_q6, .int 0])), (w3_q1, .inl (w3_c1, 200, .inl (fun _ => 0))), (w3_q2, .inl (w3_c2, 200, .inr (.inl (fun _ => 0)))), (w3_q3, .inl (w3_c3, 200, .inl (fun _ => 0))), (w3_q4, .inl (w3_c4, 200, .inl (fun _ => 0))), (w3_q5, .inl (w3_c5, 201, .inl (fun _ => 0))), (w3_q6, .inl (w3_c6, 201, .inl (fun _ => 0))), (q5, .inr (10, [.ref w5_q1, .ref w5_q2, .ref w5_q3, .ref w5_q4, .int 0, .ref w5_q5, .ref w5_q6, .int 0])), (w5_q1, .inl (w5_c1, 200, .inl (fun _ => 0))), (w5_q2, .inl (w5_c2, 200, .inr (.inl (fun _ => 0)))), (w5_q3, .inl (w5_c3, 200, .inl (fun _ => 0))), (w5_q4, .inl (w5_c4, 200, .inl (fun _ => 0))), (w5_q5, .inl (w5_c5, 201, .inl (fun _ => 0))), (w5_q6, .inl (w5_c6, 201, .inl (fun _ => 0))), (q7, .inl (c7, 4, .inl (fun _ => 0))), (q8, .inl (c8, 200, .inl (fun _ => 0))), (q9, .inl (c9, 200, .inl (fun _ => 0)))]) (tys' := [(w1_c1, .int), (w1_c2, .long), (w1_c3, .int), (w1_c4, .int), (w1_c5, .int), (w1_c6, .int), (w3_c1, .int), (w3_c2, .long), (w3_c3, .int), (w3_c4, .int), (w3_c5, .int), (w3_c6, .int), (w5_c1, .int), (w5_c2, .long), (w5_c3, .int), (w5_c4, .int), (w5_c5, .int), (w5_c6, .int), (c7, .int), (c8, .int), (c9, .int)]) rfl rfl ?_
  refine y_putF (pc := 64) (q0 := 0) (v := .ref q9) (ty := .array .int) (ws' := [(h, .inr (9, [.ref x1, .ref q1, .ref q3, .ref q5, .ref q7, .ref q8, .ref q9, .int 0, .int 0])), (q1, .inr (10, [.ref w1_q1, .ref w1_q2, .ref w1_q3, .ref w1_q4, .int 0, .ref w1_q5, .ref w1_q6, .int 0])), (w1_q1, .inl (w1_c1, 200, .inl (fun _ => 0))), (w1_q2, .inl (w1_c2, 200, .inr (.inl (fun _ => 0)))), (w1_q3, .inl (w1_c3, 200, .inl (fun _ => 0))), (w1_q4, .inl (w1_c4, 200, .inl (fun _ => 0))), (w1_q5, .inl (w1_c5, 201, .inl (fun _ => 0))), (w1_q6, .inl (w1_c6, 201, .inl (fun _ => 0))), (q3, .inr (10, [.ref w3_q1, .ref w3_q2, .ref w3_q3, .ref w3_q4, .int 0, .ref w3_q5, .ref w3_q6, .int 0])), (w3_q1, .inl (w3_c1, 200, .inl (fun _ => 0))), (w3_q2, .inl (w3_c2, 200, .inr (.inl (fun _ => 0)))), (w3_q3, .inl (w3_c3, 200, .inl (fun _ => 0))), (w3_q4, .inl (w3_c4, 200, .inl (fun _ => 0))), (w3_q5, .inl (w3_c5, 201, .inl (fun _ => 0))), (w3_q6, .inl (w3_c6, 201, .inl (fun _ => 0))), (q5, .inr (10, [.ref w5_q1, .ref w5_q2, .ref w5_q3, .ref w5_q4, .int 0, .ref w5_q5, .ref w5_q6, .int 0])), (w5_q1, .inl (w5_c1, 200, .inl (fun _ => 0))), (w5_q2, .inl (w5_c2, 200, .inr (.inl (fun _ => 0)))), (w5_q3, .inl (w5_c3, 200, .inl (fun _ => 0))), (w5_q4, .inl (w5_c4, 200, .inl (fun _ => 0))), (w5_q5, .inl (w5_c5, 201, .inl (fun _ => 0))), (w5_q6, .inl (w5_c6, 201, .inl (fun _ => 0))), (q7, .inl (c7, 4, .inl (fun _ => 0))), (q8, .inl (c8, 200, .inl (fun _ => 0))), (q9, .inl (c9, 200, .inl (fun _ => 0)))]) C hin 6 mCI_116 i_Pl t_Pl t_Pl_ok n_Pl rfl rfl (Nat.le_of_ble_eq_true rfl) rfl rfl rfl rfl rfl rfl (Nat.le_of_ble_eq_true rfl) rfl d_Pl_init_64 ?_
  refine y_ret (pc := 67) C hr ?_ ?_ ?_ d_Pl_init_67
  · exact Nat.le_of_ble_eq_true rfl
  · exact Nat.le_of_ble_eq_true rfl
  · exact ⟨q1, w1_q1, w1_c1, w1_q2, w1_c2, w1_q3, w1_c3, w1_q4, w1_c4, w1_q5, w1_c5, w1_q6, w1_c6, q3, w3_q1, w3_c1, w3_q2, w3_c2, w3_q3, w3_c3, w3_q4, w3_c4, w3_q5, w3_c5, w3_q6, w3_c6, q5, w5_q1, w5_c1, w5_q2, w5_c2, w5_q3, w5_c3, w5_q4, w5_c4, w5_q5, w5_c5, w5_q6, w5_c6, q7, c7, q8, c8, q9, c9, rfl, rfl⟩
/-- the state behind KindRounds() -/
def σC0 : zS := (fun k => if k = 306 then 1 else if k = 307 then 1 else 0, fun k => if k = 25 then upd (fun _ => 0) 0 (-1 : Int32) else fun _ => 0, fun _ => 0, fun _ _ => 0, fun k => if k = 10 then 17 else if k = 11 then 18 else if k = 605 then 10 else if k = 901 then 12 else if k = 902 then 13 else if k = 903 then 14 else 0, fun _ => 0, fun _ _ => 0, fun _ _ => 0)
set_option maxHeartbeats 4000000 in
set_option maxRecDepth 100000 in
theorem i_Q_init {l : Launch} {D : va_G} {h : Nat} : kN l D clC y_Q_init bc_Q_init 1 3 93 37897 h [] [(h, .inr (0, [.null, .null, .null, .null, .null, .null, .null, .null, .null, .null, .null, .null]))] (fun w t => ∃ (ad : Nat → Nat) (cA : Nat → ClassId), ad 0 = h ∧ w = wdC ad cA σC0 ∧ t = tysC cA) := by
  refine kN_of (by decide) rfl (Nat.le_of_ble_eq_true rfl) ?_
  intro p e s m below meth c A C hr hin hAe
  refine y_lv (lv' := [(0, .ref h)]) [0] rfl ?_
  refine y_aload_n (pc := 0) C d_Q_init_0 rfl 0 rfl ?_
  refine y_obj (pc := 1) C mCI_119 mCI_1 mCI_2 (by decide) (by decide) d_Q_init_1 ?_
  refine y_aload_n (pc := 4) C d_Q_init_4 rfl 0 rfl ?_
  refine y_new (pc := 5) (ci := 1) (fs := [.null, .int 0, .null, .null, .null, .int 0, .int 0]) C i_Ta t_Ta t_Ta_ok mCI_120 mCI_121 mCI_24 rfl df_Ta (Nat.le_of_ble_eq_true rfl) (Nat.le_of_ble_eq_true rfl) d_Q_init_5 (fun q1 => ?_)
  refine y_ws (ws' := [(h, .inr (0, [.null, .null, .null, .null, .null, .null, .null, .null, .null, .null, .null, .null])), (q1, .inr (1, [.null, .int 0, .null, .null, .null, .int 0, .int 0]))]) (tys' := []) rfl rfl ?_
  refine y_dup (pc := 8) C d_Q_init_8 rfl ?_
  refine y_ctor (pc := 9) (wc := [(q1, .inr (1, [.null, .int 0, .null, .null, .null, .int 0, .int 0]))]) (wr := [(h, .inr (0, [.null, .null, .null, .null, .null, .null, .null, .null, .null, .null, .null, .null]))]) C (i_Ta_init (h := q1)) km_Ta_init mCI_123 rfl mCI_122 [1] [0] rfl rfl rfl rfl rfl (by decide) rfl (rmN_of (Nat.le_of_ble_eq_true rfl) (Nat.le_of_ble_eq_true rfl)) ⟨Nat.le_of_ble_eq_true rfl, Nat.le_of_ble_eq_true rfl⟩ rfl (Nat.le_of_ble_eq_true rfl) d_Q_init_9 (fun w t hwt => ?_)
  obtain ⟨w1_q1, w1_c1, w1_q2, w1_c2, w1_q3, w1_c3, w1_q4, w1_c4, rfl, rfl⟩ := hwt
  refine y_ws (ws' := [(h, .inr (0, [.null, .null, .null, .null, .null, .null, .null, .null, .null, .null, .null, .null])), (q1, .inr (1, [.ref w1_q1, .int 0, .ref w1_q2, .ref w1_q3, .ref w1_q4, .int 0, .int 0])), (w1_q1, .inl (w1_c1, 1200, .inl (fun _ => 0))), (w1_q2, .inl (w1_c2, 1201, .inl (fun _ => 0))), (w1_q3, .inl (w1_c3, 1201, .inr (.inl (fun _ => 0)))), (w1_q4, .inl (w1_c4, 1201, .inl (fun _ => 0)))]) (tys' := [(w1_c1, .int), (w1_c2, .int), (w1_c3, .long), (w1_c4, .int)]) rfl rfl ?_
  refine y_putF (pc := 12) (q0 := 0) (v := .ref q1) (ty := .object "KindRounds$Tape") (ws' := [(h, .inr (0, [.ref q1, .null, .null, .null, .null, .null, .null, .null, .null, .null, .null, .null])), (q1, .inr (1, [.ref w1_q1, .int 0, .ref w1_q2, .ref w1_q3, .ref w1_q4, .int 0, .int 0])), (w1_q1, .inl (w1_c1, 1200, .inl (fun _ => 0))), (w1_q2, .inl (w1_c2, 1201, .inl (fun _ => 0))), (w1_q3, .inl (w1_c3, 1201, .inr (.inl (fun _ => 0)))), (w1_q4, .inl (w1_c4, 1201, .inl (fun _ => 0)))]) C hin 0 mCI_124 i_Q t_Q t_Q_ok n_Q rfl rfl (Nat.le_of_ble_eq_true rfl) rfl rfl rfl rfl rfl rfl (Nat.le_of_ble_eq_true rfl) rfl d_Q_init_12 ?_
  refine y_aload_n (pc := 15) C d_Q_init_15 rfl 0 rfl ?_
  refine y_new (pc := 16) (ci := 2) (fs := [.int 0, .int 0, .null, .null]) C i_Fa t_Fa t_Fa_ok mCI_125 mCI_126 mCI_33 rfl df_Fa (Nat.le_of_ble_eq_true rfl) (Nat.le_of_ble_eq_true rfl) d_Q_init_16 (fun q3 => ?_)
  refine y_ws (ws' := [(h, .inr (0, [.ref q1, .null, .null, .null, .null, .null, .null, .null, .null, .null, .null, .null])), (q1, .inr (1, [.ref w1_q1, .int 0, .ref w1_q2, .ref w1_q3, .ref w1_q4, .int 0, .int 0])), (w1_q1, .inl (w1_c1, 1200, .inl (fun _ => 0))), (w1_q2, .inl (w1_c2, 1201, .inl (fun _ => 0))), (w1_q3, .inl (w1_c3, 1201, .inr (.inl (fun _ => 0)))), (w1_q4, .inl (w1_c4, 1201, .inl (fun _ => 0))), (q3, .inr (2, [.int 0, .int 0, .null, .null]))]) (tys' := [(w1_c1, .int), (w1_c2, .int), (w1_c3, .long), (w1_c4, .int)]) rfl rfl ?_
  refine y_dup (pc := 19) C d_Q_init_19 rfl ?_
  refine y_ctor (pc := 20) (wc := [(q3, .inr (2, [.int 0, .int 0, .null, .null]))]) (wr := [(h, .inr (0, [.ref q1, .null, .null, .null, .null, .null, .null, .null, .null, .null, .null, .null])), (q1, .inr (1, [.ref w1_q1, .int 0, .ref w1_q2, .ref w1_q3, .ref w1_q4, .int 0, .int 0])), (w1_q1, .inl (w1_c1, 1200, .inl (fun _ => 0))), (w1_q2, .inl (w1_c2, 1201, .inl (fun _ => 0))), (w1_q3, .inl (w1_c3, 1201, .inr (.inl (fun _ => 0)))), (w1_q4, .inl (w1_c4, 1201, .inl (fun _ => 0)))]) C (i_Fa_init (h := q3)) km_Fa_init mCI_128 rfl mCI_127 [6] [0, 1, 2, 3, 4, 5] rfl rfl rfl rfl rfl (by decide) rfl (rmN_of (Nat.le_of_ble_eq_true rfl) (Nat.le_of_ble_eq_true rfl)) ⟨Nat.le_of_ble_eq_true rfl, Nat.le_of_ble_eq_true rfl⟩ rfl (Nat.le_of_ble_eq_true rfl) d_Q_init_20 (fun w t hwt => ?_)
  obtain ⟨w3_q1, w3_w1_q1, w3_w1_c1, w3_q3, w3_w3_q1, w3_w3_c1, rfl, rfl⟩ := hwt
  refine y_ws (ws' := [(h, .inr (0, [.ref q1, .null, .null, .null, .null, .null, .null, .null, .null, .null, .null, .null])), (q1, .inr (1, [.ref w1_q1, .int 0, .ref w1_q2, .ref w1_q3, .ref w1_q4, .int 0, .int 0])), (w1_q1, .inl (w1_c1, 1200, .inl (fun _ => 0))), (w1_q2, .inl (w1_c2, 1201, .inl (fun _ => 0))), (w1_q3, .inl (w1_c3, 1201, .inr (.inl (fun _ => 0)))), (w1_q4, .inl (w1_c4, 1201, .inl (fun _ => 0))), (q3, .inr (2, [.int 0, .int 0, .ref w3_q1, .ref w3_q3])), (w3_q1, .inr (11, [.ref w3_w1_q1, .int 0])), (w3_w1_q1, .inl (w3_w1_c1, 2400, .inl (fun _ => 0))), (w3_q3, .inr (11, [.ref w3_w3_q1, .int 0])), (w3_w3_q1, .inl (w3_w3_c1, 2400, .inl (fun _ => 0)))]) (tys' := [(w1_c1, .int), (w1_c2, .int), (w1_c3, .long), (w1_c4, .int), (w3_w1_c1, .byte), (w3_w3_c1, .byte)]) rfl rfl ?_
  refine y_putF (pc := 23) (q0 := 0) (v := .ref q3) (ty := .object "KindRounds$Fault") (ws' := [(h, .inr (0, [.ref q1, .ref q3, .null, .null, .null, .null, .null, .null, .null, .null, .null, .null])), (q1, .inr (1, [.ref w1_q1, .int 0, .ref w1_q2, .ref w1_q3, .ref w1_q4, .int 0, .int 0])), (w1_q1, .inl (w1_c1, 1200, .inl (fun _ => 0))), (w1_q2, .inl (w1_c2, 1201, .inl (fun _ => 0))), (w1_q3, .inl (w1_c3, 1201, .inr (.inl (fun _ => 0)))), (w1_q4, .inl (w1_c4, 1201, .inl (fun _ => 0))), (q3, .inr (2, [.int 0, .int 0, .ref w3_q1, .ref w3_q3])), (w3_q1, .inr (11, [.ref w3_w1_q1, .int 0])), (w3_w1_q1, .inl (w3_w1_c1, 2400, .inl (fun _ => 0))), (w3_q3, .inr (11, [.ref w3_w3_q1, .int 0])), (w3_w3_q1, .inl (w3_w3_c1, 2400, .inl (fun _ => 0)))]) C hin 1 mCI_129 i_Q t_Q t_Q_ok n_Q rfl rfl (Nat.le_of_ble_eq_true rfl) rfl rfl rfl rfl rfl rfl (Nat.le_of_ble_eq_true rfl) rfl d_Q_init_23 ?_
  refine y_aload_n (pc := 26) C d_Q_init_26 rfl 0 rfl ?_
  refine y_new (pc := 27) (ci := 3) (fs := [.null, .null, .null, .null, .null, .null, .int 0, .int 0, .int 0, .int 0, .int 0]) C i_Ki t_Ki t_Ki_ok mCI_130 mCI_131 mCI_44 rfl df_Ki (Nat.le_of_ble_eq_true rfl) (Nat.le_of_ble_eq_true rfl) d_Q_init_27 (fun q5 => ?_)
  refine y_ws (ws' := [(h, .inr (0, [.ref q1, .ref q3, .null, .null, .null, .null, .null, .null, .null, .null, .null, .null])), (q1, .inr (1, [.ref w1_q1, .int 0, .ref w1_q2, .ref w1_q3, .ref w1_q4, .int 0, .int 0])), (w1_q1, .inl (w1_c1, 1200, .inl (fun _ => 0))), (w1_q2, .inl (w1_c2, 1201, .inl (fun _ => 0))), (w1_q3, .inl (w1_c3, 1201, .inr (.inl (fun _ => 0)))), (w1_q4, .inl (w1_c4, 1201, .inl (fun _ => 0))), (q3, .inr (2, [.int 0, .int 0, .ref w3_q1, .ref w3_q3])), (w3_q1, .inr (11, [.ref w3_w1_q1, .int 0])), (w3_w1_q1, .inl (w3_w1_c1, 2400, .inl (fun _ => 0))), (w3_q3, .inr (11, [.ref w3_w3_q1, .int 0])), (w3_w3_q1, .inl (w3_w3_c1, 2400, .inl (fun _ => 0))), (q5, .inr (3, [.null, .null, .null, .null, .null, .null, .int 0, .int 0, .int 0, .int 0, .int 0]))]) (tys' := [(w1_c1, .int), (w1_c2, .int), (w1_c3, .long), (w1_c4, .int), (w3_w1_c1, .byte), (w3_w3_c1, .byte)]) rfl rfl ?_
  refine y_dup (pc := 30) C d_Q_init_30 rfl ?_
  refine y_ctor (pc := 31) (wc := [(q5, .inr (3, [.null, .null, .null, .null, .null, .null, .int 0, .int 0, .int 0, .int 0, .int 0]))]) (wr := [(h, .inr (0, [.ref q1, .ref q3, .null, .null, .null, .null, .null, .null, .null, .null, .null, .null])), (q1, .inr (1, [.ref w1_q1, .int 0, .ref w1_q2, .ref w1_q3, .ref w1_q4, .int 0, .int 0])), (w1_q1, .inl (w1_c1, 1200, .inl (fun _ => 0))), (w1_q2, .inl (w1_c2, 1201, .inl (fun _ => 0))), (w1_q3, .inl (w1_c3, 1201, .inr (.inl (fun _ => 0)))), (w1_q4, .inl (w1_c4, 1201, .inl (fun _ => 0))), (q3, .inr (2, [.int 0, .int 0, .ref w3_q1, .ref w3_q3])), (w3_q1, .inr (11, [.ref w3_w1_q1, .int 0])), (w3_w1_q1, .inl (w3_w1_c1, 2400, .inl (fun _ => 0))), (w3_q3, .inr (11, [.ref w3_w3_q1, .int 0])), (w3_w3_q1, .inl (w3_w3_c1, 2400, .inl (fun _ => 0)))]) C (i_Ki_init (h := q5)) km_Ki_init mCI_133 rfl mCI_132 [11] [0, 1, 2, 3, 4, 5, 6, 7, 8, 9, 10] rfl rfl rfl rfl rfl (by decide) rfl (rmN_of (Nat.le_of_ble_eq_true rfl) (Nat.le_of_ble_eq_true rfl)) ⟨Nat.le_of_ble_eq_true rfl, Nat.le_of_ble_eq_true rfl⟩ rfl (Nat.le_of_ble_eq_true rfl) d_Q_init_31 (fun w t hwt => ?_)
  obtain ⟨w5_q1, w5_c1, w5_q2, w5_c2, w5_q3, w5_c3, w5_q4, w5_c4, w5_q5, w5_c5, w5_q6, w5_c6, rfl, rfl⟩ := hwt
  refine y_ws (ws' := [(h, .inr (0, [.ref q1, .ref q3, .null, .null, .null, .null, .null, .null, .null, .null, .null, .null])), (q1, .inr (1, [.ref w1_q1, .int 0, .ref w1_q2, .ref w1_q3, .ref w1_q4, .int 0, .int 0])), (w1_q1, .inl (w1_c1, 1200, .inl (fun _ => 0))), (w1_q2, .inl (w1_c2, 1201, .inl (fun _ => 0))), (w1_q3, .inl (w1_c3, 1201, .inr (.inl (fun _ => 0)))), (w1_q4, .inl (w1_c4, 1201, .inl (fun _ => 0))), (q3, .inr (2, [.int 0, .int 0, .ref w3_q1, .ref w3_q3])), (w3_q1, .inr (11, [.ref w3_w1_q1, .int 0])), (w3_w1_q1, .inl (w3_w1_c1, 2400, .inl (fun _ => 0))), (w3_q3, .inr (11, [.ref w3_w3_q1, .int 0])), (w3_w3_q1, .inl (w3_w3_c1, 2400, .inl (fun _ => 0))), (q5, .inr (3, [.ref w5_q1, .ref w5_q2, .ref w5_q3, .ref w5_q4, .ref w5_q5, .ref w5_q6, .int (1 : Int32), .int (1 : Int32), .int 0, .int 0, .int 0])), (w5_q1, .inl (w5_c1, 1713, .inl (fun _ => 0))), (w5_q2, .inl (w5_c2, 1713, .inl (fun _ => 0))), (w5_q3, .inl (w5_c3, 1713, .inl (upd (fun _ => 0) 0 (-1 : Int32)))), (w5_q4, .inl (w5_c4, 1713, .inl (fun _ => 0))), (w5_q5, .inl (w5_c5, 1713, .inl (fun _ => 0))), (w5_q6, .inl (w5_c6, 3434, .inl (fun _ => 0)))]) (tys' := [(w1_c1, .int), (w1_c2, .int), (w1_c3, .long), (w1_c4, .int), (w3_w1_c1, .byte), (w3_w3_c1, .byte), (w5_c1, .int), (w5_c2, .int), (w5_c3, .int), (w5_c4, .int), (w5_c5, .int), (w5_c6, .int)]) rfl rfl ?_
  refine y_putF (pc := 34) (q0 := 0) (v := .ref q5) (ty := .object "KindRounds$Kinds") (ws' := [(h, .inr (0, [.ref q1, .ref q3, .ref q5, .null, .null, .null, .null, .null, .null, .null, .null, .null])), (q1, .inr (1, [.ref w1_q1, .int 0, .ref w1_q2, .ref w1_q3, .ref w1_q4, .int 0, .int 0])), (w1_q1, .inl (w1_c1, 1200, .inl (fun _ => 0))), (w1_q2, .inl (w1_c2, 1201, .inl (fun _ => 0))), (w1_q3, .inl (w1_c3, 1201, .inr (.inl (fun _ => 0)))), (w1_q4, .inl (w1_c4, 1201, .inl (fun _ => 0))), (q3, .inr (2, [.int 0, .int 0, .ref w3_q1, .ref w3_q3])), (w3_q1, .inr (11, [.ref w3_w1_q1, .int 0])), (w3_w1_q1, .inl (w3_w1_c1, 2400, .inl (fun _ => 0))), (w3_q3, .inr (11, [.ref w3_w3_q1, .int 0])), (w3_w3_q1, .inl (w3_w3_c1, 2400, .inl (fun _ => 0))), (q5, .inr (3, [.ref w5_q1, .ref w5_q2, .ref w5_q3, .ref w5_q4, .ref w5_q5, .ref w5_q6, .int (1 : Int32), .int (1 : Int32), .int 0, .int 0, .int 0])), (w5_q1, .inl (w5_c1, 1713, .inl (fun _ => 0))), (w5_q2, .inl (w5_c2, 1713, .inl (fun _ => 0))), (w5_q3, .inl (w5_c3, 1713, .inl (upd (fun _ => 0) 0 (-1 : Int32)))), (w5_q4, .inl (w5_c4, 1713, .inl (fun _ => 0))), (w5_q5, .inl (w5_c5, 1713, .inl (fun _ => 0))), (w5_q6, .inl (w5_c6, 3434, .inl (fun _ => 0)))]) C hin 2 mCI_134 i_Q t_Q t_Q_ok n_Q rfl rfl (Nat.le_of_ble_eq_true rfl) rfl rfl rfl rfl rfl rfl (Nat.le_of_ble_eq_true rfl) rfl d_Q_init_34 ?_
  refine y_aload_n (pc := 37) C d_Q_init_37 rfl 0 rfl ?_
  refine y_new (pc := 38) (ci := 4) (fs := [.int 0, .null, .null, .null, .null, .null, .null, .null, .null, .null, .null, .null, .int 0, .null, .null, .null, .null]) C i_Te t_Te t_Te_ok mCI_135 mCI_136 mCI_66 rfl df_Te (Nat.le_of_ble_eq_true rfl) (Nat.le_of_ble_eq_true rfl) d_Q_init_38 (fun q7 => ?_)
  refine y_ws (ws' := [(h, .inr (0, [.ref q1, .ref q3, .ref q5, .null, .null, .null, .null, .null, .null, .null, .null, .null])), (q1, .inr (1, [.ref w1_q1, .int 0, .ref w1_q2, .ref w1_q3, .ref w1_q4, .int 0, .int 0])), (w1_q1, .inl (w1_c1, 1200, .inl (fun _ => 0))), (w1_q2, .inl (w1_c2, 1201, .inl (fun _ => 0))), (w1_q3, .inl (w1_c3, 1201, .inr (.inl (fun _ => 0)))), (w1_q4, .inl (w1_c4, 1201, .inl (fun _ => 0))), (q3, .inr (2, [.int 0, .int 0, .ref w3_q1, .ref w3_q3])), (w3_q1, .inr (11, [.ref w3_w1_q1, .int 0])), (w3_w1_q1, .inl (w3_w1_c1, 2400, .inl (fun _ => 0))), (w3_q3, .inr (11, [.ref w3_w3_q1, .int 0])), (w3_w3_q1, .inl (w3_w3_c1, 2400, .inl (fun _ => 0))), (q5, .inr (3, [.ref w5_q1, .ref w5_q2, .ref w5_q3, .ref w5_q4, .ref w5_q5, .ref w5_q6, .int (1 : Int32), .int (1 : Int32), .int 0, .int 0, .int 0])), (w5_q1, .inl (w5_c1, 1713, .inl (fun _ => 0))), (w5_q2, .inl (w5_c2, 1713, .inl (fun _ => 0))), (w5_q3, .inl (w5_c3, 1713, .inl (upd (fun _ => 0) 0 (-1 : Int32)))), (w5_q4, .inl (w5_c4, 1713, .inl (fun _ => 0))), (w5_q5, .inl (w5_c5, 1713, .inl (fun _ => 0))), (w5_q6, .inl (w5_c6, 3434, .inl (fun _ => 0))), (q7, .inr (4, [.int 0, .null, .null, .null, .null, .null, .null, .null, .null, .null, .null, .null, .int 0, .null, .null, .null, .null]))]) (tys' := [(w1_c1, .int), (w1_c2, .int), (w1_c3, .long), (w1_c4, .int), (w3_w1_c1, .byte), (w3_w3_c1, .byte), (w5_c1, .int), (w5_c2, .int), (w5_c3, .int), (w5_c4, .int), (w5_c5, .int), (w5_c6, .int)]) rfl rfl ?_
  refine y_dup (pc := 41) C d_Q_init_41 rfl ?_
  refine y_ctor (pc := 42) (wc := [(q7, .inr (4, [.int 0, .null, .null, .null, .null, .null, .null, .null, .null, .null, .null, .null, .int 0, .null, .null, .null, .null]))]) (wr := [(h, .inr (0, [.ref q1, .ref q3, .ref q5, .null, .null, .null, .null, .null, .null, .null, .null, .null])), (q1, .inr (1, [.ref w1_q1, .int 0, .ref w1_q2, .ref w1_q3, .ref w1_q4, .int 0, .int 0])), (w1_q1, .inl (w1_c1, 1200, .inl (fun _ => 0))), (w1_q2, .inl (w1_c2, 1201, .inl (fun _ => 0))), (w1_q3, .inl (w1_c3, 1201, .inr (.inl (fun _ => 0)))), (w1_q4, .inl (w1_c4, 1201, .inl (fun _ => 0))), (q3, .inr (2, [.int 0, .int 0, .ref w3_q1, .ref w3_q3])), (w3_q1, .inr (11, [.ref w3_w1_q1, .int 0])), (w3_w1_q1, .inl (w3_w1_c1, 2400, .inl (fun _ => 0))), (w3_q3, .inr (11, [.ref w3_w3_q1, .int 0])), (w3_w3_q1, .inl (w3_w3_c1, 2400, .inl (fun _ => 0))), (q5, .inr (3, [.ref w5_q1, .ref w5_q2, .ref w5_q3, .ref w5_q4, .ref w5_q5, .ref w5_q6, .int (1 : Int32), .int (1 : Int32), .int 0, .int 0, .int 0])), (w5_q1, .inl (w5_c1, 1713, .inl (fun _ => 0))), (w5_q2, .inl (w5_c2, 1713, .inl (fun _ => 0))), (w5_q3, .inl (w5_c3, 1713, .inl (upd (fun _ => 0) 0 (-1 : Int32)))), (w5_q4, .inl (w5_c4, 1713, .inl (fun _ => 0))), (w5_q5, .inl (w5_c5, 1713, .inl (fun _ => 0))), (w5_q6, .inl (w5_c6, 3434, .inl (fun _ => 0)))]) C (i_Te_init (h := q7)) km_Te_init mCI_138 rfl mCI_137 [18] [0, 1, 2, 3, 4, 5, 6, 7, 8, 9, 10, 11, 12, 13, 14, 15, 16, 17] rfl rfl rfl rfl rfl (by decide) rfl (rmN_of (Nat.le_of_ble_eq_true rfl) (Nat.le_of_ble_eq_true rfl)) ⟨Nat.le_of_ble_eq_true rfl, Nat.le_of_ble_eq_true rfl⟩ rfl (Nat.le_of_ble_eq_true rfl) d_Q_init_42 (fun w t hwt => ?_)
  obtain ⟨w7_q1, w7_c1, w7_q2, w7_c2, w7_q3, w7_c3, w7_q4, w7_c4, w7_q5, w7_c5, w7_q6, w7_c6, w7_q7, w7_c7, w7_q8, w7_c8, w7_q9, w7_c9, w7_q10, w7_c10, w7_q11, w7_c11, w7_q12, w7_c12, w7_q13, w7_c13, w7_q14, w7_c14, w7_q15, w7_w15_q1, w7_w15_c1, w7_w15_q2, w7_w15_c2, w7_w15_q3, w7_w15_c3, w7_w15_q4, w7_w15_c4, w7_w15_q5, w7_w15_c5, w7_w15_q6, w7_w15_c6, rfl, rfl⟩ := hwt
  refine y_ws (ws' := [(h, .inr (0, [.ref q1, .ref q3, .ref q5, .null, .null, .null, .null, .null, .null, .null, .null, .null])), (q1, .inr (1, [.ref w1_q1, .int 0, .ref w1_q2, .ref w1_q3, .ref w1_q4, .int 0, .int 0])), (w1_q1, .inl (w1_c1, 1200, .inl (fun _ => 0))), (w1_q2, .inl (w1_c2, 1201, .inl (fun _ => 0))), (w1_q3, .inl (w1_c3, 1201, .inr (.inl (fun _ => 0)))), (w1_q4, .inl (w1_c4, 1201, .inl (fun _ => 0))), (q3, .inr (2, [.int 0, .int 0, .ref w3_q1, .ref w3_q3])), (w3_q1, .inr (11, [.ref w3_w1_q1, .int 0])), (w3_w1_q1, .inl (w3_w1_c1, 2400, .inl (fun _ => 0))), (w3_q3, .inr (11, [.ref w3_w3_q1, .int 0])), (w3_w3_q1, .inl (w3_w3_c1, 2400, .inl (fun _ => 0))), (q5, .inr (3, [.ref w5_q1, .ref w5_q2, .ref w5_q3, .ref w5_q4, .ref w5_q5, .ref w5_q6, .int (1 : Int32), .int (1 : Int32), .int 0, .int 0, .int 0])), (w5_q1, .inl (w5_c1, 1713, .inl (fun _ => 0))), (w5_q2, .inl (w5_c2, 1713, .inl (fun _ => 0))), (w5_q3, .inl (w5_c3, 1713, .inl (upd (fun _ => 0) 0 (-1 : Int32)))), (w5_q4, .inl (w5_c4, 1713, .inl (fun _ => 0))), (w5_q5, .inl (w5_c5, 1713, .inl (fun _ => 0))), (w5_q6, .inl (w5_c6, 3434, .inl (fun _ => 0))), (q7, .inr (4, [.int 0, .ref w7_q1, .ref w7_q2, .ref w7_q3, .ref w7_q4, .ref w7_q5, .ref w7_q6, .ref w7_q7, .ref w7_q8, .ref w7_q9, .ref w7_q10, .ref w7_q11, .int 0, .ref w7_q12, .ref w7_q13, .ref w7_q14, .ref w7_q15])), (w7_q1, .inl (w7_c1, 16, .inl (fun _ => 0))), (w7_q2, .inl (w7_c2, 16, .inr (.inl (fun _ => 0)))), (w7_q3, .inl (w7_c3, 16, .inl (fun _ => 0))), (w7_q4, .inl (w7_c4, 16, .inl (fun _ => 0))), (w7_q5, .inl (w7_c5, 48, .inr (.inl (fun _ => 0)))), (w7_q6, .inl (w7_c6, 16, .inl (fun _ => 0))), (w7_q7, .inl (w7_c7, 16, .inl (fun _ => 0))), (w7_q8, .inl (w7_c8, 16, .inl (fun _ => 0))), (w7_q9, .inl (w7_c9, 16, .inl (fun _ => 0))), (w7_q10, .inl (w7_c10, 16, .inl (fun _ => 0))), (w7_q11, .inl (w7_c11, 16, .inl (fun _ => 0))), (w7_q12, .inl (w7_c12, 16, .inl (fun _ => 0))), (w7_q13, .inl (w7_c13, 48, .inl (fun _ => 0))), (w7_q14, .inl (w7_c14, 16, .inl (fun _ => 0))), (w7_q15, .inr (10, [.ref w7_w15_q1, .ref w7_w15_q2, .ref w7_w15_q3, .ref w7_w15_q4, .int 0, .ref w7_w15_q5, .ref w7_w15_q6, .int 0])), (w7_w15_q1, .inl (w7_w15_c1, 200, .inl (fun _ => 0))), (w7_w15_q2, .inl (w7_w15_c2, 200, .inr (.inl (fun _ => 0)))), (w7_w15_q3, .inl (w7_w15_c3, 200, .inl (fun _ => 0))), (w7_w15_q4, .inl (w7_w15_c4, 200, .inl (fun _ => 0))), (w7_w15_q5, .inl (w7_w15_c5, 201, .inl (fun _ => 0))), (w7_w15_q6, .inl (w7_w15_c6, 201, .inl (fun _ => 0)))]) (tys' := [(w1_c1, .int), (w1_c2, .int), (w1_c3, .long), (w1_c4, .int), (w3_w1_c1, .byte), (w3_w3_c1, .byte), (w5_c1, .int), (w5_c2, .int), (w5_c3, .int), (w5_c4, .int), (w5_c5, .int), (w5_c6, .int), (w7_c1, .int), (w7_c2, .long), (w7_c3, .int), (w7_c4, .int), (w7_c5, .long), (w7_c6, .int), (w7_c7, .int), (w7_c8, .int), (w7_c9, .int), (w7_c10, .int), (w7_c11, .int), (w7_c12, .int), (w7_c13, .int), (w7_c14, .int), (w7_w15_c1, .int), (w7_w15_c2, .long), (w7_w15_c3, .int), (w7_w15_c4, .int), (w7_w15_c5, .int), (w7_w15_c6, .int)]) rfl rfl ?_
  refine y_putF (pc := 45) (q0 := 0) (v := .ref q7) (ty := .object "KindRounds$Text") (ws' := [(h, .inr (0, [.ref q1, .ref q3, .ref q5, .ref q7, .null, .null, .null, .null, .null, .null, .null, .null])), (q1, .inr (1, [.ref w1_q1, .int 0, .ref w1_q2, .ref w1_q3, .ref w1_q4, .int 0, .int 0])), (w1_q1, .inl (w1_c1, 1200, .inl (fun _ => 0))), (w1_q2, .inl (w1_c2, 1201, .inl (fun _ => 0))), (w1_q3, .inl (w1_c3, 1201, .inr (.inl (fun _ => 0)))), (w1_q4, .inl (w1_c4, 1201, .inl (fun _ => 0))), (q3, .inr (2, [.int 0, .int 0, .ref w3_q1, .ref w3_q3])), (w3_q1, .inr (11, [.ref w3_w1_q1, .int 0])), (w3_w1_q1, .inl (w3_w1_c1, 2400, .inl (fun _ => 0))), (w3_q3, .inr (11, [.ref w3_w3_q1, .int 0])), (w3_w3_q1, .inl (w3_w3_c1, 2400, .inl (fun _ => 0))), (q5, .inr (3, [.ref w5_q1, .ref w5_q2, .ref w5_q3, .ref w5_q4, .ref w5_q5, .ref w5_q6, .int (1 : Int32), .int (1 : Int32), .int 0, .int 0, .int 0])), (w5_q1, .inl (w5_c1, 1713, .inl (fun _ => 0))), (w5_q2, .inl (w5_c2, 1713, .inl (fun _ => 0))), (w5_q3, .inl (w5_c3, 1713, .inl (upd (fun _ => 0) 0 (-1 : Int32)))), (w5_q4, .inl (w5_c4, 1713, .inl (fun _ => 0))), (w5_q5, .inl (w5_c5, 1713, .inl (fun _ => 0))), (w5_q6, .inl (w5_c6, 3434, .inl (fun _ => 0))), (q7, .inr (4, [.int 0, .ref w7_q1, .ref w7_q2, .ref w7_q3, .ref w7_q4, .ref w7_q5, .ref w7_q6, .ref w7_q7, .ref w7_q8, .ref w7_q9, .ref w7_q10, .ref w7_q11, .int 0, .ref w7_q12, .ref w7_q13, .ref w7_q14, .ref w7_q15])), (w7_q1, .inl (w7_c1, 16, .inl (fun _ => 0))), (w7_q2, .inl (w7_c2, 16, .inr (.inl (fun _ => 0)))), (w7_q3, .inl (w7_c3, 16, .inl (fun _ => 0))), (w7_q4, .inl (w7_c4, 16, .inl (fun _ => 0))), (w7_q5, .inl (w7_c5, 48, .inr (.inl (fun _ => 0)))), (w7_q6, .inl (w7_c6, 16, .inl (fun _ => 0))), (w7_q7, .inl (w7_c7, 16, .inl (fun _ => 0))), (w7_q8, .inl (w7_c8, 16, .inl (fun _ => 0))), (w7_q9, .inl (w7_c9, 16, .inl (fun _ => 0))), (w7_q10, .inl (w7_c10, 16, .inl (fun _ => 0))), (w7_q11, .inl (w7_c11, 16, .inl (fun _ => 0))), (w7_q12, .inl (w7_c12, 16, .inl (fun _ => 0))), (w7_q13, .inl (w7_c13, 48, .inl (fun _ => 0))), (w7_q14, .inl (w7_c14, 16, .inl (fun _ => 0))), (w7_q15, .inr (10, [.ref w7_w15_q1, .ref w7_w15_q2, .ref w7_w15_q3, .ref w7_w15_q4, .int 0, .ref w7_w15_q5, .ref w7_w15_q6, .int 0])), (w7_w15_q1, .inl (w7_w15_c1, 200, .inl (fun _ => 0))), (w7_w15_q2, .inl (w7_w15_c2, 200, .inr (.inl (fun _ => 0)))), (w7_w15_q3, .inl (w7_w15_c3, 200, .inl (fun _ => 0))), (w7_w15_q4, .inl (w7_w15_c4, 200, .inl (fun _ => 0))), (w7_w15_q5, .inl (w7_w15_c5, 201, .inl (fun _ => 0))), (w7_w15_q6, .inl (w7_w15_c6, 201, .inl (fun _ => 0)))]) C hin 3 mCI_139 i_Q t_Q t_Q_ok n_Q rfl rfl (Nat.le_of_ble_eq_true rfl) rfl rfl rfl rfl rfl rfl (Nat.le_of_ble_eq_true rfl) rfl d_Q_init_45 ?_
  refine y_aload_n (pc := 48) C d_Q_init_48 rfl 0 rfl ?_
  refine y_new (pc := 49) (ci := 5) (fs := [.null, .null, .null, .null, .null, .int 0]) C i_Me t_Me t_Me_ok mCI_140 mCI_141 mCI_74 rfl df_Me (Nat.le_of_ble_eq_true rfl) (Nat.le_of_ble_eq_true rfl) d_Q_init_49 (fun q9 => ?_)
  refine y_ws (ws' := [(h, .inr (0, [.ref q1, .ref q3, .ref q5, .ref q7, .null, .null, .null, .null, .null, .null, .null, .null])), (q1, .inr (1, [.ref w1_q1, .int 0, .ref w1_q2, .ref w1_q3, .ref w1_q4, .int 0, .int 0])), (w1_q1, .inl (w1_c1, 1200, .inl (fun _ => 0))), (w1_q2, .inl (w1_c2, 1201, .inl (fun _ => 0))), (w1_q3, .inl (w1_c3, 1201, .inr (.inl (fun _ => 0)))), (w1_q4, .inl (w1_c4, 1201, .inl (fun _ => 0))), (q3, .inr (2, [.int 0, .int 0, .ref w3_q1, .ref w3_q3])), (w3_q1, .inr (11, [.ref w3_w1_q1, .int 0])), (w3_w1_q1, .inl (w3_w1_c1, 2400, .inl (fun _ => 0))), (w3_q3, .inr (11, [.ref w3_w3_q1, .int 0])), (w3_w3_q1, .inl (w3_w3_c1, 2400, .inl (fun _ => 0))), (q5, .inr (3, [.ref w5_q1, .ref w5_q2, .ref w5_q3, .ref w5_q4, .ref w5_q5, .ref w5_q6, .int (1 : Int32), .int (1 : Int32), .int 0, .int 0, .int 0])), (w5_q1, .inl (w5_c1, 1713, .inl (fun _ => 0))), (w5_q2, .inl (w5_c2, 1713, .inl (fun _ => 0))), (w5_q3, .inl (w5_c3, 1713, .inl (upd (fun _ => 0) 0 (-1 : Int32)))), (w5_q4, .inl (w5_c4, 1713, .inl (fun _ => 0))), (w5_q5, .inl (w5_c5, 1713, .inl (fun _ => 0))), (w5_q6, .inl (w5_c6, 3434, .inl (fun _ => 0))), (q7, .inr (4, [.int 0, .ref w7_q1, .ref w7_q2, .ref w7_q3, .ref w7_q4, .ref w7_q5, .ref w7_q6, .ref w7_q7, .ref w7_q8, .ref w7_q9, .ref w7_q10, .ref w7_q11, .int 0, .ref w7_q12, .ref w7_q13, .ref w7_q14, .ref w7_q15])), (w7_q1, .inl (w7_c1, 16, .inl (fun _ => 0))), (w7_q2, .inl (w7_c2, 16, .inr (.inl (fun _ => 0)))), (w7_q3, .inl (w7_c3, 16, .inl (fun _ => 0))), (w7_q4, .inl (w7_c4, 16, .inl (fun _ => 0))), (w7_q5, .inl (w7_c5, 48, .inr (.inl (fun _ => 0)))), (w7_q6, .inl (w7_c6, 16, .inl (fun _ => 0))), (w7_q7, .inl (w7_c7, 16, .inl (fun _ => 0))), (w7_q8, .inl (w7_c8, 16, .inl (fun _ => 0))), (w7_q9, .inl (w7_c9, 16, .inl (fun _ => 0))), (w7_q10, .inl (w7_c10, 16, .inl (fun _ => 0))), (w7_q11, .inl (w7_c11, 16, .inl (fun _ => 0))), (w7_q12, .inl (w7_c12, 16, .inl (fun _ => 0))), (w7_q13, .inl (w7_c13, 48, .inl (fun _ => 0))), (w7_q14, .inl (w7_c14, 16, .inl (fun _ => 0))), (w7_q15, .inr (10, [.ref w7_w15_q1, .ref w7_w15_q2, .ref w7_w15_q3, .ref w7_w15_q4, .int 0, .ref w7_w15_q5, .ref w7_w15_q6, .int 0])), (w7_w15_q1, .inl (w7_w15_c1, 200, .inl (fun _ => 0))), (w7_w15_q2, .inl (w7_w15_c2, 200, .inr (.inl (fun _ => 0)))), (w7_w15_q3, .inl (w7_w15_c3, 200, .inl (fun _ => 0))), (w7_w15_q4, .inl (w7_w15_c4, 200, .inl (fun _ => 0))), (w7_w15_q5, .inl (w7_w15_c5, 201, .inl (fun _ => 0))), (w7_w15_q6, .inl (w7_w15_c6, 201, .inl (fun _ => 0))), (q9, .inr (5, [.null, .null, .null, .null, .null, .int 0]))]) (tys' := [(w1_c1, .int), (w1_c2, .int), (w1_c3, .long), (w1_c4, .int), (w3_w1_c1, .byte), (w3_w3_c1, .byte), (w5_c1, .int), (w5_c2, .int), (w5_c3, .int), (w5_c4, .int), (w5_c5, .int), (w5_c6, .int), (w7_c1, .int), (w7_c2, .long), (w7_c3, .int), (w7_c4, .int), (w7_c5, .long), (w7_c6, .int), (w7_c7, .int), (w7_c8, .int), (w7_c9, .int), (w7_c10, .int), (w7_c11, .int), (w7_c12, .int), (w7_c13, .int), (w7_c14, .int), (w7_w15_c1, .int), (w7_w15_c2, .long), (w7_w15_c3, .int), (w7_w15_c4, .int), (w7_w15_c5, .int), (w7_w15_c6, .int)]) rfl rfl ?_
  refine y_dup (pc := 52) C d_Q_init_52 rfl ?_
  refine y_ctor (pc := 53) (wc := [(q9, .inr (5, [.null, .null, .null, .null, .null, .int 0]))]) (wr := [(h, .inr (0, [.ref q1, .ref q3, .ref q5, .ref q7, .null, .null, .null, .null, .null, .null, .null, .null])), (q1, .inr (1, [.ref w1_q1, .int 0, .ref w1_q2, .ref w1_q3, .ref w1_q4, .int 0, .int 0])), (w1_q1, .inl (w1_c1, 1200, .inl (fun _ => 0))), (w1_q2, .inl (w1_c2, 1201, .inl (fun _ => 0))), (w1_q3, .inl (w1_c3, 1201, .inr (.inl (fun _ => 0)))), (w1_q4, .inl (w1_c4, 1201, .inl (fun _ => 0))), (q3, .inr (2, [.int 0, .int 0, .ref w3_q1, .ref w3_q3])), (w3_q1, .inr (11, [.ref w3_w1_q1, .int 0])), (w3_w1_q1, .inl (w3_w1_c1, 2400, .inl (fun _ => 0))), (w3_q3, .inr (11, [.ref w3_w3_q1, .int 0])), (w3_w3_q1, .inl (w3_w3_c1, 2400, .inl (fun _ => 0))), (q5, .inr (3, [.ref w5_q1, .ref w5_q2, .ref w5_q3, .ref w5_q4, .ref w5_q5, .ref w5_q6, .int (1 : Int32), .int (1 : Int32), .int 0, .int 0, .int 0])), (w5_q1, .inl (w5_c1, 1713, .inl (fun _ => 0))), (w5_q2, .inl (w5_c2, 1713, .inl (fun _ => 0))), (w5_q3, .inl (w5_c3, 1713, .inl (upd (fun _ => 0) 0 (-1 : Int32)))), (w5_q4, .inl (w5_c4, 1713, .inl (fun _ => 0))), (w5_q5, .inl (w5_c5, 1713, .inl (fun _ => 0))), (w5_q6, .inl (w5_c6, 3434, .inl (fun _ => 0))), (q7, .inr (4, [.int 0, .ref w7_q1, .ref w7_q2, .ref w7_q3, .ref w7_q4, .ref w7_q5, .ref w7_q6, .ref w7_q7, .ref w7_q8, .ref w7_q9, .ref w7_q10, .ref w7_q11, .int 0, .ref w7_q12, .ref w7_q13, .ref w7_q14, .ref w7_q15])), (w7_q1, .inl (w7_c1, 16, .inl (fun _ => 0))), (w7_q2, .inl (w7_c2, 16, .inr (.inl (fun _ => 0)))), (w7_q3, .inl (w7_c3, 16, .inl (fun _ => 0))), (w7_q4, .inl (w7_c4, 16, .inl (fun _ => 0))), (w7_q5, .inl (w7_c5, 48, .inr (.inl (fun _ => 0)))), (w7_q6, .inl (w7_c6, 16, .inl (fun _ => 0))), (w7_q7, .inl (w7_c7, 16, .inl (fun _ => 0))), (w7_q8, .inl (w7_c8, 16, .inl (fun _ => 0))), (w7_q9, .inl (w7_c9, 16, .inl (fun _ => 0))), (w7_q10, .inl (w7_c10, 16, .inl (fun _ => 0))), (w7_q11, .inl (w7_c11, 16, .inl (fun _ => 0))), (w7_q12, .inl (w7_c12, 16, .inl (fun _ => 0))), (w7_q13, .inl (w7_c13, 48, .inl (fun _ => 0))), (w7_q14, .inl (w7_c14, 16, .inl (fun _ => 0))), (w7_q15, .inr (10, [.ref w7_w15_q1, .ref w7_w15_q2, .ref w7_w15_q3, .ref w7_w15_q4, .int 0, .ref w7_w15_q5, .ref w7_w15_q6, .int 0])), (w7_w15_q1, .inl (w7_w15_c1, 200, .inl (fun _ => 0))), (w7_w15_q2, .inl (w7_w15_c2, 200, .inr (.inl (fun _ => 0)))), (w7_w15_q3, .inl (w7_w15_c3, 200, .inl (fun _ => 0))), (w7_w15_q4, .inl (w7_w15_c4, 200, .inl (fun _ => 0))), (w7_w15_q5, .inl (w7_w15_c5, 201, .inl (fun _ => 0))), (w7_w15_q6, .inl (w7_w15_c6, 201, .inl (fun _ => 0)))]) C (i_Me_init (h := q9)) km_Me_init mCI_143 rfl mCI_142 [40] [0, 1, 2, 3, 4, 5, 6, 7, 8, 9, 10, 11, 12, 13, 14, 15, 16, 17, 18, 19, 20, 21, 22, 23, 24, 25, 26, 27, 28, 29, 30, 31, 32, 33, 34, 35, 36, 37, 38, 39] rfl rfl rfl rfl rfl (by decide) rfl (rmN_of (Nat.le_of_ble_eq_true rfl) (Nat.le_of_ble_eq_true rfl)) ⟨Nat.le_of_ble_eq_true rfl, Nat.le_of_ble_eq_true rfl⟩ rfl (Nat.le_of_ble_eq_true rfl) d_Q_init_53 (fun w t hwt => ?_)
  obtain ⟨w9_q1, w9_c1, w9_q2, w9_c2, w9_q3, w9_c3, w9_q4, w9_c4, w9_q5, w9_c5, rfl, rfl⟩ := hwt
  refine y_ws (ws' := [(h, .inr (0, [.ref q1, .ref q3, .ref q5, .ref q7, .null, .null, .null, .null, .null, .null, .null, .null])), (q1, .inr (1, [.ref w1_q1, .int 0, .ref w1_q2, .ref w1_q3, .ref w1_q4, .int 0, .int 0])), (w1_q1, .inl (w1_c1, 1200, .inl (fun _ => 0))), (w1_q2, .inl (w1_c2, 1201, .inl (fun _ => 0))), (w1_q3, .inl (w1_c3, 1201, .inr (.inl (fun _ => 0)))), (w1_q4, .inl (w1_c4, 1201, .inl (fun _ => 0))), (q3, .inr (2, [.int 0, .int 0, .ref w3_q1, .ref w3_q3])), (w3_q1, .inr (11, [.ref w3_w1_q1, .int 0])), (w3_w1_q1, .inl (w3_w1_c1, 2400, .inl (fun _ => 0))), (w3_q3, .inr (11, [.ref w3_w3_q1, .int 0])), (w3_w3_q1, .inl (w3_w3_c1, 2400, .inl (fun _ => 0))), (q5, .inr (3, [.ref w5_q1, .ref w5_q2, .ref w5_q3, .ref w5_q4, .ref w5_q5, .ref w5_q6, .int (1 : Int32), .int (1 : Int32), .int 0, .int 0, .int 0])), (w5_q1, .inl (w5_c1, 1713, .inl (fun _ => 0))), (w5_q2, .inl (w5_c2, 1713, .inl (fun _ => 0))), (w5_q3, .inl (w5_c3, 1713, .inl (upd (fun _ => 0) 0 (-1 : Int32)))), (w5_q4, .inl (w5_c4, 1713, .inl (fun _ => 0))), (w5_q5, .inl (w5_c5, 1713, .inl (fun _ => 0))), (w5_q6, .inl (w5_c6, 3434, .inl (fun _ => 0))), (q7, .inr (4, [.int 0, .ref w7_q1, .ref w7_q2, .ref w7_q3, .ref w7_q4, .ref w7_q5, .ref w7_q6, .ref w7_q7, .ref w7_q8, .ref w7_q9, .ref w7_q10, .ref w7_q11, .int 0, .ref w7_q12, .ref w7_q13, .ref w7_q14, .ref w7_q15])), (w7_q1, .inl (w7_c1, 16, .inl (fun _ => 0))), (w7_q2, .inl (w7_c2, 16, .inr (.inl (fun _ => 0)))), (w7_q3, .inl (w7_c3, 16, .inl (fun _ => 0))), (w7_q4, .inl (w7_c4, 16, .inl (fun _ => 0))), (w7_q5, .inl (w7_c5, 48, .inr (.inl (fun _ => 0)))), (w7_q6, .inl (w7_c6, 16, .inl (fun _ => 0))), (w7_q7, .inl (w7_c7, 16, .inl (fun _ => 0))), (w7_q8, .inl (w7_c8, 16, .inl (fun _ => 0))), (w7_q9, .inl (w7_c9, 16, .inl (fun _ => 0))), (w7_q10, .inl (w7_c10, 16, .inl (fun _ => 0))), (w7_q11, .inl (w7_c11, 16, .inl (fun _ => 0))), (w7_q12, .inl (w7_c12, 16, .inl (fun _ => 0))), (w7_q13, .inl (w7_c13, 48, .inl (fun _ => 0))), (w7_q14, .inl (w7_c14, 16, .inl (fun _ => 0))), (w7_q15, .inr (10, [.ref w7_w15_q1, .ref w7_w15_q2, .ref w7_w15_q3, .ref w7_w15_q4, .int 0, .ref w7_w15_q5, .ref w7_w15_q6, .int 0])), (w7_w15_q1, .inl (w7_w15_c1, 200, .inl (fun _ => 0))), (w7_w15_q2, .inl (w7_w15_c2, 200, .inr (.inl (fun _ => 0)))), (w7_w15_q3, .inl (w7_w15_c3, 200, .inl (fun _ => 0))), (w7_w15_q4, .inl (w7_w15_c4, 200, .inl (fun _ => 0))), (w7_w15_q5, .inl (w7_w15_c5, 201, .inl (fun _ => 0))), (w7_w15_q6, .inl (w7_w15_c6, 201, .inl (fun _ => 0))), (q9, .inr (5, [.ref w9_q1, .ref w9_q2, .ref w9_q3, .ref w9_q4, .ref w9_q5, .int 0])), (w9_q1, .inl (w9_c1, 600, .inl (fun _ => 0))), (w9_q2, .inl (w9_c2, 600, .inr (.inl (fun _ => 0)))), (w9_q3, .inl (w9_c3, 600, .inl (fun _ => 0))), (w9_q4, .inl (w9_c4, 600, .inl (fun _ => 0))), (w9_q5, .inl (w9_c5, 600, .inl (fun _ => 0)))]) (tys' := [(w1_c1, .int), (w1_c2, .int), (w1_c3, .long), (w1_c4, .int), (w3_w1_c1, .byte), (w3_w3_c1, .byte), (w5_c1, .int), (w5_c2, .int), (w5_c3, .int), (w5_c4, .int), (w5_c5, .int), (w5_c6, .int), (w7_c1, .int), (w7_c2, .long), (w7_c3, .int), (w7_c4, .int), (w7_c5, .long), (w7_c6, .int), (w7_c7, .int), (w7_c8, .int), (w7_c9, .int), (w7_c10, .int), (w7_c11, .int), (w7_c12, .int), (w7_c13, .int), (w7_c14, .int), (w7_w15_c1, .int), (w7_w15_c2, .long), (w7_w15_c3, .int), (w7_w15_c4, .int), (w7_w15_c5, .int), (w7_w15_c6, .int), (w9_c1, .int), (w9_c2, .long), (w9_c3, .int), (w9_c4, .int), (w9_c5, .int)]) rfl rfl ?_
  refine y_putF (pc := 56) (q0 := 0) (v := .ref q9) (ty := .object "KindRounds$Mentions") (ws' := [(h, .inr (0, [.ref q1, .ref q3, .ref q5, .ref q7, .ref q9, .null, .null, .null, .null, .null, .null, .null])), (q1, .inr (1, [.ref w1_q1, .int 0, .ref w1_q2, .ref w1_q3, .ref w1_q4, .int 0, .int 0])), (w1_q1, .inl (w1_c1, 1200, .inl (fun _ => 0))), (w1_q2, .inl (w1_c2, 1201, .inl (fun _ => 0))), (w1_q3, .inl (w1_c3, 1201, .inr (.inl (fun _ => 0)))), (w1_q4, .inl (w1_c4, 1201, .inl (fun _ => 0))), (q3, .inr (2, [.int 0, .int 0, .ref w3_q1, .ref w3_q3])), (w3_q1, .inr (11, [.ref w3_w1_q1, .int 0])), (w3_w1_q1, .inl (w3_w1_c1, 2400, .inl (fun _ => 0))), (w3_q3, .inr (11, [.ref w3_w3_q1, .int 0])), (w3_w3_q1, .inl (w3_w3_c1, 2400, .inl (fun _ => 0))), (q5, .inr (3, [.ref w5_q1, .ref w5_q2, .ref w5_q3, .ref w5_q4, .ref w5_q5, .ref w5_q6, .int (1 : Int32), .int (1 : Int32), .int 0, .int 0, .int 0])), (w5_q1, .inl (w5_c1, 1713, .inl (fun _ => 0))), (w5_q2, .inl (w5_c2, 1713, .inl (fun _ => 0))), (w5_q3, .inl (w5_c3, 1713, .inl (upd (fun _ => 0) 0 (-1 : Int32)))), (w5_q4, .inl (w5_c4, 1713, .inl (fun _ => 0))), (w5_q5, .inl (w5_c5, 1713, .inl (fun _ => 0))), (w5_q6, .inl (w5_c6, 3434, .inl (fun _ => 0))), (q7, .inr (4, [.int 0, .ref w7_q1, .ref w7_q2, .ref w7_q3, .ref w7_q4, .ref w7_q5, .ref w7_q6, .ref w7_q7, .ref w7_q8, .ref w7_q9, .ref w7_q10, .ref w7_q11, .int 0, .ref w7_q12, .ref w7_q13, .ref w7_q14, .ref w7_q15])), (w7_q1, .inl (w7_c1, 16, .inl (fun _ => 0))), (w7_q2, .inl (w7_c2, 16, .inr (.inl (fun _ => 0)))), (w7_q3, .inl (w7_c3, 16, .inl (fun _ => 0))), (w7_q4, .inl (w7_c4, 16, .inl (fun _ => 0))), (w7_q5, .inl (w7_c5, 48, .inr (.inl (fun _ => 0)))), (w7_q6, .inl (w7_c6, 16, .inl (fun _ => 0))), (w7_q7, .inl (w7_c7, 16, .inl (fun _ => 0))), (w7_q8, .inl (w7_c8, 16, .inl (fun _ => 0))), (w7_q9, .inl (w7_c9, 16, .inl (fun _ => 0))), (w7_q10, .inl (w7_c10, 16, .inl (fun _ => 0))), (w7_q11, .inl (w7_c11, 16, .inl (fun _ => 0))), (w7_q12, .inl (w7_c12, 16, .inl (fun _ => 0))), (w7_q13, .inl (w7_c13, 48, .inl (fun _ => 0))), (w7_q14, .inl (w7_c14, 16, .inl (fun _ => 0))), (w7_q15, .inr (10, [.ref w7_w15_q1, .ref w7_w15_q2, .ref w7_w15_q3, .ref w7_w15_q4, .int 0, .ref w7_w15_q5, .ref w7_w15_q6, .int 0])), (w7_w15_q1, .inl (w7_w15_c1, 200, .inl (fun _ => 0))), (w7_w15_q2, .inl (w7_w15_c2, 200, .inr (.inl (fun _ => 0)))), (w7_w15_q3, .inl (w7_w15_c3, 200, .inl (fun _ => 0))), (w7_w15_q4, .inl (w7_w15_c4, 200, .inl (fun _ => 0))), (w7_w15_q5, .inl (w7_w15_c5, 201, .inl (fun _ => 0))), (w7_w15_q6, .inl (w7_w15_c6, 201, .inl (fun _ => 0))), (q9, .inr (5, [.ref w9_q1, .ref w9_q2, .ref w9_q3, .ref w9_q4, .ref w9_q5, .int 0])), (w9_q1, .inl (w9_c1, 600, .inl (fun _ => 0))), (w9_q2, .inl (w9_c2, 600, .inr (.inl (fun _ => 0)))), (w9_q3, .inl (w9_c3, 600, .inl (fun _ => 0))), (w9_q4, .inl (w9_c4, 600, .inl (fun _ => 0))), (w9_q5, .inl (w9_c5, 600, .inl (fun _ => 0)))]) C hin 4 mCI_144 i_Q t_Q t_Q_ok n_Q rfl rfl (Nat.le_of_ble_eq_true rfl) rfl rfl rfl rfl rfl rfl (Nat.le_of_ble_eq_true rfl) rfl d_Q_init_56 ?_
  refine y_aload_n (pc := 59) C d_Q_init_59 rfl 0 rfl ?_
  refine y_new (pc := 60) (ci := 10) (fs := [.null, .null, .null, .null, .int 0, .null, .null, .int 0]) C i_Ro t_Ro t_Ro_ok mCI_145 mCI_61 mCI_17 rfl df_Ro (Nat.le_of_ble_eq_true rfl) (Nat.le_of_ble_eq_true rfl) d_Q_init_60 (fun q11 => ?_)
  refine y_ws (ws' := [(h, .inr (0, [.ref q1, .ref q3, .ref q5, .ref q7, .ref q9, .null, .null, .null, .null, .null, .null, .null])), (q1, .inr (1, [.ref w1_q1, .int 0, .ref w1_q2, .ref w1_q3, .ref w1_q4, .int 0, .int 0])), (w1_q1, .inl (w1_c1, 1200, .inl (fun _ => 0))), (w1_q2, .inl (w1_c2, 1201, .inl (fun _ => 0))), (w1_q3, .inl (w1_c3, 1201, .inr (.inl (fun _ => 0)))), (w1_q4, .inl (w1_c4, 1201, .inl (fun _ => 0))), (q3, .inr (2, [.int 0, .int 0, .ref w3_q1, .ref w3_q3])), (w3_q1, .inr (11, [.ref w3_w1_q1, .int 0])), (w3_w1_q1, .inl (w3_w1_c1, 2400, .inl (fun _ => 0))), (w3_q3, .inr (11, [.ref w3_w3_q1, .int 0])), (w3_w3_q1, .inl (w3_w3_c1, 2400, .inl (fun _ => 0))), (q5, .inr (3, [.ref w5_q1, .ref w5_q2, .ref w5_q3, .ref w5_q4, .ref w5_q5, .ref w5_q6, .int (1 : Int32), .int (1 : Int32), .int 0, .int 0, .int 0])), (w5_q1, .inl (w5_c1, 1713, .inl (fun _ => 0))), (w5_q2, .inl (w5_c2, 1713, .inl (fun _ => 0))), (w5_q3, .inl (w5_c3, 1713, .inl (upd (fun _ => 0) 0 (-1 : Int32)))), (w5_q4, .inl (w5_c4, 1713, .inl (fun _ => 0))), (w5_q5, .inl (w5_c5, 1713, .inl (fun _ => 0))), (w5_q6, .inl (w5_c6, 3434, .inl (fun _ => 0))), (q7, .inr (4, [.int 0, .ref w7_q1, .ref w7_q2, .ref w7_q3, .ref w7_q4, .ref w7_q5, .ref w7_q6, .ref w7_q7, .ref w7_q8, .ref w7_q9, .ref w7_q10, .ref w7_q11, .int 0, .ref w7_q12, .ref w7_q13, .ref w7_q14, .ref w7_q15])), (w7_q1, .inl (w7_c1, 16, .inl (fun _ => 0))), (w7_q2, .inl (w7_c2, 16, .inr (.inl (fun _ => 0)))), (w7_q3, .inl (w7_c3, 16, .inl (fun _ => 0))), (w7_q4, .inl (w7_c4, 16, .inl (fun _ => 0))), (w7_q5, .inl (w7_c5, 48, .inr (.inl (fun _ => 0)))), (w7_q6, .inl (w7_c6, 16, .inl (fun _ => 0))), (w7_q7, .inl (w7_c7, 16, .inl (fun _ => 0))), (w7_q8, .inl (w7_c8, 16, .inl (fun _ => 0))), (w7_q9, .inl (w7_c9, 16, .inl (fun _ => 0))), (w7_q10, .inl (w7_c10, 16, .inl (fun _ => 0))), (w7_q11, .inl (w7_c11, 16, .inl (fun _ => 0))), (w7_q12, .inl (w7_c12, 16, .inl (fun _ => 0))), (w7_q13, .inl (w7_c13, 48, .inl (fun _ => 0))), (w7_q14, .inl (w7_c14, 16, .inl (fun _ => 0))), (w7_q15, .inr (10, [.ref w7_w15_q1, .ref w7_w15_q2, .ref w7_w15_q3, .ref w7_w15_q4, .int 0, .ref w7_w15_q5, .ref w7_w15_q6, .int 0])), (w7_w15_q1, .inl (w7_w15_c1, 200, .inl (fun _ => 0))), (w7_w15_q2, .inl (w7_w15_c2, 200, .inr (.inl (fun _ => 0)))), (w7_w15_q3, .inl (w7_w15_c3, 200, .inl (fun _ => 0))), (w7_w15_q4, .inl (w7_w15_c4, 200, .inl (fun _ => 0))), (w7_w15_q5, .inl (w7_w15_c5, 201, .inl (fun _ => 0))), (w7_w15_q6, .inl (w7_w15_c6, 201, .inl (fun _ => 0))), (q9, .inr (5, [.ref w9_q1, .ref w9_q2, .ref w9_q3, .ref w9_q4, .ref w9_q5, .int 0])), (w9_q1, .inl (w9_c1, 600, .inl (fun _ => 0))), (w9_q2, .inl (w9_c2, 600, .inr (.inl (fun _ => 0)))), (w9_q3, .inl (w9_c3, 600, .inl (fun _ => 0))), (w9_q4, .inl (w9_c4, 600, .inl (fun _ => 0))), (w9_q5, .inl (w9_c5, 600, .inl (fun _ => 0))), (q11, .inr (10, [.null, .null, .null, .null, .int 0, .null, .null, .int 0]))]) (tys' := [(w1_c1, .int), (w1_c2, .int), (w1_c3, .long), (w1_c4, .int), (w3_w1_c1, .byte), (w3_w3_c1, .byte), (w5_c1, .int), (w5_c2, .int), (w5_c3, .int), (w5_c4, .int), (w5_c5, .int), (w5_c6, .int), (w7_c1, .int), (w7_c2, .long), (w7_c3, .int), (w7_c4, .int), (w7_c5, .long), (w7_c6, .int), (w7_c7, .int), (w7_c8, .int), (w7_c9, .int), (w7_c10, .int), (w7_c11, .int), (w7_c12, .int), (w7_c13, .int), (w7_c14, .int), (w7_w15_c1, .int), (w7_w15_c2, .long), (w7_w15_c3, .int), (w7_w15_c4, .int), (w7_w15_c5, .int), (w7_w15_c6, .int), (w9_c1, .int), (w9_c2, .long), (w9_c3, .int), (w9_c4, .int), (w9_c5, .int)]) rfl rfl ?_
  refine y_dup (pc := 63) C d_Q_init_63 rfl ?_
  refine y_ctor (pc := 64) (wc := [(q11, .inr (10, [.null, .null, .null, .null, .int 0, .null, .null, .int 0]))]) (wr := [(h, .inr (0, [.ref q1, .ref q3, .ref q5, .ref q7, .ref q9, .null, .null, .null, .null, .null, .null, .null])), (q1, .inr (1, [.ref w1_q1, .int 0, .ref w1_q2, .ref w1_q3, .ref w1_q4, .int 0, .int 0])), (w1_q1, .inl (w1_c1, 1200, .inl (fun _ => 0))), (w1_q2, .inl (w1_c2, 1201, .inl (fun _ => 0))), (w1_q3, .inl (w1_c3, 1201, .inr (.inl (fun _ => 0)))), (w1_q4, .inl (w1_c4, 1201, .inl (fun _ => 0))), (q3, .inr (2, [.int 0, .int 0, .ref w3_q1, .ref w3_q3])), (w3_q1, .inr (11, [.ref w3_w1_q1, .int 0])), (w3_w1_q1, .inl (w3_w1_c1, 2400, .inl (fun _ => 0))), (w3_q3, .inr (11, [.ref w3_w3_q1, .int 0])), (w3_w3_q1, .inl (w3_w3_c1, 2400, .inl (fun _ => 0))), (q5, .inr (3, [.ref w5_q1, .ref w5_q2, .ref w5_q3, .ref w5_q4, .ref w5_q5, .ref w5_q6, .int (1 : Int32), .int (1 : Int32), .int 0, .int 0, .int 0])), (w5_q1, .inl (w5_c1, 1713, .inl (fun _ => 0))), (w5_q2, .inl (w5_c2, 1713, .inl (fun _ => 0))), (w5_q3, .inl (w5_c3, 1713, .inl (upd (fun _ => 0) 0 (-1 : Int32)))), (w5_q4, .inl (w5_c4, 1713, .inl (fun _ => 0))), (w5_q5, .inl (w5_c5, 1713, .inl (fun _ => 0))), (w5_q6, .inl (w5_c6, 3434, .inl (fun _ => 0))), (q7, .inr (4, [.int 0, .ref w7_q1, .ref w7_q2, .ref w7_q3, .ref w7_q4, .ref w7_q5, .ref w7_q6, .ref w7_q7, .ref w7_q8, .ref w7_q9, .ref w7_q10, .ref w7_q11, .int 0, .ref w7_q12, .ref w7_q13, .ref w7_q14, .ref w7_q15])), (w7_q1, .inl (w7_c1, 16, .inl (fun _ => 0))), (w7_q2, .inl (w7_c2, 16, .inr (.inl (fun _ => 0)))), (w7_q3, .inl (w7_c3, 16, .inl (fun _ => 0))), (w7_q4, .inl (w7_c4, 16, .inl (fun _ => 0))), (w7_q5, .inl (w7_c5, 48, .inr (.inl (fun _ => 0)))), (w7_q6, .inl (w7_c6, 16, .inl (fun _ => 0))), (w7_q7, .inl (w7_c7, 16, .inl (fun _ => 0))), (w7_q8, .inl (w7_c8, 16, .inl (fun _ => 0))), (w7_q9, .inl (w7_c9, 16, .inl (fun _ => 0))), (w7_q10, .inl (w7_c10, 16, .inl (fun _ => 0))), (w7_q11, .inl (w7_c11, 16, .inl (fun _ => 0))), (w7_q12, .inl (w7_c12, 16, .inl (fun _ => 0))), (w7_q13, .inl (w7_c13, 48, .inl (fun _ => 0))), (w7_q14, .inl (w7_c14, 16, .inl (fun _ => 0))), (w7_q15, .inr (10, [.ref w7_w15_q1, .ref w7_w15_q2, .ref w7_w15_q3, .ref w7_w15_q4, .int 0, .ref w7_w15_q5, .ref w7_w15_q6, .int 0])), (w7_w15_q1, .inl (w7_w15_c1, 200, .inl (fun _ => 0))), (w7_w15_q2, .inl (w7_w15_c2, 200, .inr (.inl (fun _ => 0)))), (w7_w15_q3, .inl (w7_w15_c3, 200, .inl (fun _ => 0))), (w7_w15_q4, .inl (w7_w15_c4, 200, .inl (fun _ => 0))), (w7_w15_q5, .inl (w7_w15_c5, 201, .inl (fun _ => 0))), (w7_w15_q6, .inl (w7_w15_c6, 201, .inl (fun _ => 0))), (q9, .inr (5, [.ref w9_q1, .ref w9_q2, .ref w9_q3, .ref w9_q4, .ref w9_q5, .int 0])), (w9_q1, .inl (w9_c1, 600, .inl (fun _ => 0))), (w9_q2, .inl (w9_c2, 600, .inr (.inl (fun _ => 0)))), (w9_q3, .inl (w9_c3, 600, .inl (fun _ => 0))), (w9_q4, .inl (w9_c4, 600, .inl (fun _ => 0))), (w9_q5, .inl (w9_c5, 600, .inl (fun _ => 0)))]) C (i_Ro_init (h := q11)) km_Ro_init mCI_63 rfl mCI_146 [46] [0, 1, 2, 3, 4, 5, 6, 7, 8, 9, 10, 11, 12, 13, 14, 15, 16, 17, 18, 19, 20, 21, 22, 23, 24, 25, 26, 27, 28, 29, 30, 31, 32, 33, 34, 35, 36, 37, 38, 39, 40, 41, 42, 43, 44, 45] rfl rfl rfl rfl rfl (by decide) rfl (rmN_of (Nat.le_of_ble_eq_true rfl) (Nat.le_of_ble_eq_true rfl)) ⟨Nat.le_of_ble_eq_true rfl, Nat.le_of_ble_eq_true rfl⟩ rfl (Nat.le_of_ble_eq_true rfl) d_Q_init_64 (fun w t hwt => ?_)
  obtain ⟨w11_q1, w11_c1, w11_q2, w11_c2, w11_q3, w11_c3, w11_q4, w11_c4, w11_q5, w11_c5, w11_q6, w11_c6, rfl, rfl⟩ := hwt
  refine y_ws (ws' := [(h, .inr (0, [.ref q1, .ref q3, .ref q5, .ref q7, .ref q9, .null, .null, .null, .null, .null, .null, .null])), (q1, .inr (1, [.ref w1_q1, .int 0, .ref w1_q2, .ref w1_q3, .ref w1_q4, .int 0, .int 0])), (w1_q1, .inl (w1_c1, 1200, .inl (fun _ => 0))), (w1_q2, .inl (w1_c2, 1201, .inl (fun _ => 0))), (w1_q3, .inl (w1_c3, 1201, .inr (.inl (fun _ => 0)))), (w1_q4, .inl (w1_c4, 1201, .inl (fun _ => 0))), (q3, .inr (2, [.int 0, .int 0, .ref w3_q1, .ref w3_q3])), (w3_q1, .inr (11, [.ref w3_w1_q1, .int 0])), (w3_w1_q1, .inl (w3_w1_c1, 2400, .inl (fun _ => 0))), (w3_q3, .inr (11, [.ref w3_w3_q1, .int 0])), (w3_w3_q1, .inl (w3_w3_c1, 2400, .inl (fun _ => 0))), (q5, .inr (3, [.ref w5_q1, .ref w5_q2, .ref w5_q3, .ref w5_q4, .ref w5_q5, .ref w5_q6, .int (1 : Int32), .int (1 : Int32), .int 0, .int 0, .int 0])), (w5_q1, .inl (w5_c1, 1713, .inl (fun _ => 0))), (w5_q2, .inl (w5_c2, 1713, .inl (fun _ => 0))), (w5_q3, .inl (w5_c3, 1713, .inl (upd (fun _ => 0) 0 (-1 : Int32)))), (w5_q4, .inl (w5_c4, 1713, .inl (fun _ => 0))), (w5_q5, .inl (w5_c5, 1713, .inl (fun _ => 0))), (w5_q6, .inl (w5_c6, 3434, .inl (fun _ => 0))), (q7, .inr (4, [.int 0, .ref w7_q1, .ref w7_q2, .ref w7_q3, .ref w7_q4, .ref w7_q5, .ref w7_q6, .ref w7_q7, .ref w7_q8, .ref w7_q9, .ref w7_q10, .ref w7_q11, .int 0, .ref w7_q12, .ref w7_q13, .ref w7_q14, .ref w7_q15])), (w7_q1, .inl (w7_c1, 16, .inl (fun _ => 0))), (w7_q2, .inl (w7_c2, 16, .inr (.inl (fun _ => 0)))), (w7_q3, .inl (w7_c3, 16, .inl (fun _ => 0))), (w7_q4, .inl (w7_c4, 16, .inl (fun _ => 0))), (w7_q5, .inl (w7_c5, 48, .inr (.inl (fun _ => 0)))), (w7_q6, .inl (w7_c6, 16, .inl (fun _ => 0))), (w7_q7, .inl (w7_c7, 16, .inl (fun _ => 0))), (w7_q8, .inl (w7_c8, 16, .inl (fun _ => 0))), (w7_q9, .inl (w7_c9, 16, .inl (fun _ => 0))), (w7_q10, .inl (w7_c10, 16, .inl (fun _ => 0))), (w7_q11, .inl (w7_c11, 16, .inl (fun _ => 0))), (w7_q12, .inl (w7_c12, 16, .inl (fun _ => 0))), (w7_q13, .inl (w7_c13, 48, .inl (fun _ => 0))), (w7_q14, .inl (w7_c14, 16, .inl (fun _ => 0))), (w7_q15, .inr (10, [.ref w7_w15_q1, .ref w7_w15_q2, .ref w7_w15_q3, .ref w7_w15_q4, .int 0, .ref w7_w15_q5, .ref w7_w15_q6, .int 0])), (w7_w15_q1, .inl (w7_w15_c1, 200, .inl (fun _ => 0))), (w7_w15_q2, .inl (w7_w15_c2, 200, .inr (.inl (fun _ => 0)))), (w7_w15_q3, .inl (w7_w15_c3, 200, .inl (fun _ => 0))), (w7_w15_q4, .inl (w7_w15_c4, 200, .inl (fun _ => 0))), (w7_w15_q5, .inl (w7_w15_c5, 201, .inl (fun _ => 0))), (w7_w15_q6, .inl (w7_w15_c6, 201, .inl (fun _ => 0))), (q9, .inr (5, [.ref w9_q1, .ref w9_q2, .ref w9_q3, .ref w9_q4, .ref w9_q5, .int 0])), (w9_q1, .inl (w9_c1, 600, .inl (fun _ => 0))), (w9_q2, .inl (w9_c2, 600, .inr (.inl (fun _ => 0)))), (w9_q3, .inl (w9_c3, 600, .inl (fun _ => 0))), (w9_q4, .inl (w9_c4, 600, .inl (fun _ => 0))), (w9_q5, .inl (w9_c5, 600, .inl (fun _ => 0))), (q11, .inr (10, [.ref w11_q1, .ref w11_q2, .ref w11_q3, .ref w11_q4, .int 0, .ref w11_q5, .ref w11_q6, .int 0])), (w11_q1, .inl (w11_c1, 200, .inl (fun _ => 0))), (w11_q2, .inl (w11_c2, 200, .inr (.inl (fun _ => 0)))), (w11_q3, .inl (w11_c3, 200, .inl (fun _ => 0))), (w11_q4, .inl (w11_c4, 200, .inl (fun _ => 0))), (w11_q5, .inl (w11_c5, 201, .inl (fun _ => 0))), (w11_q6, .inl (w11_c6, 201, .inl (fun _ => 0)))]) (tys' := [(w1_c1, .int), (w1_c2, .int), (w1_c3, .long), (w1_c4, .int), (w3_w1_c1, .byte), (w3_w3_c1, .byte), (w5_c1, .int), (w5_c2, .int), (w5_c3, .int), (w5_c4, .int), (w5_c5, .int), (w5_c6, .int), (w7_c1, .int), (w7_c2, .long), (w7_c3, .int), (w7_c4, .int), (w7_c5, .long), (w7_c6, .int), (w7_c7, .int), (w7_c8, .int), (w7_c9, .int), (w7_c10, .int), (w7_c11, .int), (w7_c12, .int), (w7_c13, .int), (w7_c14, .int), (w7_w15_c1, .int), (w7_w15_c2, .long), (w7_w15_c3, .int), (w7_w15_c4, .int), (w7_w15_c5, .int), (w7_w15_c6, .int), (w9_c1, .int), (w9_c2, .long), (w9_c3, .int), (w9_c4, .int), (w9_c5, .int), (w11_c1, .int), (w11_c2, .long), (w11_c3, .int), (w11_c4, .int), (w11_c5, .int), (w11_c6, .int)]) rfl rfl ?_
  refine y_putF (pc := 67) (q0 := 0) (v := .ref q11) (ty := .object "KindRounds$Row") (ws' := [(h, .inr (0, [.ref q1, .ref q3, .ref q5, .ref q7, .ref q9, .ref q11, .null, .null, .null, .null, .null, .null])), (q1, .inr (1, [.ref w1_q1, .int 0, .ref w1_q2, .ref w1_q3, .ref w1_q4, .int 0, .int 0])), (w1_q1, .inl (w1_c1, 1200, .inl (fun _ => 0))), (w1_q2, .inl (w1_c2, 1201, .inl (fun _ => 0))), (w1_q3, .inl (w1_c3, 1201, .inr (.inl (fun _ => 0)))), (w1_q4, .inl (w1_c4, 1201, .inl (fun _ => 0))), (q3, .inr (2, [.int 0, .int 0, .ref w3_q1, .ref w3_q3])), (w3_q1, .inr (11, [.ref w3_w1_q1, .int 0])), (w3_w1_q1, .inl (w3_w1_c1, 2400, .inl (fun _ => 0))), (w3_q3, .inr (11, [.ref w3_w3_q1, .int 0])), (w3_w3_q1, .inl (w3_w3_c1, 2400, .inl (fun _ => 0))), (q5, .inr (3, [.ref w5_q1, .ref w5_q2, .ref w5_q3, .ref w5_q4, .ref w5_q5, .ref w5_q6, .int (1 : Int32), .int (1 : Int32), .int 0, .int 0, .int 0])), (w5_q1, .inl (w5_c1, 1713, .inl (fun _ => 0))), (w5_q2, .inl (w5_c2, 1713, .inl (fun _ => 0))), (w5_q3, .inl (w5_c3, 1713, .inl (upd (fun _ => 0) 0 (-1 : Int32)))), (w5_q4, .inl (w5_c4, 1713, .inl (fun _ => 0))), (w5_q5, .inl (w5_c5, 1713, .inl (fun _ => 0))), (w5_q6, .inl (w5_c6, 3434, .inl (fun _ => 0))), (q7, .inr (4, [.int 0, .ref w7_q1, .ref w7_q2, .ref w7_q3, .ref w7_q4, .ref w7_q5, .ref w7_q6, .ref w7_q7, .ref w7_q8, .ref w7_q9, .ref w7_q10, .ref w7_q11, .int 0, .ref w7_q12, .ref w7_q13, .ref w7_q14, .ref w7_q15])), (w7_q1, .inl (w7_c1, 16, .inl (fun _ => 0))), (w7_q2, .inl (w7_c2, 16, .inr (.inl (fun _ => 0)))), (w7_q3, .inl (w7_c3, 16, .inl (fun _ => 0))), (w7_q4, .inl (w7_c4, 16, .inl (fun _ => 0))), (w7_q5, .inl (w7_c5, 48, .inr (.inl (fun _ => 0)))), (w7_q6, .inl (w7_c6, 16, .inl (fun _ => 0))), (w7_q7, .inl (w7_c7, 16, .inl (fun _ => 0))), (w7_q8, .inl (w7_c8, 16, .inl (fun _ => 0))), (w7_q9, .inl (w7_c9, 16, .inl (fun _ => 0))), (w7_q10, .inl (w7_c10, 16, .inl (fun _ => 0))), (w7_q11, .inl (w7_c11, 16, .inl (fun _ => 0))), (w7_q12, .inl (w7_c12, 16, .inl (fun _ => 0))), (w7_q13, .inl (w7_c13, 48, .inl (fun _ => 0))), (w7_q14, .inl (w7_c14, 16, .inl (fun _ => 0))), (w7_q15, .inr (10, [.ref w7_w15_q1, .ref w7_w15_q2, .ref w7_w15_q3, .ref w7_w15_q4, .int 0, .ref w7_w15_q5, .ref w7_w15_q6, .int 0])), (w7_w15_q1, .inl (w7_w15_c1, 200, .inl (fun _ => 0))), (w7_w15_q2, .inl (w7_w15_c2, 200, .inr (.inl (fun _ => 0)))), (w7_w15_q3, .inl (w7_w15_c3, 200, .inl (fun _ => 0))), (w7_w15_q4, .inl (w7_w15_c4, 200, .inl (fun _ => 0))), (w7_w15_q5, .inl (w7_w15_c5, 201, .inl (fun _ => 0))), (w7_w15_q6, .inl (w7_w15_c6, 201, .inl (fun _ => 0))), (q9, .inr (5, [.ref w9_q1, .ref w9_q2, .ref w9_q3, .ref w9_q4, .ref w9_q5, .int 0])), (w9_q1, .inl (w9_c1, 600, .inl (fun _ => 0))), (w9_q2, .inl (w9_c2, 600, .inr (.inl (fun _ => 0)))), (w9_q3, .inl (w9_c3, 600, .inl (fun _ => 0))), (w9_q4, .inl (w9_c4, 600, .inl (fun _ => 0))), (w9_q5, .inl (w9_c5, 600, .inl (fun _ => 0))), (q11, .inr (10, [.ref w11_q1, .ref w11_q2, .ref w11_q3, .ref w11_q4, .int 0, .ref w11_q5, .ref w11_q6, .int 0])), (w11_q1, .inl (w11_c1, 200, .inl (fun _ => 0))), (w11_q2, .inl (w11_c2, 200, .inr (.inl (fun _ => 0)))), (w11_q3, .inl (w11_c3, 200, .inl (fun _ => 0))), (w11_q4, .inl (w11_c4, 200, .inl (fun _ => 0))), (w11_q5, .inl (w11_c5, 201, .inl (fun _ => 0))), (w11_q6, .inl (w11_c6, 201, .inl (fun _ => 0)))]) C hin 5 mCI_147 i_Q t_Q t_Q_ok n_Q rfl rfl (Nat.le_of_ble_eq_true rfl) rfl rfl rfl rfl rfl rfl (Nat.le_of_ble_eq_true rfl) rfl d_Q_init_67 ?_
  refine y_aload_n (pc := 70) C d_Q_init_70 rfl 0 rfl ?_
  refine y_new (pc := 71) (ci := 6) (fs := [.null, .null, .null, .null, .null, .null, .int 0]) C i_Pa t_Pa t_Pa_ok mCI_148 mCI_149 mCI_84 rfl df_Pa (Nat.le_of_ble_eq_true rfl) (Nat.le_of_ble_eq_true rfl) d_Q_init_71 (fun q13 => ?_)
  refine y_ws (ws' := [(h, .inr (0, [.ref q1, .ref q3, .ref q5, .ref q7, .ref q9, .ref q11, .null, .null, .null, .null, .null, .null])), (q1, .inr (1, [.ref w1_q1, .int 0, .ref w1_q2, .ref w1_q3, .ref w1_q4, .int 0, .int 0])), (w1_q1, .inl (w1_c1, 1200, .inl (fun _ => 0))), (w1_q2, .inl (w1_c2, 1201, .inl (fun _ => 0))), (w1_q3, .inl (w1_c3, 1201, .inr (.inl (fun _ => 0)))), (w1_q4, .inl (w1_c4, 1201, .inl (fun _ => 0))), (q3, .inr (2, [.int 0, .int 0, .ref w3_q1, .ref w3_q3])), (w3_q1, .inr (11, [.ref w3_w1_q1, .int 0])), (w3_w1_q1, .inl (w3_w1_c1, 2400, .inl (fun _ => 0))), (w3_q3, .inr (11, [.ref w3_w3_q1, .int 0])), (w3_w3_q1, .inl (w3_w3_c1, 2400, .inl (fun _ => 0))), (q5, .inr (3, [.ref w5_q1, .ref w5_q2, .ref w5_q3, .ref w5_q4, .ref w5_q5, .ref w5_q6, .int (1 : Int32), .int (1 : Int32), .int 0, .int 0, .int 0])), (w5_q1, .inl (w5_c1, 1713, .inl (fun _ => 0))), (w5_q2, .inl (w5_c2, 1713, .inl (fun _ => 0))), (w5_q3, .inl (w5_c3, 1713, .inl (upd (fun _ => 0) 0 (-1 : Int32)))), (w5_q4, .inl (w5_c4, 1713, .inl (fun _ => 0))), (w5_q5, .inl (w5_c5, 1713, .inl (fun _ => 0))), (w5_q6, .inl (w5_c6, 3434, .inl (fun _ => 0))), (q7, .inr (4, [.int 0, .ref w7_q1, .ref w7_q2, .ref w7_q3, .ref w7_q4, .ref w7_q5, .ref w7_q6, .ref w7_q7, .ref w7_q8, .ref w7_q9, .ref w7_q10, .ref w7_q11, .int 0, .ref w7_q12, .ref w7_q13, .ref w7_q14, .ref w7_q15])), (w7_q1, .inl (w7_c1, 16, .inl (fun _ => 0))), (w7_q2, .inl (w7_c2, 16, .inr (.inl (fun _ => 0)))), (w7_q3, .inl (w7_c3, 16, .inl (fun _ => 0))), (w7_q4, .inl (w7_c4, 16, .inl (fun _ => 0))), (w7_q5, .inl (w7_c5, 48, .inr (.inl (fun _ => 0)))), (w7_q6, .inl (w7_c6, 16, .inl (fun _ => 0))), (w7_q7, .inl (w7_c7, 16, .inl (fun _ => 0))), (w7_q8, .inl (w7_c8, 16, .inl (fun _ => 0))), (w7_q9, .inl (w7_c9, 16, .inl (fun _ => 0))), (w7_q10, .inl (w7_c10, 16, .inl (fun _ => 0))), (w7_q11, .inl (w7_c11, 16, .inl (fun _ => 0))), (w7_q12, .inl (w7_c12, 16, .inl (fun _ => 0))), (w7_q13, .inl (w7_c13, 48, .inl (fun _ => 0))), (w7_q14, .inl (w7_c14, 16, .inl (fun _ => 0))), (w7_q15, .inr (10, [.ref w7_w15_q1, .ref w7_w15_q2, .ref w7_w15_q3, .ref w7_w15_q4, .int 0, .ref w7_w15_q5, .ref w7_w15_q6, .int 0])), (w7_w15_q1, .inl (w7_w15_c1, 200, .inl (fun _ => 0))), (w7_w15_q2, .inl (w7_w15_c2, 200, .inr (.inl (fun _ => 0)))), (w7_w15_q3, .inl (w7_w15_c3, 200, .inl (fun _ => 0))), (w7_w15_q4, .inl (w7_w15_c4, 200, .inl (fun _ => 0))), (w7_w15_q5, .inl (w7_w15_c5, 201, .inl (fun _ => 0))), (w7_w15_q6, .inl (w7_w15_c6, 201, .inl (fun _ => 0))), (q9, .inr (5, [.ref w9_q1, .ref w9_q2, .ref w9_q3, .ref w9_q4, .ref w9_q5, .int 0])), (w9_q1, .inl (w9_c1, 600, .inl (fun _ => 0))), (w9_q2, .inl (w9_c2, 600, .inr (.inl (fun _ => 0)))), (w9_q3, .inl (w9_c3, 600, .inl (fun _ => 0))), (w9_q4, .inl (w9_c4, 600, .inl (fun _ => 0))), (w9_q5, .inl (w9_c5, 600, .inl (fun _ => 0))), (q11, .inr (10, [.ref w11_q1, .ref w11_q2, .ref w11_q3, .ref w11_q4, .int 0, .ref w11_q5, .ref w11_q6, .int 0])), (w11_q1, .inl (w11_c1, 200, .inl (fun _ => 0))), (w11_q2, .inl (w11_c2, 200, .inr (.inl (fun _ => 0)))), (w11_q3, .inl (w11_c3, 200, .inl (fun _ => 0))), (w11_q4, .inl (w11_c4, 200, .inl (fun _ => 0))), (w11_q5, .inl (w11_c5, 201, .inl (fun _ => 0))), (w11_q6, .inl (w11_c6, 201, .inl (fun _ => 0))), (q13, .inr (6, [.null, .null, .null, .null, .null, .null, .int 0]))]) (tys' := [(w1_c1, .int), (w1_c2, .int), (w1_c3, .long), (w1_c4, .int), (w3_w1_c1, .byte), (w3_w3_c1, .byte), (w5_c1, .int), (w5_c2, .int), (w5_c3, .int), (w5_c4, .int), (w5_c5, .int), (w5_c6, .int), (w7_c1, .int), (w7_c2, .long), (w7_c3, .int), (w7_c4, .int), (w7_c5, .long), (w7_c6, .int), (w7_c7, .int), (w7_c8, .int), (w7_c9, .int), (w7_c10, .int), (w7_c11, .int), (w7_c12, .int), (w7_c13, .int), (w7_c14, .int), (w7_w15_c1, .int), (w7_w15_c2, .long), (w7_w15_c3, .int), (w7_w15_c4, .int), (w7_w15_c5, .int), (w7_w15_c6, .int), (w9_c1, .int), (w9_c2, .long), (w9_c3, .int), (w9_c4, .int), (w9_c5, .int), (w11_c1, .int), (w11_c2, .long), (w11_c3, .int), (w11_c4, .int), (w11_c5, .int), (w11_c6, .int)]) rfl rfl ?_
  refine y_dup (pc := 74) C d_Q_init_74 rfl ?_
  refine y_aload_n (pc := 75) C d_Q_init_75 rfl 0 rfl ?_
  refine y_get (pc := 76) (q0 := 0) (v := .ref q1) C 0 mCI_124 i_Q rfl rfl (Nat.le_of_ble_eq_true rfl) rfl rfl d_Q_init_76 ?_
  refine y_aload_n (pc := 79) C d_Q_init_79 rfl 0 rfl ?_
  refine y_get (pc := 80) (q0 := 0) (v := .ref q7) C 3 mCI_139 i_Q rfl rfl (Nat.le_of_ble_eq_true rfl) rfl rfl d_Q_init_80 ?_
  refine y_aload_n (pc := 83) C d_Q_init_83 rfl 0 rfl ?_
  refine y_get (pc := 84) (q0 := 0) (v := .ref q9) C 4 mCI_144 i_Q rfl rfl (Nat.le_of_ble_eq_true rfl) rfl rfl d_Q_init_84 ?_
  refine y_aload_n (pc := 87) C d_Q_init_87 rfl 0 rfl ?_
  refine y_get (pc := 88) (q0 := 0) (v := .ref q5) C 2 mCI_134 i_Q rfl rfl (Nat.le_of_ble_eq_true rfl) rfl rfl d_Q_init_88 ?_
  refine y_aload_n (pc := 91) C d_Q_init_91 rfl 0 rfl ?_
  refine y_get (pc := 92) (q0 := 0) (v := .ref q3) C 1 mCI_129 i_Q rfl rfl (Nat.le_of_ble_eq_true rfl) rfl rfl d_Q_init_92 ?_
  refine y_ctor (pc := 95) (wc := [(q13, .inr (6, [.null, .null, .null, .null, .null, .null, .int 0])), (q7, .inr (4, [.int 0, .ref w7_q1, .ref w7_q2, .ref w7_q3, .ref w7_q4, .ref w7_q5, .ref w7_q6, .ref w7_q7, .ref w7_q8, .ref w7_q9, .ref w7_q10, .ref w7_q11, .int 0, .ref w7_q12, .ref w7_q13, .ref w7_q14, .ref w7_q15]))]) (wr := [(h, .inr (0, [.ref q1, .ref q3, .ref q5, .ref q7, .ref q9, .ref q11, .null, .null, .null, .null, .null, .null])), (q1, .inr (1, [.ref w1_q1, .int 0, .ref w1_q2, .ref w1_q3, .ref w1_q4, .int 0, .int 0])), (w1_q1, .inl (w1_c1, 1200, .inl (fun _ => 0))), (w1_q2, .inl (w1_c2, 1201, .inl (fun _ => 0))), (w1_q3, .inl (w1_c3, 1201, .inr (.inl (fun _ => 0)))), (w1_q4, .inl (w1_c4, 1201, .inl (fun _ => 0))), (q3, .inr (2, [.int 0, .int 0, .ref w3_q1, .ref w3_q3])), (w3_q1, .inr (11, [.ref w3_w1_q1, .int 0])), (w3_w1_q1, .inl (w3_w1_c1, 2400, .inl (fun _ => 0))), (w3_q3, .inr (11, [.ref w3_w3_q1, .int 0])), (w3_w3_q1, .inl (w3_w3_c1, 2400, .inl (fun _ => 0))), (q5, .inr (3, [.ref w5_q1, .ref w5_q2, .ref w5_q3, .ref w5_q4, .ref w5_q5, .ref w5_q6, .int (1 : Int32), .int (1 : Int32), .int 0, .int 0, .int 0])), (w5_q1, .inl (w5_c1, 1713, .inl (fun _ => 0))), (w5_q2, .inl (w5_c2, 1713, .inl (fun _ => 0))), (w5_q3, .inl (w5_c3, 1713, .inl (upd (fun _ => 0) 0 (-1 : Int32)))), (w5_q4, .inl (w5_c4, 1713, .inl (fun _ => 0))), (w5_q5, .inl (w5_c5, 1713, .inl (fun _ => 0))), (w5_q6, .inl (w5_c6, 3434, .inl (fun _ => 0))), (w7_q1, .inl (w7_c1, 16, .inl (fun _ => 0))), (w7_q2, .inl (w7_c2, 16, .inr (.inl (fun _ => 0)))), (w7_q3, .inl (w7_c3, 16, .inl (fun _ => 0))), (w7_q4, .inl (w7_c4, 16, .inl (fun _ => 0))), (w7_q5, .inl (w7_c5, 48, .inr (.inl (fun _ => 0)))), (w7_q6, .inl (w7_c6, 16, .inl (fun _ => 0))), (w7_q7, .inl (w7_c7, 16, .inl (fun _ => 0))), (w7_q8, .inl (w7_c8, 16, .inl (fun _ => 0))), (w7_q9, .inl (w7_c9, 16, .inl (fun _ => 0))), (w7_q10, .inl (w7_c10, 16, .inl (fun _ => 0))), (w7_q11, .inl (w7_c11, 16, .inl (fun _ => 0))), (w7_q12, .inl (w7_c12, 16, .inl (fun _ => 0))), (w7_q13, .inl (w7_c13, 48, .inl (fun _ => 0))), (w7_q14, .inl (w7_c14, 16, .inl (fun _ => 0))), (w7_q15, .inr (10, [.ref w7_w15_q1, .ref w7_w15_q2, .ref w7_w15_q3, .ref w7_w15_q4, .int 0, .ref w7_w15_q5, .ref w7_w15_q6, .int 0])), (w7_w15_q1, .inl (w7_w15_c1, 200, .inl (fun _ => 0))), (w7_w15_q2, .inl (w7_w15_c2, 200, .inr (.inl (fun _ => 0)))), (w7_w15_q3, .inl (w7_w15_c3, 200, .inl (fun _ => 0))), (w7_w15_q4, .inl (w7_w15_c4, 200, .inl (fun _ => 0))), (w7_w15_q5, .inl (w7_w15_c5, 201, .inl (fun _ => 0))), (w7_w15_q6, .inl (w7_w15_c6, 201, .inl (fun _ => 0))), (q9, .inr (5, [.ref w9_q1, .ref w9_q2, .ref w9_q3, .ref w9_q4, .ref w9_q5, .int 0])), (w9_q1, .inl (w9_c1, 600, .inl (fun _ => 0))), (w9_q2, .inl (w9_c2, 600, .inr (.inl (fun _ => 0)))), (w9_q3, .inl (w9_c3, 600, .inl (fun _ => 0))), (w9_q4, .inl (w9_c4, 600, .inl (fun _ => 0))), (w9_q5, .inl (w9_c5, 600, .inl (fun _ => 0))), (q11, .inr (10, [.ref w11_q1, .ref w11_q2, .ref w11_q3, .ref w11_q4, .int 0, .ref w11_q5, .ref w11_q6, .int 0])), (w11_q1, .inl (w11_c1, 200, .inl (fun _ => 0))), (w11_q2, .inl (w11_c2, 200, .inr (.inl (fun _ => 0)))), (w11_q3, .inl (w11_c3, 200, .inl (fun _ => 0))), (w11_q4, .inl (w11_c4, 200, .inl (fun _ => 0))), (w11_q5, .inl (w11_c5, 201, .inl (fun _ => 0))), (w11_q6, .inl (w11_c6, 201, .inl (fun _ => 0)))]) C (i_Pa_init (h := q13) (x1 := q1) (x2 := q7) (x3 := q9) (x4 := q5) (x5 := q3) (tfs := [.int 0, .ref w7_q1, .ref w7_q2, .ref w7_q3, .ref w7_q4, .ref w7_q5, .ref w7_q6, .ref w7_q7, .ref w7_q8, .ref w7_q9, .ref w7_q10, .ref w7_q11, .int 0, .ref w7_q12, .ref w7_q13, .ref w7_q14, .ref w7_q15]) (ro := w7_q15) rfl) km_Pa_init mCI_151 rfl mCI_150 [53, 18] [0, 1, 2, 3, 4, 5, 6, 7, 8, 9, 10, 11, 12, 13, 14, 15, 16, 17, 19, 20, 21, 22, 23, 24, 25, 26, 27, 28, 29, 30, 31, 32, 33, 34, 35, 36, 37, 38, 39, 40, 41, 42, 43, 44, 45, 46, 47, 48, 49, 50, 51, 52] rfl rfl rfl rfl rfl (by decide) rfl (rmN_of (Nat.le_of_ble_eq_true rfl) (Nat.le_of_ble_eq_true rfl)) ⟨Nat.le_of_ble_eq_true rfl, Nat.le_of_ble_eq_true rfl⟩ rfl (Nat.le_of_ble_eq_true rfl) d_Q_init_95 (fun w t hwt => ?_)
  obtain ⟨rfl, rfl⟩ := hwt
  refine y_ws (ws' := [(h, .inr (0, [.ref q1, .ref q3, .ref q5, .ref q7, .ref q9, .ref q11, .null, .null, .null, .null, .null, .null])), (q1, .inr (1, [.ref w1_q1, .int 0, .ref w1_q2, .ref w1_q3, .ref w1_q4, .int 0, .int 0])), (w1_q1, .inl (w1_c1, 1200, .inl (fun _ => 0))), (w1_q2, .inl (w1_c2, 1201, .inl (fun _ => 0))), (w1_q3, .inl (w1_c3, 1201, .inr (.inl (fun _ => 0)))), (w1_q4, .inl (w1_c4, 1201, .inl (fun _ => 0))), (q3, .inr (2, [.int 0, .int 0, .ref w3_q1, .ref w3_q3])), (w3_q1, .inr (11, [.ref w3_w1_q1, .int 0])), (w3_w1_q1, .inl (w3_w1_c1, 2400, .inl (fun _ => 0))), (w3_q3, .inr (11, [.ref w3_w3_q1, .int 0])), (w3_w3_q1, .inl (w3_w3_c1, 2400, .inl (fun _ => 0))), (q5, .inr (3, [.ref w5_q1, .ref w5_q2, .ref w5_q3, .ref w5_q4, .ref w5_q5, .ref w5_q6, .int (1 : Int32), .int (1 : Int32), .int 0, .int 0, .int 0])), (w5_q1, .inl (w5_c1, 1713, .inl (fun _ => 0))), (w5_q2, .inl (w5_c2, 1713, .inl (fun _ => 0))), (w5_q3, .inl (w5_c3, 1713, .inl (upd (fun _ => 0) 0 (-1 : Int32)))), (w5_q4, .inl (w5_c4, 1713, .inl (fun _ => 0))), (w5_q5, .inl (w5_c5, 1713, .inl (fun _ => 0))), (w5_q6, .inl (w5_c6, 3434, .inl (fun _ => 0))), (w7_q1, .inl (w7_c1, 16, .inl (fun _ => 0))), (w7_q2, .inl (w7_c2, 16, .inr (.inl (fun _ => 0)))), (w7_q3, .inl (w7_c3, 16, .inl (fun _ => 0))), (w7_q4, .inl (w7_c4, 16, .inl (fun _ => 0))), (w7_q5, .inl (w7_c5, 48, .inr (.inl (fun _ => 0)))), (w7_q6, .inl (w7_c6, 16, .inl (fun _ => 0))), (w7_q7, .inl (w7_c7, 16, .inl (fun _ => 0))), (w7_q8, .inl (w7_c8, 16, .inl (fun _ => 0))), (w7_q9, .inl (w7_c9, 16, .inl (fun _ => 0))), (w7_q10, .inl (w7_c10, 16, .inl (fun _ => 0))), (w7_q11, .inl (w7_c11, 16, .inl (fun _ => 0))), (w7_q12, .inl (w7_c12, 16, .inl (fun _ => 0))), (w7_q13, .inl (w7_c13, 48, .inl (fun _ => 0))), (w7_q14, .inl (w7_c14, 16, .inl (fun _ => 0))), (w7_q15, .inr (10, [.ref w7_w15_q1, .ref w7_w15_q2, .ref w7_w15_q3, .ref w7_w15_q4, .int 0, .ref w7_w15_q5, .ref w7_w15_q6, .int 0])), (w7_w15_q1, .inl (w7_w15_c1, 200, .inl (fun _ => 0))), (w7_w15_q2, .inl (w7_w15_c2, 200, .inr (.inl (fun _ => 0)))), (w7_w15_q3, .inl (w7_w15_c3, 200, .inl (fun _ => 0))), (w7_w15_q4, .inl (w7_w15_c4, 200, .inl (fun _ => 0))), (w7_w15_q5, .inl (w7_w15_c5, 201, .inl (fun _ => 0))), (w7_w15_q6, .inl (w7_w15_c6, 201, .inl (fun _ => 0))), (q9, .inr (5, [.ref w9_q1, .ref w9_q2, .ref w9_q3, .ref w9_q4, .ref w9_q5, .int 0])), (w9_q1, .inl (w9_c1, 600, .inl (fun _ => 0))), (w9_q2, .inl (w9_c2, 600, .inr (.inl (fun _ => 0)))), (w9_q3, .inl (w9_c3, 600, .inl (fun _ => 0))), (w9_q4, .inl (w9_c4, 600, .inl (fun _ => 0))), (w9_q5, .inl (w9_c5, 600, .inl (fun _ => 0))), (q11, .inr (10, [.ref w11_q1, .ref w11_q2, .ref w11_q3, .ref w11_q4, .int 0, .ref w11_q5, .ref w11_q6, .int 0])), (w11_q1, .inl (w11_c1, 200, .inl (fun _ => 0))), (w11_q2, .inl (w11_c2, 200, .inr (.inl (fun _ => 0)))), (w11_q3, .inl (w11_c3, 200, .inl (fun _ => 0))), (w11_q4, .inl (w11_c4, 200, .inl (fun _ => 0))), (w11_q5, .inl (w11_c5, 201, .inl (fun _ => 0))), (w11_q6, .inl (w11_c6, 201, .inl (fun _ => 0))), (q13, .inr (6, [.ref q1, .ref q7, .ref q9, .ref q5, .ref q3, .ref w7_q15, .int 0])), (q7, .inr (4, [.int 0, .ref w7_q1, .ref w7_q2, .ref w7_q3, .ref w7_q4, .ref w7_q5, .ref w7_q6, .ref w7_q7, .ref w7_q8, .ref w7_q9, .ref w7_q10, .ref w7_q11, .int 0, .ref w7_q12, .ref w7_q13, .ref w7_q14, .ref w7_q15]))]) (tys' := [(w1_c1, .int), (w1_c2, .int), (w1_c3, .long), (w1_c4, .int), (w3_w1_c1, .byte), (w3_w3_c1, .byte), (w5_c1, .int), (w5_c2, .int), (w5_c3, .int), (w5_c4, .int), (w5_c5, .int), (w5_c6, .int), (w7_c1, .int), (w7_c2, .long), (w7_c3, .int), (w7_c4, .int), (w7_c5, .long), (w7_c6, .int), (w7_c7, .int), (w7_c8, .int), (w7_c9, .int), (w7_c10, .int), (w7_c11, .int), (w7_c12, .int), (w7_c13, .int), (w7_c14, .int), (w7_w15_c1, .int), (w7_w15_c2, .long), (w7_w15_c3, .int), (w7_w15_c4, .int), (w7_w15_c5, .int), (w7_w15_c6, .int), (w9_c1, .int), (w9_c2, .long), (w9_c3, .int), (w9_c4, .int), (w9_c5, .int), (w11_c1, .int), (w11_c2, .long), (w11_c3, .int), (w11_c4, .int), (w11_c5, .int), (w11_c6, .int)]) rfl rfl ?_
  refine y_putF (pc := 98) (q0 := 0) (v := .ref q13) (ty := .object "KindRounds$Parser") (ws' := [(h, .inr (0, [.ref q1, .ref q3, .ref q5, .ref q7, .ref q9, .ref q11, .ref q13, .null, .null, .null, .null, .null])), (q1, .inr (1, [.ref w1_q1, .int 0, .ref w1_q2, .ref w1_q3, .ref w1_q4, .int 0, .int 0])), (w1_q1, .inl (w1_c1, 1200, .inl (fun _ => 0))), (w1_q2, .inl (w1_c2, 1201, .inl (fun _ => 0))), (w1_q3, .inl (w1_c3, 1201, .inr (.inl (fun _ => 0)))), (w1_q4, .inl (w1_c4, 1201, .inl (fun _ => 0))), (q3, .inr (2, [.int 0, .int 0, .ref w3_q1, .ref w3_q3])), (w3_q1, .inr (11, [.ref w3_w1_q1, .int 0])), (w3_w1_q1, .inl (w3_w1_c1, 2400, .inl (fun _ => 0))), (w3_q3, .inr (11, [.ref w3_w3_q1, .int 0])), (w3_w3_q1, .inl (w3_w3_c1, 2400, .inl (fun _ => 0))), (q5, .inr (3, [.ref w5_q1, .ref w5_q2, .ref w5_q3, .ref w5_q4, .ref w5_q5, .ref w5_q6, .int (1 : Int32), .int (1 : Int32), .int 0, .int 0, .int 0])), (w5_q1, .inl (w5_c1, 1713, .inl (fun _ => 0))), (w5_q2, .inl (w5_c2, 1713, .inl (fun _ => 0))), (w5_q3, .inl (w5_c3, 1713, .inl (upd (fun _ => 0) 0 (-1 : Int32)))), (w5_q4, .inl (w5_c4, 1713, .inl (fun _ => 0))), (w5_q5, .inl (w5_c5, 1713, .inl (fun _ => 0))), (w5_q6, .inl (w5_c6, 3434, .inl (fun _ => 0))), (w7_q1, .inl (w7_c1, 16, .inl (fun _ => 0))), (w7_q2, .inl (w7_c2, 16, .inr (.inl (fun _ => 0)))), (w7_q3, .inl (w7_c3, 16, .inl (fun _ => 0))), (w7_q4, .inl (w7_c4, 16, .inl (fun _ => 0))), (w7_q5, .inl (w7_c5, 48, .inr (.inl (fun _ => 0)))), (w7_q6, .inl (w7_c6, 16, .inl (fun _ => 0))), (w7_q7, .inl (w7_c7, 16, .inl (fun _ => 0))), (w7_q8, .inl (w7_c8, 16, .inl (fun _ => 0))), (w7_q9, .inl (w7_c9, 16, .inl (fun _ => 0))), (w7_q10, .inl (w7_c10, 16, .inl (fun _ => 0))), (w7_q11, .inl (w7_c11, 16, .inl (fun _ => 0))), (w7_q12, .inl (w7_c12, 16, .inl (fun _ => 0))), (w7_q13, .inl (w7_c13, 48, .inl (fun _ => 0))), (w7_q14, .inl (w7_c14, 16, .inl (fun _ => 0))), (w7_q15, .inr (10, [.ref w7_w15_q1, .ref w7_w15_q2, .ref w7_w15_q3, .ref w7_w15_q4, .int 0, .ref w7_w15_q5, .ref w7_w15_q6, .int 0])), (w7_w15_q1, .inl (w7_w15_c1, 200, .inl (fun _ => 0))), (w7_w15_q2, .inl (w7_w15_c2, 200, .inr (.inl (fun _ => 0)))), (w7_w15_q3, .inl (w7_w15_c3, 200, .inl (fun _ => 0))), (w7_w15_q4, .inl (w7_w15_c4, 200, .inl (fun _ => 0))), (w7_w15_q5, .inl (w7_w15_c5, 201, .inl (fun _ => 0))), (w7_w15_q6, .inl (w7_w15_c6, 201, .inl (fun _ => 0))), (q9, .inr (5, [.ref w9_q1, .ref w9_q2, .ref w9_q3, .ref w9_q4, .ref w9_q5, .int 0])), (w9_q1, .inl (w9_c1, 600, .inl (fun _ => 0))), (w9_q2, .inl (w9_c2, 600, .inr (.inl (fun _ => 0)))), (w9_q3, .inl (w9_c3, 600, .inl (fun _ => 0))), (w9_q4, .inl (w9_c4, 600, .inl (fun _ => 0))), (w9_q5, .inl (w9_c5, 600, .inl (fun _ => 0))), (q11, .inr (10, [.ref w11_q1, .ref w11_q2, .ref w11_q3, .ref w11_q4, .int 0, .ref w11_q5, .ref w11_q6, .int 0])), (w11_q1, .inl (w11_c1, 200, .inl (fun _ => 0))), (w11_q2, .inl (w11_c2, 200, .inr (.inl (fun _ => 0)))), (w11_q3, .inl (w11_c3, 200, .inl (fun _ => 0))), (w11_q4, .inl (w11_c4, 200, .inl (fun _ => 0))), (w11_q5, .inl (w11_c5, 201, .inl (fun _ => 0))), (w11_q6, .inl (w11_c6, 201, .inl (fun _ => 0))), (q13, .inr (6, [.ref q1, .ref q7, .ref q9, .ref q5, .ref q3, .ref w7_q15, .int 0])), (q7, .inr (4, [.int 0, .ref w7_q1, .ref w7_q2, .ref w7_q3, .ref w7_q4, .ref w7_q5, .ref w7_q6, .ref w7_q7, .ref w7_q8, .ref w7_q9, .ref w7_q10, .ref w7_q11, .int 0, .ref w7_q12, .ref w7_q13, .ref w7_q14, .ref w7_q15]))]) C hin 6 mCI_152 i_Q t_Q t_Q_ok n_Q rfl rfl (Nat.le_of_ble_eq_true rfl) rfl rfl rfl rfl rfl rfl (Nat.le_of_ble_eq_true rfl) rfl d_Q_init_98 ?_
  refine y_aload_n (pc := 101) C d_Q_init_101 rfl 0 rfl ?_
  refine y_new (pc := 102) (ci := 7) (fs := [.null, .null, .null, .null]) C i_Ch t_Ch t_Ch_ok mCI_153 mCI_154 mCI_91 rfl df_Ch (Nat.le_of_ble_eq_true rfl) (Nat.le_of_ble_eq_true rfl) d_Q_init_102 (fun q15 => ?_)
  refine y_ws (ws' := [(h, .inr (0, [.ref q1, .ref q3, .ref q5, .ref q7, .ref q9, .ref q11, .ref q13, .null, .null, .null, .null, .null])), (q1, .inr (1, [.ref w1_q1, .int 0, .ref w1_q2, .ref w1_q3, .ref w1_q4, .int 0, .int 0])), (w1_q1, .inl (w1_c1, 1200, .inl (fun _ => 0))), (w1_q2, .inl (w1_c2, 1201, .inl (fun _ => 0))), (w1_q3, .inl (w1_c3, 1201, .inr (.inl (fun _ => 0)))), (w1_q4, .inl (w1_c4, 1201, .inl (fun _ => 0))), (q3, .inr (2, [.int 0, .int 0, .ref w3_q1, .ref w3_q3])), (w3_q1, .inr (11, [.ref w3_w1_q1, .int 0])), (w3_w1_q1, .inl (w3_w1_c1, 2400, .inl (fun _ => 0))), (w3_q3, .inr (11, [.ref w3_w3_q1, .int 0])), (w3_w3_q1, .inl (w3_w3_c1, 2400, .inl (fun _ => 0))), (q5, .inr (3, [.ref w5_q1, .ref w5_q2, .ref w5_q3, .ref w5_q4, .ref w5_q5, .ref w5_q6, .int (1 : Int32), .int (1 : Int32), .int 0, .int 0, .int 0])), (w5_q1, .inl (w5_c1, 1713, .inl (fun _ => 0))), (w5_q2, .inl (w5_c2, 1713, .inl (fun _ => 0))), (w5_q3, .inl (w5_c3, 1713, .inl (upd (fun _ => 0) 0 (-1 : Int32)))), (w5_q4, .inl (w5_c4, 1713, .inl (fun _ => 0))), (w5_q5, .inl (w5_c5, 1713, .inl (fun _ => 0))), (w5_q6, .inl (w5_c6, 3434, .inl (fun _ => 0))), (w7_q1, .inl (w7_c1, 16, .inl (fun _ => 0))), (w7_q2, .inl (w7_c2, 16, .inr (.inl (fun _ => 0)))), (w7_q3, .inl (w7_c3, 16, .inl (fun _ => 0))), (w7_q4, .inl (w7_c4, 16, .inl (fun _ => 0))), (w7_q5, .inl (w7_c5, 48, .inr (.inl (fun _ => 0)))), (w7_q6, .inl (w7_c6, 16, .inl (fun _ => 0))), (w7_q7, .inl (w7_c7, 16, .inl (fun _ => 0))), (w7_q8, .inl (w7_c8, 16, .inl (fun _ => 0))), (w7_q9, .inl (w7_c9, 16, .inl (fun _ => 0))), (w7_q10, .inl (w7_c10, 16, .inl (fun _ => 0))), (w7_q11, .inl (w7_c11, 16, .inl (fun _ => 0))), (w7_q12, .inl (w7_c12, 16, .inl (fun _ => 0))), (w7_q13, .inl (w7_c13, 48, .inl (fun _ => 0))), (w7_q14, .inl (w7_c14, 16, .inl (fun _ => 0))), (w7_q15, .inr (10, [.ref w7_w15_q1, .ref w7_w15_q2, .ref w7_w15_q3, .ref w7_w15_q4, .int 0, .ref w7_w15_q5, .ref w7_w15_q6, .int 0])), (w7_w15_q1, .inl (w7_w15_c1, 200, .inl (fun _ => 0))), (w7_w15_q2, .inl (w7_w15_c2, 200, .inr (.inl (fun _ => 0)))), (w7_w15_q3, .inl (w7_w15_c3, 200, .inl (fun _ => 0))), (w7_w15_q4, .inl (w7_w15_c4, 200, .inl (fun _ => 0))), (w7_w15_q5, .inl (w7_w15_c5, 201, .inl (fun _ => 0))), (w7_w15_q6, .inl (w7_w15_c6, 201, .inl (fun _ => 0))), (q9, .inr (5, [.ref w9_q1, .ref w9_q2, .ref w9_q3, .ref w9_q4, .ref w9_q5, .int 0])), (w9_q1, .inl (w9_c1, 600, .inl (fun _ => 0))), (w9_q2, .inl (w9_c2, 600, .inr (.inl (fun _ => 0)))), (w9_q3, .inl (w9_c3, 600, .inl (fun _ => 0))), (w9_q4, .inl (w9_c4, 600, .inl (fun _ => 0))), (w9_q5, .inl (w9_c5, 600, .inl (fun _ => 0))), (q11, .inr (10, [.ref w11_q1, .ref w11_q2, .ref w11_q3, .ref w11_q4, .int 0, .ref w11_q5, .ref w11_q6, .int 0])), (w11_q1, .inl (w11_c1, 200, .inl (fun _ => 0))), (w11_q2, .inl (w11_c2, 200, .inr (.inl (fun _ => 0)))), (w11_q3, .inl (w11_c3, 200, .inl (fun _ => 0))), (w11_q4, .inl (w11_c4, 200, .inl (fun _ => 0))), (w11_q5, .inl (w11_c5, 201, .inl (fun _ => 0))), (w11_q6, .inl (w11_c6, 201, .inl (fun _ => 0))), (q13, .inr (6, [.ref q1, .ref q7, .ref q9, .ref q5, .ref q3, .ref w7_q15, .int 0])), (q7, .inr (4, [.int 0, .ref w7_q1, .ref w7_q2, .ref w7_q3, .ref w7_q4, .ref w7_q5, .ref w7_q6, .ref w7_q7, .ref w7_q8, .ref w7_q9, .ref w7_q10, .ref w7_q11, .int 0, .ref w7_q12, .ref w7_q13, .ref w7_q14, .ref w7_q15])), (q15, .inr (7, [.null, .null, .null, .null]))]) (tys' := [(w1_c1, .int), (w1_c2, .int), (w1_c3, .long), (w1_c4, .int), (w3_w1_c1, .byte), (w3_w3_c1, .byte), (w5_c1, .int), (w5_c2, .int), (w5_c3, .int), (w5_c4, .int), (w5_c5, .int), (w5_c6, .int), (w7_c1, .int), (w7_c2, .long), (w7_c3, .int), (w7_c4, .int), (w7_c5, .long), (w7_c6, .int), (w7_c7, .int), (w7_c8, .int), (w7_c9, .int), (w7_c10, .int), (w7_c11, .int), (w7_c12, .int), (w7_c13, .int), (w7_c14, .int), (w7_w15_c1, .int), (w7_w15_c2, .long), (w7_w15_c3, .int), (w7_w15_c4, .int), (w7_w15_c5, .int), (w7_w15_c6, .int), (w9_c1, .int), (w9_c2, .long), (w9_c3, .int), (w9_c4, .int), (w9_c5, .int), (w11_c1, .int), (w11_c2, .long), (w11_c3, .int), (w11_c4, .int), (w11_c5, .int), (w11_c6, .int)]) rfl rfl ?_
  refine y_dup (pc := 105) C d_Q_init_105 rfl ?_
  refine y_aload_n (pc := 106) C d_Q_init_106 rfl 0 rfl ?_
  refine y_get (pc := 107) (q0 := 0) (v := .ref q7) C 3 mCI_139 i_Q rfl rfl (Nat.le_of_ble_eq_true rfl) rfl rfl d_Q_init_107 ?_
  refine y_aload_n (pc := 110) C d_Q_init_110 rfl 0 rfl ?_
  refine y_get (pc := 111) (q0 := 0) (v := .ref q9) C 4 mCI_144 i_Q rfl rfl (Nat.le_of_ble_eq_true rfl) rfl rfl d_Q_init_111 ?_
  refine y_aload_n (pc := 114) C d_Q_init_114 rfl 0 rfl ?_
  refine y_get (pc := 115) (q0 := 0) (v := .ref q3) C 1 mCI_129 i_Q rfl rfl (Nat.le_of_ble_eq_true rfl) rfl rfl d_Q_init_115 ?_
  refine y_ctor (pc := 118) (wc := [(q15, .inr (7, [.null, .null, .null, .null]))]) (wr := [(h, .inr (0, [.ref q1, .ref q3, .ref q5, .ref q7, .ref q9, .ref q11, .ref q13, .null, .null, .null, .null, .null])), (q1, .inr (1, [.ref w1_q1, .int 0, .ref w1_q2, .ref w1_q3, .ref w1_q4, .int 0, .int 0])), (w1_q1, .inl (w1_c1, 1200, .inl (fun _ => 0))), (w1_q2, .inl (w1_c2, 1201, .inl (fun _ => 0))), (w1_q3, .inl (w1_c3, 1201, .inr (.inl (fun _ => 0)))), (w1_q4, .inl (w1_c4, 1201, .inl (fun _ => 0))), (q3, .inr (2, [.int 0, .int 0, .ref w3_q1, .ref w3_q3])), (w3_q1, .inr (11, [.ref w3_w1_q1, .int 0])), (w3_w1_q1, .inl (w3_w1_c1, 2400, .inl (fun _ => 0))), (w3_q3, .inr (11, [.ref w3_w3_q1, .int 0])), (w3_w3_q1, .inl (w3_w3_c1, 2400, .inl (fun _ => 0))), (q5, .inr (3, [.ref w5_q1, .ref w5_q2, .ref w5_q3, .ref w5_q4, .ref w5_q5, .ref w5_q6, .int (1 : Int32), .int (1 : Int32), .int 0, .int 0, .int 0])), (w5_q1, .inl (w5_c1, 1713, .inl (fun _ => 0))), (w5_q2, .inl (w5_c2, 1713, .inl (fun _ => 0))), (w5_q3, .inl (w5_c3, 1713, .inl (upd (fun _ => 0) 0 (-1 : Int32)))), (w5_q4, .inl (w5_c4, 1713, .inl (fun _ => 0))), (w5_q5, .inl (w5_c5, 1713, .inl (fun _ => 0))), (w5_q6, .inl (w5_c6, 3434, .inl (fun _ => 0))), (w7_q1, .inl (w7_c1, 16, .inl (fun _ => 0))), (w7_q2, .inl (w7_c2, 16, .inr (.inl (fun _ => 0)))), (w7_q3, .inl (w7_c3, 16, .inl (fun _ => 0))), (w7_q4, .inl (w7_c4, 16, .inl (fun _ => 0))), (w7_q5, .inl (w7_c5, 48, .inr (.inl (fun _ => 0)))), (w7_q6, .inl (w7_c6, 16, .inl (fun _ => 0))), (w7_q7, .inl (w7_c7, 16, .inl (fun _ => 0))), (w7_q8, .inl (w7_c8, 16, .inl (fun _ => 0))), (w7_q9, .inl (w7_c9, 16, .inl (fun _ => 0))), (w7_q10, .inl (w7_c10, 16, .inl (fun _ => 0))), (w7_q11, .inl (w7_c11, 16, .inl (fun _ => 0))), (w7_q12, .inl (w7_c12, 16, .inl (fun _ => 0))), (w7_q13, .inl (w7_c13, 48, .inl (fun _ => 0))), (w7_q14, .inl (w7_c14, 16, .inl (fun _ => 0))), (w7_q15, .inr (10, [.ref w7_w15_q1, .ref w7_w15_q2, .ref w7_w15_q3, .ref w7_w15_q4, .int 0, .ref w7_w15_q5, .ref w7_w15_q6, .int 0])), (w7_w15_q1, .inl (w7_w15_c1, 200, .inl (fun _ => 0))), (w7_w15_q2, .inl (w7_w15_c2, 200, .inr (.inl (fun _ => 0)))), (w7_w15_q3, .inl (w7_w15_c3, 200, .inl (fun _ => 0))), (w7_w15_q4, .inl (w7_w15_c4, 200, .inl (fun _ => 0))), (w7_w15_q5, .inl (w7_w15_c5, 201, .inl (fun _ => 0))), (w7_w15_q6, .inl (w7_w15_c6, 201, .inl (fun _ => 0))), (q9, .inr (5, [.ref w9_q1, .ref w9_q2, .ref w9_q3, .ref w9_q4, .ref w9_q5, .int 0])), (w9_q1, .inl (w9_c1, 600, .inl (fun _ => 0))), (w9_q2, .inl (w9_c2, 600, .inr (.inl (fun _ => 0)))), (w9_q3, .inl (w9_c3, 600, .inl (fun _ => 0))), (w9_q4, .inl (w9_c4, 600, .inl (fun _ => 0))), (w9_q5, .inl (w9_c5, 600, .inl (fun _ => 0))), (q11, .inr (10, [.ref w11_q1, .ref w11_q2, .ref w11_q3, .ref w11_q4, .int 0, .ref w11_q5, .ref w11_q6, .int 0])), (w11_q1, .inl (w11_c1, 200, .inl (fun _ => 0))), (w11_q2, .inl (w11_c2, 200, .inr (.inl (fun _ => 0)))), (w11_q3, .inl (w11_c3, 200, .inl (fun _ => 0))), (w11_q4, .inl (w11_c4, 200, .inl (fun _ => 0))), (w11_q5, .inl (w11_c5, 201, .inl (fun _ => 0))), (w11_q6, .inl (w11_c6, 201, .inl (fun _ => 0))), (q13, .inr (6, [.ref q1, .ref q7, .ref q9, .ref q5, .ref q3, .ref w7_q15, .int 0])), (q7, .inr (4, [.int 0, .ref w7_q1, .ref w7_q2, .ref w7_q3, .ref w7_q4, .ref w7_q5, .ref w7_q6, .ref w7_q7, .ref w7_q8, .ref w7_q9, .ref w7_q10, .ref w7_q11, .int 0, .ref w7_q12, .ref w7_q13, .ref w7_q14, .ref w7_q15]))]) C (i_Ch_init (h := q15) (x1 := q7) (x2 := q9) (x3 := q3)) km_Ch_init mCI_156 rfl mCI_155 [54] [0, 1, 2, 3, 4, 5, 6, 7, 8, 9, 10, 11, 12, 13, 14, 15, 16, 17, 18, 19, 20, 21, 22, 23, 24, 25, 26, 27, 28, 29, 30, 31, 32, 33, 34, 35, 36, 37, 38, 39, 40, 41, 42, 43, 44, 45, 46, 47, 48, 49, 50, 51, 52, 53] rfl rfl rfl rfl rfl (by decide) rfl (rmN_of (Nat.le_of_ble_eq_true rfl) (Nat.le_of_ble_eq_true rfl)) ⟨Nat.le_of_ble_eq_true rfl, Nat.le_of_ble_eq_true rfl⟩ rfl (Nat.le_of_ble_eq_true rfl) d_Q_init_118 (fun w t hwt => ?_)
  obtain ⟨w15_q1, w15_c1, rfl, rfl⟩ := hwt
  refine y_ws (ws' := [(h, .inr (0, [.ref q1, .ref q3, .ref q5, .ref q7, .ref q9, .ref q11, .ref q13, .null, .null, .null, .null, .null])), (q1, .inr (1, [.ref w1_q1, .int 0, .ref w1_q2, .ref w1_q3, .ref w1_q4, .int 0, .int 0])), (w1_q1, .inl (w1_c1, 1200, .inl (fun _ => 0))), (w1_q2, .inl (w1_c2, 1201, .inl (fun _ => 0))), (w1_q3, .inl (w1_c3, 1201, .inr (.inl (fun _ => 0)))), (w1_q4, .inl (w1_c4, 1201, .inl (fun _ => 0))), (q3, .inr (2, [.int 0, .int 0, .ref w3_q1, .ref w3_q3])), (w3_q1, .inr (11, [.ref w3_w1_q1, .int 0])), (w3_w1_q1, .inl (w3_w1_c1, 2400, .inl (fun _ => 0))), (w3_q3, .inr (11, [.ref w3_w3_q1, .int 0])), (w3_w3_q1, .inl (w3_w3_c1, 2400, .inl (fun _ => 0))), (q5, .inr (3, [.ref w5_q1, .ref w5_q2, .ref w5_q3, .ref w5_q4, .ref w5_q5, .ref w5_q6, .int (1 : Int32), .int (1 : Int32), .int 0, .int 0, .int 0])), (w5_q1, .inl (w5_c1, 1713, .inl (fun _ => 0))), (w5_q2, .inl (w5_c2, 1713, .inl (fun _ => 0))), (w5_q3, .inl (w5_c3, 1713, .inl (upd (fun _ => 0) 0 (-1 : Int32)))), (w5_q4, .inl (w5_c4, 1713, .inl (fun _ => 0))), (w5_q5, .inl (w5_c5, 1713, .inl (fun _ => 0))), (w5_q6, .inl (w5_c6, 3434, .inl (fun _ => 0))), (w7_q1, .inl (w7_c1, 16, .inl (fun _ => 0))), (w7_q2, .inl (w7_c2, 16, .inr (.inl (fun _ => 0)))), (w7_q3, .inl (w7_c3, 16, .inl (fun _ => 0))), (w7_q4, .inl (w7_c4, 16, .inl (fun _ => 0))), (w7_q5, .inl (w7_c5, 48, .inr (.inl (fun _ => 0)))), (w7_q6, .inl (w7_c6, 16, .inl (fun _ => 0))), (w7_q7, .inl (w7_c7, 16, .inl (fun _ => 0))), (w7_q8, .inl (w7_c8, 16, .inl (fun _ => 0))), (w7_q9, .inl (w7_c9, 16, .inl (fun _ => 0))), (w7_q10, .inl (w7_c10, 16, .inl (fun _ => 0))), (w7_q11, .inl (w7_c11, 16, .inl (fun _ => 0))), (w7_q12, .inl (w7_c12, 16, .inl (fun _ => 0))), (w7_q13, .inl (w7_c13, 48, .inl (fun _ => 0))), (w7_q14, .inl (w7_c14, 16, .inl (fun _ => 0))), (w7_q15, .inr (10, [.ref w7_w15_q1, .ref w7_w15_q2, .ref w7_w15_q3, .ref w7_w15_q4, .int 0, .ref w7_w15_q5, .ref w7_w15_q6, .int 0])), (w7_w15_q1, .inl (w7_w15_c1, 200, .inl (fun _ => 0))), (w7_w15_q2, .inl (w7_w15_c2, 200, .inr (.inl (fun _ => 0)))), (w7_w15_q3, .inl (w7_w15_c3, 200, .inl (fun _ => 0))), (w7_w15_q4, .inl (w7_w15_c4, 200, .inl (fun _ => 0))), (w7_w15_q5, .inl (w7_w15_c5, 201, .inl (fun _ => 0))), (w7_w15_q6, .inl (w7_w15_c6, 201, .inl (fun _ => 0))), (q9, .inr (5, [.ref w9_q1, .ref w9_q2, .ref w9_q3, .ref w9_q4, .ref w9_q5, .int 0])), (w9_q1, .inl (w9_c1, 600, .inl (fun _ => 0))), (w9_q2, .inl (w9_c2, 600, .inr (.inl (fun _ => 0)))), (w9_q3, .inl (w9_c3, 600, .inl (fun _ => 0))), (w9_q4, .inl (w9_c4, 600, .inl (fun _ => 0))), (w9_q5, .inl (w9_c5, 600, .inl (fun _ => 0))), (q11, .inr (10, [.ref w11_q1, .ref w11_q2, .ref w11_q3, .ref w11_q4, .int 0, .ref w11_q5, .ref w11_q6, .int 0])), (w11_q1, .inl (w11_c1, 200, .inl (fun _ => 0))), (w11_q2, .inl (w11_c2, 200, .inr (.inl (fun _ => 0)))), (w11_q3, .inl (w11_c3, 200, .inl (fun _ => 0))), (w11_q4, .inl (w11_c4, 200, .inl (fun _ => 0))), (w11_q5, .inl (w11_c5, 201, .inl (fun _ => 0))), (w11_q6, .inl (w11_c6, 201, .inl (fun _ => 0))), (q13, .inr (6, [.ref q1, .ref q7, .ref q9, .ref q5, .ref q3, .ref w7_q15, .int 0])), (q7, .inr (4, [.int 0, .ref w7_q1, .ref w7_q2, .ref w7_q3, .ref w7_q4, .ref w7_q5, .ref w7_q6, .ref w7_q7, .ref w7_q8, .ref w7_q9, .ref w7_q10, .ref w7_q11, .int 0, .ref w7_q12, .ref w7_q13, .ref w7_q14, .ref w7_q15])), (q15, .inr (7, [.ref q7, .ref q9, .ref q3, .ref w15_q1])), (w15_q1, .inl (w15_c1, 16, .inl (fun _ => 0)))]) (tys' := [(w1_c1, .int), (w1_c2, .int), (w1_c3, .long), (w1_c4, .int), (w3_w1_c1, .byte), (w3_w3_c1, .byte), (w5_c1, .int), (w5_c2, .int), (w5_c3, .int), (w5_c4, .int), (w5_c5, .int), (w5_c6, .int), (w7_c1, .int), (w7_c2, .long), (w7_c3, .int), (w7_c4, .int), (w7_c5, .long), (w7_c6, .int), (w7_c7, .int), (w7_c8, .int), (w7_c9, .int), (w7_c10, .int), (w7_c11, .int), (w7_c12, .int), (w7_c13, .int), (w7_c14, .int), (w7_w15_c1, .int), (w7_w15_c2, .long), (w7_w15_c3, .int), (w7_w15_c4, .int), (w7_w15_c5, .int), (w7_w15_c6, .int), (w9_c1, .int), (w9_c2, .long), (w9_c3, .int), (w9_c4, .int), (w9_c5, .int), (w11_c1, .int), (w11_c2, .long), (w11_c3, .int), (w11_c4, .int), (w11_c5, .int), (w11_c6, .int), (w15_c1, .int)]) rfl rfl ?_
  refine y_putF (pc := 121) (q0 := 0) (v := .ref q15) (ty := .object "KindRounds$Checker") (ws' := [(h, .inr (0, [.ref q1, .ref q3, .ref q5, .ref q7, .ref q9, .ref q11, .ref q13, .ref q15, .null, .null, .null, .null])), (q1, .inr (1, [.ref w1_q1, .int 0, .ref w1_q2, .ref w1_q3, .ref w1_q4, .int 0, .int 0])), (w1_q1, .inl (w1_c1, 1200, .inl (fun _ => 0))), (w1_q2, .inl (w1_c2, 1201, .inl (fun _ => 0))), (w1_q3, .inl (w1_c3, 1201, .inr (.inl (fun _ => 0)))), (w1_q4, .inl (w1_c4, 1201, .inl (fun _ => 0))), (q3, .inr (2, [.int 0, .int 0, .ref w3_q1, .ref w3_q3])), (w3_q1, .inr (11, [.ref w3_w1_q1, .int 0])), (w3_w1_q1, .inl (w3_w1_c1, 2400, .inl (fun _ => 0))), (w3_q3, .inr (11, [.ref w3_w3_q1, .int 0])), (w3_w3_q1, .inl (w3_w3_c1, 2400, .inl (fun _ => 0))), (q5, .inr (3, [.ref w5_q1, .ref w5_q2, .ref w5_q3, .ref w5_q4, .ref w5_q5, .ref w5_q6, .int (1 : Int32), .int (1 : Int32), .int 0, .int 0, .int 0])), (w5_q1, .inl (w5_c1, 1713, .inl (fun _ => 0))), (w5_q2, .inl (w5_c2, 1713, .inl (fun _ => 0))), (w5_q3, .inl (w5_c3, 1713, .inl (upd (fun _ => 0) 0 (-1 : Int32)))), (w5_q4, .inl (w5_c4, 1713, .inl (fun _ => 0))), (w5_q5, .inl (w5_c5, 1713, .inl (fun _ => 0))), (w5_q6, .inl (w5_c6, 3434, .inl (fun _ => 0))), (w7_q1, .inl (w7_c1, 16, .inl (fun _ => 0))), (w7_q2, .inl (w7_c2, 16, .inr (.inl (fun _ => 0)))), (w7_q3, .inl (w7_c3, 16, .inl (fun _ => 0))), (w7_q4, .inl (w7_c4, 16, .inl (fun _ => 0))), (w7_q5, .inl (w7_c5, 48, .inr (.inl (fun _ => 0)))), (w7_q6, .inl (w7_c6, 16, .inl (fun _ => 0))), (w7_q7, .inl (w7_c7, 16, .inl (fun _ => 0))), (w7_q8, .inl (w7_c8, 16, .inl (fun _ => 0))), (w7_q9, .inl (w7_c9, 16, .inl (fun _ => 0))), (w7_q10, .inl (w7_c10, 16, .inl (fun _ => 0))), (w7_q11, .inl (w7_c11, 16, .inl (fun _ => 0))), (w7_q12, .inl (w7_c12, 16, .inl (fun _ => 0))), (w7_q13, .inl (w7_c13, 48, .inl (fun _ => 0))), (w7_q14, .inl (w7_c14, 16, .inl (fun _ => 0))), (w7_q15, .inr (10, [.ref w7_w15_q1, .ref w7_w15_q2, .ref w7_w15_q3, .ref w7_w15_q4, .int 0, .ref w7_w15_q5, .ref w7_w15_q6, .int 0])), (w7_w15_q1, .inl (w7_w15_c1, 200, .inl (fun _ => 0))), (w7_w15_q2, .inl (w7_w15_c2, 200, .inr (.inl (fun _ => 0)))), (w7_w15_q3, .inl (w7_w15_c3, 200, .inl (fun _ => 0))), (w7_w15_q4, .inl (w7_w15_c4, 200, .inl (fun _ => 0))), (w7_w15_q5, .inl (w7_w15_c5, 201, .inl (fun _ => 0))), (w7_w15_q6, .inl (w7_w15_c6, 201, .inl (fun _ => 0))), (q9, .inr (5, [.ref w9_q1, .ref w9_q2, .ref w9_q3, .ref w9_q4, .ref w9_q5, .int 0])), (w9_q1, .inl (w9_c1, 600, .inl (fun _ => 0))), (w9_q2, .inl (w9_c2, 600, .inr (.inl (fun _ => 0)))), (w9_q3, .inl (w9_c3, 600, .inl (fun _ => 0))), (w9_q4, .inl (w9_c4, 600, .inl (fun _ => 0))), (w9_q5, .inl (w9_c5, 600, .inl (fun _ => 0))), (q11, .inr (10, [.ref w11_q1, .ref w11_q2, .ref w11_q3, .ref w11_q4, .int 0, .ref w11_q5, .ref w11_q6, .int 0])), (w11_q1, .inl (w11_c1, 200, .inl (fun _ => 0))), (w11_q2, .inl (w11_c2, 200, .inr (.inl (fun _ => 0)))), (w11_q3, .inl (w11_c3, 200, .inl (fun _ => 0))), (w11_q4, .inl (w11_c4, 200, .inl (fun _ => 0))), (w11_q5, .inl (w11_c5, 201, .inl (fun _ => 0))), (w11_q6, .inl (w11_c6, 201, .inl (fun _ => 0))), (q13, .inr (6, [.ref q1, .ref q7, .ref q9, .ref q5, .ref q3, .ref w7_q15, .int 0])), (q7, .inr (4, [.int 0, .ref w7_q1, .ref w7_q2, .ref w7_q3, .ref w7_q4, .ref w7_q5, .ref w7_q6, .ref w7_q7, .ref w7_q8, .ref w7_q9, .ref w7_q10, .ref w7_q11, .int 0, .ref w7_q12, .ref w7_q13, .ref w7_q14, .ref w7_q15])), (q15, .inr (7, [.ref q7, .ref q9, .ref q3, .ref w15_q1])), (w15_q1, .inl (w15_c1, 16, .inl (fun _ => 0)))]) C hin 7 mCI_157 i_Q t_Q t_Q_ok n_Q rfl rfl (Nat.le_of_ble_eq_true rfl) rfl rfl rfl rfl rfl rfl (Nat.le_of_ble_eq_true rfl) rfl d_Q_init_121 ?_
  refine y_aload_n (pc := 124) C d_Q_init_124 rfl 0 rfl ?_
  refine y_new (pc := 125) (ci := 8) (fs := [.null, .null, .null, .null, .null, .null, .null, .int 0, .null, .null, .null, .int 0, .null, .null, .int 0, .int 0]) C i_So t_So t_So_ok mCI_158 mCI_159 mCI_106 rfl df_So (Nat.le_of_ble_eq_true rfl) (Nat.le_of_ble_eq_true rfl) d_Q_init_125 (fun q17 => ?_)
  refine y_ws (ws' := [(h, .inr (0, [.ref q1, .ref q3, .ref q5, .ref q7, .ref q9, .ref q11, .ref q13, .ref q15, .null, .null, .null, .null])), (q1, .inr (1, [.ref w1_q1, .int 0, .ref w1_q2, .ref w1_q3, .ref w1_q4, .int 0, .int 0])), (w1_q1, .inl (w1_c1, 1200, .inl (fun _ => 0))), (w1_q2, .inl (w1_c2, 1201, .inl (fun _ => 0))), (w1_q3, .inl (w1_c3, 1201, .inr (.inl (fun _ => 0)))), (w1_q4, .inl (w1_c4, 1201, .inl (fun _ => 0))), (q3, .inr (2, [.int 0, .int 0, .ref w3_q1, .ref w3_q3])), (w3_q1, .inr (11, [.ref w3_w1_q1, .int 0])), (w3_w1_q1, .inl (w3_w1_c1, 2400, .inl (fun _ => 0))), (w3_q3, .inr (11, [.ref w3_w3_q1, .int 0])), (w3_w3_q1, .inl (w3_w3_c1, 2400, .inl (fun _ => 0))), (q5, .inr (3, [.ref w5_q1, .ref w5_q2, .ref w5_q3, .ref w5_q4, .ref w5_q5, .ref w5_q6, .int (1 : Int32), .int (1 : Int32), .int 0, .int 0, .int 0])), (w5_q1, .inl (w5_c1, 1713, .inl (fun _ => 0))), (w5_q2, .inl (w5_c2, 1713, .inl (fun _ => 0))), (w5_q3, .inl (w5_c3, 1713, .inl (upd (fun _ => 0) 0 (-1 : Int32)))), (w5_q4, .inl (w5_c4, 1713, .inl (fun _ => 0))), (w5_q5, .inl (w5_c5, 1713, .inl (fun _ => 0))), (w5_q6, .inl (w5_c6, 3434, .inl (fun _ => 0))), (w7_q1, .inl (w7_c1, 16, .inl (fun _ => 0))), (w7_q2, .inl (w7_c2, 16, .inr (.inl (fun _ => 0)))), (w7_q3, .inl (w7_c3, 16, .inl (fun _ => 0))), (w7_q4, .inl (w7_c4, 16, .inl (fun _ => 0))), (w7_q5, .inl (w7_c5, 48, .inr (.inl (fun _ => 0)))), (w7_q6, .inl (w7_c6, 16, .inl (fun _ => 0))), (w7_q7, .inl (w7_c7, 16, .inl (fun _ => 0))), (w7_q8, .inl (w7_c8, 16, .inl (fun _ => 0))), (w7_q9, .inl (w7_c9, 16, .inl (fun _ => 0))), (w7_q10, .inl (w7_c10, 16, .inl (fun _ => 0))), (w7_q11, .inl (w7_c11, 16, .inl (fun _ => 0))), (w7_q12, .inl (w7_c12, 16, .inl (fun _ => 0))), (w7_q13, .inl (w7_c13, 48, .inl (fun _ => 0))), (w7_q14, .inl (w7_c14, 16, .inl (fun _ => 0))), (w7_q15, .inr (10, [.ref w7_w15_q1, .ref w7_w15_q2, .ref w7_w15_q3, .ref w7_w15_q4, .int 0, .ref w7_w15_q5, .ref w7_w15_q6, .int 0])), (w7_w15_q1, .inl (w7_w15_c1, 200, .inl (fun _ => 0))), (w7_w15_q2, .inl (w7_w15_c2, 200, .inr (.inl (fun _ => 0)))), (w7_w15_q3, .inl (w7_w15_c3, 200, .inl (fun _ => 0))), (w7_w15_q4, .inl (w7_w15_c4, 200, .inl (fun _ => 0))), (w7_w15_q5, .inl (w7_w15_c5, 201, .inl (fun _ => 0))), (w7_w15_q6, .inl (w7_w15_c6, 201, .inl (fun _ => 0))), (q9, .inr (5, [.ref w9_q1, .ref w9_q2, .ref w9_q3, .ref w9_q4, .ref w9_q5, .int 0])), (w9_q1, .inl (w9_c1, 600, .inl (fun _ => 0))), (w9_q2, .inl (w9_c2, 600, .inr (.inl (fun _ => 0)))), (w9_q3, .inl (w9_c3, 600, .inl (fun _ => 0))), (w9_q4, .inl (w9_c4, 600, .inl (fun _ => 0))), (w9_q5, .inl (w9_c5, 600, .inl (fun _ => 0))), (q11, .inr (10, [.ref w11_q1, .ref w11_q2, .ref w11_q3, .ref w11_q4, .int 0, .ref w11_q5, .ref w11_q6, .int 0])), (w11_q1, .inl (w11_c1, 200, .inl (fun _ => 0))), (w11_q2, .inl (w11_c2, 200, .inr (.inl (fun _ => 0)))), (w11_q3, .inl (w11_c3, 200, .inl (fun _ => 0))), (w11_q4, .inl (w11_c4, 200, .inl (fun _ => 0))), (w11_q5, .inl (w11_c5, 201, .inl (fun _ => 0))), (w11_q6, .inl (w11_c6, 201, .inl (fun _ => 0))), (q13, .inr (6, [.ref q1, .ref q7, .ref q9, .ref q5, .ref q3, .ref w7_q15, .int 0])), (q7, .inr (4, [.int 0, .ref w7_q1, .ref w7_q2, .ref w7_q3, .ref w7_q4, .ref w7_q5, .ref w7_q6, .ref w7_q7, .ref w7_q8, .ref w7_q9, .ref w7_q10, .ref w7_q11, .int 0, .ref w7_q12, .ref w7_q13, .ref w7_q14, .ref w7_q15])), (q15, .inr (7, [.ref q7, .ref q9, .ref q3, .ref w15_q1])), (w15_q1, .inl (w15_c1, 16, .inl (fun _ => 0))), (q17, .inr (8, [.null, .null, .null, .null, .null, .null, .null, .int 0, .null, .null, .null, .int 0, .null, .null, .int 0, .int 0]))]) (tys' := [(w1_c1, .int), (w1_c2, .int), (w1_c3, .long), (w1_c4, .int), (w3_w1_c1, .byte), (w3_w3_c1, .byte), (w5_c1, .int), (w5_c2, .int), (w5_c3, .int), (w5_c4, .int), (w5_c5, .int), (w5_c6, .int), (w7_c1, .int), (w7_c2, .long), (w7_c3, .int), (w7_c4, .int), (w7_c5, .long), (w7_c6, .int), (w7_c7, .int), (w7_c8, .int), (w7_c9, .int), (w7_c10, .int), (w7_c11, .int), (w7_c12, .int), (w7_c13, .int), (w7_c14, .int), (w7_w15_c1, .int), (w7_w15_c2, .long), (w7_w15_c3, .int), (w7_w15_c4, .int), (w7_w15_c5, .int), (w7_w15_c6, .int), (w9_c1, .int), (w9_c2, .long), (w9_c3, .int), (w9_c4, .int), (w9_c5, .int), (w11_c1, .int), (w11_c2, .long), (w11_c3, .int), (w11_c4, .int), (w11_c5, .int), (w11_c6, .int), (w15_c1, .int)]) rfl rfl ?_
  refine y_dup (pc := 128) C d_Q_init_128 rfl ?_
  refine y_aload_n (pc := 129) C d_Q_init_129 rfl 0 rfl ?_
  refine y_get (pc := 130) (q0 := 0) (v := .ref q7) C 3 mCI_139 i_Q rfl rfl (Nat.le_of_ble_eq_true rfl) rfl rfl d_Q_init_130 ?_
  refine y_aload_n (pc := 133) C d_Q_init_133 rfl 0 rfl ?_
  refine y_get (pc := 134) (q0 := 0) (v := .ref q9) C 4 mCI_144 i_Q rfl rfl (Nat.le_of_ble_eq_true rfl) rfl rfl d_Q_init_134 ?_
  refine y_aload_n (pc := 137) C d_Q_init_137 rfl 0 rfl ?_
  refine y_get (pc := 138) (q0 := 0) (v := .ref q5) C 2 mCI_134 i_Q rfl rfl (Nat.le_of_ble_eq_true rfl) rfl rfl d_Q_init_138 ?_
  refine y_aload_n (pc := 141) C d_Q_init_141 rfl 0 rfl ?_
  refine y_get (pc := 142) (q0 := 0) (v := .ref q3) C 1 mCI_129 i_Q rfl rfl (Nat.le_of_ble_eq_true rfl) rfl rfl d_Q_init_142 ?_
  refine y_ctor (pc := 145) (wc := [(q17, .inr (8, [.null, .null, .null, .null, .null, .null, .null, .int 0, .null, .null, .null, .int 0, .null, .null, .int 0, .int 0]))]) (wr := [(h, .inr (0, [.ref q1, .ref q3, .ref q5, .ref q7, .ref q9, .ref q11, .ref q13, .ref q15, .null, .null, .null, .null])), (q1, .inr (1, [.ref w1_q1, .int 0, .ref w1_q2, .ref w1_q3, .ref w1_q4, .int 0, .int 0])), (w1_q1, .inl (w1_c1, 1200, .inl (fun _ => 0))), (w1_q2, .inl (w1_c2, 1201, .inl (fun _ => 0))), (w1_q3, .inl (w1_c3, 1201, .inr (.inl (fun _ => 0)))), (w1_q4, .inl (w1_c4, 1201, .inl (fun _ => 0))), (q3, .inr (2, [.int 0, .int 0, .ref w3_q1, .ref w3_q3])), (w3_q1, .inr (11, [.ref w3_w1_q1, .int 0])), (w3_w1_q1, .inl (w3_w1_c1, 2400, .inl (fun _ => 0))), (w3_q3, .inr (11, [.ref w3_w3_q1, .int 0])), (w3_w3_q1, .inl (w3_w3_c1, 2400, .inl (fun _ => 0))), (q5, .inr (3, [.ref w5_q1, .ref w5_q2, .ref w5_q3, .ref w5_q4, .ref w5_q5, .ref w5_q6, .int (1 : Int32), .int (1 : Int32), .int 0, .int 0, .int 0])), (w5_q1, .inl (w5_c1, 1713, .inl (fun _ => 0))), (w5_q2, .inl (w5_c2, 1713, .inl (fun _ => 0))), (w5_q3, .inl (w5_c3, 1713, .inl (upd (fun _ => 0) 0 (-1 : Int32)))), (w5_q4, .inl (w5_c4, 1713, .inl (fun _ => 0))), (w5_q5, .inl (w5_c5, 1713, .inl (fun _ => 0))), (w5_q6, .inl (w5_c6, 3434, .inl (fun _ => 0))), (w7_q1, .inl (w7_c1, 16, .inl (fun _ => 0))), (w7_q2, .inl (w7_c2, 16, .inr (.inl (fun _ => 0)))), (w7_q3, .inl (w7_c3, 16, .inl (fun _ => 0))), (w7_q4, .inl (w7_c4, 16, .inl (fun _ => 0))), (w7_q5, .inl (w7_c5, 48, .inr (.inl (fun _ => 0)))), (w7_q6, .inl (w7_c6, 16, .inl (fun _ => 0))), (w7_q7, .inl (w7_c7, 16, .inl (fun _ => 0))), (w7_q8, .inl (w7_c8, 16, .inl (fun _ => 0))), (w7_q9, .inl (w7_c9, 16, .inl (fun _ => 0))), (w7_q10, .inl (w7_c10, 16, .inl (fun _ => 0))), (w7_q11, .inl (w7_c11, 16, .inl (fun _ => 0))), (w7_q12, .inl (w7_c12, 16, .inl (fun _ => 0))), (w7_q13, .inl (w7_c13, 48, .inl (fun _ => 0))), (w7_q14, .inl (w7_c14, 16, .inl (fun _ => 0))), (w7_q15, .inr (10, [.ref w7_w15_q1, .ref w7_w15_q2, .ref w7_w15_q3, .ref w7_w15_q4, .int 0, .ref w7_w15_q5, .ref w7_w15_q6, .int 0])), (w7_w15_q1, .inl (w7_w15_c1, 200, .inl (fun _ => 0))), (w7_w15_q2, .inl (w7_w15_c2, 200, .inr (.inl (fun _ => 0)))), (w7_w15_q3, .inl (w7_w15_c3, 200, .inl (fun _ => 0))), (w7_w15_q4, .inl (w7_w15_c4, 200, .inl (fun _ => 0))), (w7_w15_q5, .inl (w7_w15_c5, 201, .inl (fun _ => 0))), (w7_w15_q6, .inl (w7_w15_c6, 201, .inl (fun _ => 0))), (q9, .inr (5, [.ref w9_q1, .ref w9_q2, .ref w9_q3, .ref w9_q4, .ref w9_q5, .int 0])), (w9_q1, .inl (w9_c1, 600, .inl (fun _ => 0))), (w9_q2, .inl (w9_c2, 600, .inr (.inl (fun _ => 0)))), (w9_q3, .inl (w9_c3, 600, .inl (fun _ => 0))), (w9_q4, .inl (w9_c4, 600, .inl (fun _ => 0))), (w9_q5, .inl (w9_c5, 600, .inl (fun _ => 0))), (q11, .inr (10, [.ref w11_q1, .ref w11_q2, .ref w11_q3, .ref w11_q4, .int 0, .ref w11_q5, .ref w11_q6, .int 0])), (w11_q1, .inl (w11_c1, 200, .inl (fun _ => 0))), (w11_q2, .inl (w11_c2, 200, .inr (.inl (fun _ => 0)))), (w11_q3, .inl (w11_c3, 200, .inl (fun _ => 0))), (w11_q4, .inl (w11_c4, 200, .inl (fun _ => 0))), (w11_q5, .inl (w11_c5, 201, .inl (fun _ => 0))), (w11_q6, .inl (w11_c6, 201, .inl (fun _ => 0))), (q13, .inr (6, [.ref q1, .ref q7, .ref q9, .ref q5, .ref q3, .ref w7_q15, .int 0])), (q7, .inr (4, [.int 0, .ref w7_q1, .ref w7_q2, .ref w7_q3, .ref w7_q4, .ref w7_q5, .ref w7_q6, .ref w7_q7, .ref w7_q8, .ref w7_q9, .ref w7_q10, .ref w7_q11, .int 0, .ref w7_q12, .ref w7_q13, .ref w7_q14, .ref w7_q15])), (q15, .inr (7, [.ref q7, .ref q9, .ref q3, .ref w15_q1])), (w15_q1, .inl (w15_c1, 16, .inl (fun _ => 0)))]) C (i_So_init (h := q17) (x1 := q7) (x2 := q9) (x3 := q5) (x4 := q3)) km_So_init mCI_161 rfl mCI_160 [56] [0, 1, 2, 3, 4, 5, 6, 7, 8, 9, 10, 11, 12, 13, 14, 15, 16, 17, 18, 19, 20, 21, 22, 23, 24, 25, 26, 27, 28, 29, 30, 31, 32, 33, 34, 35, 36, 37, 38, 39, 40, 41, 42, 43, 44, 45, 46, 47, 48, 49, 50, 51, 52, 53, 54, 55] rfl rfl rfl rfl rfl (by decide) rfl (rmN_of (Nat.le_of_ble_eq_true rfl) (Nat.le_of_ble_eq_true rfl)) ⟨Nat.le_of_ble_eq_true rfl, Nat.le_of_ble_eq_true rfl⟩ rfl (Nat.le_of_ble_eq_true rfl) d_Q_init_145 (fun w t hwt => ?_)
  obtain ⟨w17_q1, w17_c1, w17_q2, w17_c2, w17_q3, w17_c3, w17_q4, w17_c4, w17_q5, w17_c5, w17_q6, w17_c6, w17_q7, w17_c7, w17_q8, w17_c8, rfl, rfl⟩ := hwt
  refine y_ws (ws' := [(h, .inr (0, [.ref q1, .ref q3, .ref q5, .ref q7, .ref q9, .ref q11, .ref q13, .ref q15, .null, .null, .null, .null])), (q1, .inr (1, [.ref w1_q1, .int 0, .ref w1_q2, .ref w1_q3, .ref w1_q4, .int 0, .int 0])), (w1_q1, .inl (w1_c1, 1200, .inl (fun _ => 0))), (w1_q2, .inl (w1_c2, 1201, .inl (fun _ => 0))), (w1_q3, .inl (w1_c3, 1201, .inr (.inl (fun _ => 0)))), (w1_q4, .inl (w1_c4, 1201, .inl (fun _ => 0))), (q3, .inr (2, [.int 0, .int 0, .ref w3_q1, .ref w3_q3])), (w3_q1, .inr (11, [.ref w3_w1_q1, .int 0])), (w3_w1_q1, .inl (w3_w1_c1, 2400, .inl (fun _ => 0))), (w3_q3, .inr (11, [.ref w3_w3_q1, .int 0])), (w3_w3_q1, .inl (w3_w3_c1, 2400, .inl (fun _ => 0))), (q5, .inr (3, [.ref w5_q1, .ref w5_q2, .ref w5_q3, .ref w5_q4, .ref w5_q5, .ref w5_q6, .int (1 : Int32), .int (1 : Int32), .int 0, .int 0, .int 0])), (w5_q1, .inl (w5_c1, 1713, .inl (fun _ => 0))), (w5_q2, .inl (w5_c2, 1713, .inl (fun _ => 0))), (w5_q3, .inl (w5_c3, 1713, .inl (upd (fun _ => 0) 0 (-1 : Int32)))), (w5_q4, .inl (w5_c4, 1713, .inl (fun _ => 0))), (w5_q5, .inl (w5_c5, 1713, .inl (fun _ => 0))), (w5_q6, .inl (w5_c6, 3434, .inl (fun _ => 0))), (w7_q1, .inl (w7_c1, 16, .inl (fun _ => 0))), (w7_q2, .inl (w7_c2, 16, .inr (.inl (fun _ => 0)))), (w7_q3, .inl (w7_c3, 16, .inl (fun _ => 0))), (w7_q4, .inl (w7_c4, 16, .inl (fun _ => 0))), (w7_q5, .inl (w7_c5, 48, .inr (.inl (fun _ => 0)))), (w7_q6, .inl (w7_c6, 16, .inl (fun _ => 0))), (w7_q7, .inl (w7_c7, 16, .inl (fun _ => 0))), (w7_q8, .inl (w7_c8, 16, .inl (fun _ => 0))), (w7_q9, .inl (w7_c9, 16, .inl (fun _ => 0))), (w7_q10, .inl (w7_c10, 16, .inl (fun _ => 0))), (w7_q11, .inl (w7_c11, 16, .inl (fun _ => 0))), (w7_q12, .inl (w7_c12, 16, .inl (fun _ => 0))), (w7_q13, .inl (w7_c13, 48, .inl (fun _ => 0))), (w7_q14, .inl (w7_c14, 16, .inl (fun _ => 0))), (w7_q15, .inr (10, [.ref w7_w15_q1, .ref w7_w15_q2, .ref w7_w15_q3, .ref w7_w15_q4, .int 0, .ref w7_w15_q5, .ref w7_w15_q6, .int 0])), (w7_w15_q1, .inl (w7_w15_c1, 200, .inl (fun _ => 0))), (w7_w15_q2, .inl (w7_w15_c2, 200, .inr (.inl (fun _ => 0)))), (w7_w15_q3, .inl (w7_w15_c3, 200, .inl (fun _ => 0))), (w7_w15_q4, .inl (w7_w15_c4, 200, .inl (fun _ => 0))), (w7_w15_q5, .inl (w7_w15_c5, 201, .inl (fun _ => 0))), (w7_w15_q6, .inl (w7_w15_c6, 201, .inl (fun _ => 0))), (q9, .inr (5, [.ref w9_q1, .ref w9_q2, .ref w9_q3, .ref w9_q4, .ref w9_q5, .int 0])), (w9_q1, .inl (w9_c1, 600, .inl (fun _ => 0))), (w9_q2, .inl (w9_c2, 600, .inr (.inl (fun _ => 0)))), (w9_q3, .inl (w9_c3, 600, .inl (fun _ => 0))), (w9_q4, .inl (w9_c4, 600, .inl (fun _ => 0))), (w9_q5, .inl (w9_c5, 600, .inl (fun _ => 0))), (q11, .inr (10, [.ref w11_q1, .ref w11_q2, .ref w11_q3, .ref w11_q4, .int 0, .ref w11_q5, .ref w11_q6, .int 0])), (w11_q1, .inl (w11_c1, 200, .inl (fun _ => 0))), (w11_q2, .inl (w11_c2, 200, .inr (.inl (fun _ => 0)))), (w11_q3, .inl (w11_c3, 200, .inl (fun _ => 0))), (w11_q4, .inl (w11_c4, 200, .inl (fun _ => 0))), (w11_q5, .inl (w11_c5, 201, .inl (fun _ => 0))), (w11_q6, .inl (w11_c6, 201, .inl (fun _ => 0))), (q13, .inr (6, [.ref q1, .ref q7, .ref q9, .ref q5, .ref q3, .ref w7_q15, .int 0])), (q7, .inr (4, [.int 0, .ref w7_q1, .ref w7_q2, .ref w7_q3, .ref w7_q4, .ref w7_q5, .ref w7_q6, .ref w7_q7, .ref w7_q8, .ref w7_q9, .ref w7_q10, .ref w7_q11, .int 0, .ref w7_q12, .ref w7_q13, .ref w7_q14, .ref w7_q15])), (q15, .inr (7, [.ref q7, .ref q9, .ref q3, .ref w15_q1])), (w15_q1, .inl (w15_c1, 16, .inl (fun _ => 0))), (q17, .inr (8, [.ref q7, .ref q9, .ref q5, .ref q3, .ref w17_q1, .ref w17_q2, .ref w17_q3, .int 0, .ref w17_q4, .ref w17_q5, .ref w17_q6, .int 0, .ref w17_q7, .ref w17_q8, .int 0, .int 0])), (w17_q1, .inl (w17_c1, 216, .inl (fun _ => 0))), (w17_q2, .inl (w17_c2, 216, .inl (fun _ => 0))), (w17_q3, .inl (w17_c3, 216, .inl (fun _ => 0))), (w17_q4, .inl (w17_c4, 200, .inl (fun _ => 0))), (w17_q5, .inl (w17_c5, 200, .inl (fun _ => 0))), (w17_q6, .inl (w17_c6, 200, .inl (fun _ => 0))), (w17_q7, .inl (w17_c7, 200, .inr (.inl (fun _ => 0)))), (w17_q8, .inl (w17_c8, 200, .inl (fun _ => 0)))]) (tys' := [(w1_c1, .int), (w1_c2, .int), (w1_c3, .long), (w1_c4, .int), (w3_w1_c1, .byte), (w3_w3_c1, .byte), (w5_c1, .int), (w5_c2, .int), (w5_c3, .int), (w5_c4, .int), (w5_c5, .int), (w5_c6, .int), (w7_c1, .int), (w7_c2, .long), (w7_c3, .int), (w7_c4, .int), (w7_c5, .long), (w7_c6, .int), (w7_c7, .int), (w7_c8, .int), (w7_c9, .int), (w7_c10, .int), (w7_c11, .int), (w7_c12, .int), (w7_c13, .int), (w7_c14, .int), (w7_w15_c1, .int), (w7_w15_c2, .long), (w7_w15_c3, .int), (w7_w15_c4, .int), (w7_w15_c5, .int), (w7_w15_c6, .int), (w9_c1, .int), (w9_c2, .long), (w9_c3, .int), (w9_c4, .int), (w9_c5, .int), (w11_c1, .int), (w11_c2, .long), (w11_c3, .int), (w11_c4, .int), (w11_c5, .int), (w11_c6, .int), (w15_c1, .int), (w17_c1, .int), (w17_c2, .int), (w17_c3, .int), (w17_c4, .int), (w17_c5, .int), (w17_c6, .int), (w17_c7, .long), (w17_c8, .int)]) rfl rfl ?_
  refine y_putF (pc := 148) (q0 := 0) (v := .ref q17) (ty := .object "KindRounds$Solver") (ws' := [(h, .inr (0, [.ref q1, .ref q3, .ref q5, .ref q7, .ref q9, .ref q11, .ref q13, .ref q15, .ref q17, .null, .null, .null])), (q1, .inr (1, [.ref w1_q1, .int 0, .ref w1_q2, .ref w1_q3, .ref w1_q4, .int 0, .int 0])), (w1_q1, .inl (w1_c1, 1200, .inl (fun _ => 0))), (w1_q2, .inl (w1_c2, 1201, .inl (fun _ => 0))), (w1_q3, .inl (w1_c3, 1201, .inr (.inl (fun _ => 0)))), (w1_q4, .inl (w1_c4, 1201, .inl (fun _ => 0))), (q3, .inr (2, [.int 0, .int 0, .ref w3_q1, .ref w3_q3])), (w3_q1, .inr (11, [.ref w3_w1_q1, .int 0])), (w3_w1_q1, .inl (w3_w1_c1, 2400, .inl (fun _ => 0))), (w3_q3, .inr (11, [.ref w3_w3_q1, .int 0])), (w3_w3_q1, .inl (w3_w3_c1, 2400, .inl (fun _ => 0))), (q5, .inr (3, [.ref w5_q1, .ref w5_q2, .ref w5_q3, .ref w5_q4, .ref w5_q5, .ref w5_q6, .int (1 : Int32), .int (1 : Int32), .int 0, .int 0, .int 0])), (w5_q1, .inl (w5_c1, 1713, .inl (fun _ => 0))), (w5_q2, .inl (w5_c2, 1713, .inl (fun _ => 0))), (w5_q3, .inl (w5_c3, 1713, .inl (upd (fun _ => 0) 0 (-1 : Int32)))), (w5_q4, .inl (w5_c4, 1713, .inl (fun _ => 0))), (w5_q5, .inl (w5_c5, 1713, .inl (fun _ => 0))), (w5_q6, .inl (w5_c6, 3434, .inl (fun _ => 0))), (w7_q1, .inl (w7_c1, 16, .inl (fun _ => 0))), (w7_q2, .inl (w7_c2, 16, .inr (.inl (fun _ => 0)))), (w7_q3, .inl (w7_c3, 16, .inl (fun _ => 0))), (w7_q4, .inl (w7_c4, 16, .inl (fun _ => 0))), (w7_q5, .inl (w7_c5, 48, .inr (.inl (fun _ => 0)))), (w7_q6, .inl (w7_c6, 16, .inl (fun _ => 0))), (w7_q7, .inl (w7_c7, 16, .inl (fun _ => 0))), (w7_q8, .inl (w7_c8, 16, .inl (fun _ => 0))), (w7_q9, .inl (w7_c9, 16, .inl (fun _ => 0))), (w7_q10, .inl (w7_c10, 16, .inl (fun _ => 0))), (w7_q11, .inl (w7_c11, 16, .inl (fun _ => 0))), (w7_q12, .inl (w7_c12, 16, .inl (fun _ => 0))), (w7_q13, .inl (w7_c13, 48, .inl (fun _ => 0))), (w7_q14, .inl (w7_c14, 16, .inl (fun _ => 0))), (w7_q15, .inr (10, [.ref w7_w15_q1, .ref w7_w15_q2, .ref w7_w15_q3, .ref w7_w15_q4, .int 0, .ref w7_w15_q5, .ref w7_w15_q6, .int 0])), (w7_w15_q1, .inl (w7_w15_c1, 200, .inl (fun _ => 0))), (w7_w15_q2, .inl (w7_w15_c2, 200, .inr (.inl (fun _ => 0)))), (w7_w15_q3, .inl (w7_w15_c3, 200, .inl (fun _ => 0))), (w7_w15_q4, .inl (w7_w15_c4, 200, .inl (fun _ => 0))), (w7_w15_q5, .inl (w7_w15_c5, 201, .inl (fun _ => 0))), (w7_w15_q6, .inl (w7_w15_c6, 201, .inl (fun _ => 0))), (q9, .inr (5, [.ref w9_q1, .ref w9_q2, .ref w9_q3, .ref w9_q4, .ref w9_q5, .int 0])), (w9_q1, .inl (w9_c1, 600, .inl (fun _ => 0))), (w9_q2, .inl (w9_c2, 600, .inr (.inl (fun _ => 0)))), (w9_q3, .inl (w9_c3, 600, .inl (fun _ => 0))), (w9_q4, .inl (w9_c4, 600, .inl (fun _ => 0))), (w9_q5, .inl (w9_c5, 600, .inl (fun _ => 0))), (q11, .inr (10, [.ref w11_q1, .ref w11_q2, .ref w11_q3, .ref w11_q4, .int 0, .ref w11_q5, .ref w11_q6, .int 0])), (w11_q1, .inl (w11_c1, 200, .inl (fun _ => 0))), (w11_q2, .inl (w11_c2, 200, .inr (.inl (fun _ => 0)))), (w11_q3, .inl (w11_c3, 200, .inl (fun _ => 0))), (w11_q4, .inl (w11_c4, 200, .inl (fun _ => 0))), (w11_q5, .inl (w11_c5, 201, .inl (fun _ => 0))), (w11_q6, .inl (w11_c6, 201, .inl (fun _ => 0))), (q13, .inr (6, [.ref q1, .ref q7, .ref q9, .ref q5, .ref q3, .ref w7_q15, .int 0])), (q7, .inr (4, [.int 0, .ref w7_q1, .ref w7_q2, .ref w7_q3, .ref w7_q4, .ref w7_q5, .ref w7_q6, .ref w7_q7, .ref w7_q8, .ref w7_q9, .ref w7_q10, .ref w7_q11, .int 0, .ref w7_q12, .ref w7_q13, .ref w7_q14, .ref w7_q15])), (q15, .inr (7, [.ref q7, .ref q9, .ref q3, .ref w15_q1])), (w15_q1, .inl (w15_c1, 16, .inl (fun _ => 0))), (q17, .inr (8, [.ref q7, .ref q9, .ref q5, .ref q3, .ref w17_q1, .ref w17_q2, .ref w17_q3, .int 0, .ref w17_q4, .ref w17_q5, .ref w17_q6, .int 0, .ref w17_q7, .ref w17_q8, .int 0, .int 0])), (w17_q1, .inl (w17_c1, 216, .inl (fun _ => 0))), (w17_q2, .inl (w17_c2, 216, .inl (fun _ => 0))), (w17_q3, .inl (w17_c3, 216, .inl (fun _ => 0))), (w17_q4, .inl (w17_c4, 200, .inl (fun _ => 0))), (w17_q5, .inl (w17_c5, 200, .inl (fun _ => 0))), (w17_q6, .inl (w17_c6, 200, .inl (fun _ => 0))), (w17_q7, .inl (w17_c7, 200, .inr (.inl (fun _ => 0)))), (w17_q8, .inl (w17_c8, 200, .inl (fun _ => 0)))]) C hin 8 mCI_162 i_Q t_Q t_Q_ok n_Q rfl rfl (Nat.le_of_ble_eq_true rfl) rfl rfl rfl rfl rfl rfl (Nat.le_of_ble_eq_true rfl) rfl d_Q_init_148 ?_
  refine y_aload_n (pc := 151) C d_Q_init_151 rfl 0 rfl ?_
  refine y_new (pc := 152) (ci := 9) (fs := [.null, .null, .null, .null, .null, .null, .null, .int 0, .int 0]) C i_Pl t_Pl t_Pl_ok mCI_163 mCI_164 mCI_118 rfl df_Pl (Nat.le_of_ble_eq_true rfl) (Nat.le_of_ble_eq_true rfl) d_Q_init_152 (fun q19 => ?_)
  refine y_ws (ws' := [(h, .inr (0, [.ref q1, .ref q3, .ref q5, .ref q7, .ref q9, .ref q11, .ref q13, .ref q15, .ref q17, .null, .null, .null])), (q1, .inr (1, [.ref w1_q1, .int 0, .ref w1_q2, .ref w1_q3, .ref w1_q4, .int 0, .int 0])), (w1_q1, .inl (w1_c1, 1200, .inl (fun _ => 0))), (w1_q2, .inl (w1_c2, 1201, .inl (fun _ => 0))), (w1_q3, .inl (w1_c3, 1201, .inr (.inl (fun _ => 0)))), (w1_q4, .inl (w1_c4, 1201, .inl (fun _ => 0))), (q3, .inr (2, [.int 0, .int 0, .ref w3_q1, .ref w3_q3])), (w3_q1, .inr (11, [.ref w3_w1_q1, .int 0])), (w3_w1_q1, .inl (w3_w1_c1, 2400, .inl (fun _ => 0))), (w3_q3, .inr (11, [.ref w3_w3_q1, .int 0])), (w3_w3_q1, .inl (w3_w3_c1, 2400, .inl (fun _ => 0))), (q5, .inr (3, [.ref w5_q1, .ref w5_q2, .ref w5_q3, .ref w5_q4, .ref w5_q5, .ref w5_q6, .int (1 : Int32), .int (1 : Int32), .int 0, .int 0, .int 0])), (w5_q1, .inl (w5_c1, 1713, .inl (fun _ => 0))), (w5_q2, .inl (w5_c2, 1713, .inl (fun _ => 0))), (w5_q3, .inl (w5_c3, 1713, .inl (upd (fun _ => 0) 0 (-1 : Int32)))), (w5_q4, .inl (w5_c4, 1713, .inl (fun _ => 0))), (w5_q5, .inl (w5_c5, 1713, .inl (fun _ => 0))), (w5_q6, .inl (w5_c6, 3434, .inl (fun _ => 0))), (w7_q1, .inl (w7_c1, 16, .inl (fun _ => 0))), (w7_q2, .inl (w7_c2, 16, .inr (.inl (fun _ => 0)))), (w7_q3, .inl (w7_c3, 16, .inl (fun _ => 0))), (w7_q4, .inl (w7_c4, 16, .inl (fun _ => 0))), (w7_q5, .inl (w7_c5, 48, .inr (.inl (fun _ => 0)))), (w7_q6, .inl (w7_c6, 16, .inl (fun _ => 0))), (w7_q7, .inl (w7_c7, 16, .inl (fun _ => 0))), (w7_q8, .inl (w7_c8, 16, .inl (fun _ => 0))), (w7_q9, .inl (w7_c9, 16, .inl (fun _ => 0))), (w7_q10, .inl (w7_c10, 16, .inl (fun _ => 0))), (w7_q11, .inl (w7_c11, 16, .inl (fun _ => 0))), (w7_q12, .inl (w7_c12, 16, .inl (fun _ => 0))), (w7_q13, .inl (w7_c13, 48, .inl (fun _ => 0))), (w7_q14, .inl (w7_c14, 16, .inl (fun _ => 0))), (w7_q15, .inr (10, [.ref w7_w15_q1, .ref w7_w15_q2, .ref w7_w15_q3, .ref w7_w15_q4, .int 0, .ref w7_w15_q5, .ref w7_w15_q6, .int 0])), (w7_w15_q1, .inl (w7_w15_c1, 200, .inl (fun _ => 0))), (w7_w15_q2, .inl (w7_w15_c2, 200, .inr (.inl (fun _ => 0)))), (w7_w15_q3, .inl (w7_w15_c3, 200, .inl (fun _ => 0))), (w7_w15_q4, .inl (w7_w15_c4, 200, .inl (fun _ => 0))), (w7_w15_q5, .inl (w7_w15_c5, 201, .inl (fun _ => 0))), (w7_w15_q6, .inl (w7_w15_c6, 201, .inl (fun _ => 0))), (q9, .inr (5, [.ref w9_q1, .ref w9_q2, .ref w9_q3, .ref w9_q4, .ref w9_q5, .int 0])), (w9_q1, .inl (w9_c1, 600, .inl (fun _ => 0))), (w9_q2, .inl (w9_c2, 600, .inr (.inl (fun _ => 0)))), (w9_q3, .inl (w9_c3, 600, .inl (fun _ => 0))), (w9_q4, .inl (w9_c4, 600, .inl (fun _ => 0))), (w9_q5, .inl (w9_c5, 600, .inl (fun _ => 0))), (q11, .inr (10, [.ref w11_q1, .ref w11_q2, .ref w11_q3, .ref w11_q4, .int 0, .ref w11_q5, .ref w11_q6, .int 0])), (w11_q1, .inl (w11_c1, 200, .inl (fun _ => 0))), (w11_q2, .inl (w11_c2, 200, .inr (.inl (fun _ => 0)))), (w11_q3, .inl (w11_c3, 200, .inl (fun _ => 0))), (w11_q4, .inl (w11_c4, 200, .inl (fun _ => 0))), (w11_q5, .inl (w11_c5, 201, .inl (fun _ => 0))), (w11_q6, .inl (w11_c6, 201, .inl (fun _ => 0))), (q13, .inr (6, [.ref q1, .ref q7, .ref q9, .ref q5, .ref q3, .ref w7_q15, .int 0])), (q7, .inr (4, [.int 0, .ref w7_q1, .ref w7_q2, .ref w7_q3, .ref w7_q4, .ref w7_q5, .ref w7_q6, .ref w7_q7, .ref w7_q8, .ref w7_q9, .ref w7_q10, .ref w7_q11, .int 0, .ref w7_q12, .ref w7_q13, .ref w7_q14, .ref w7_q15])), (q15, .inr (7, [.ref q7, .ref q9, .ref q3, .ref w15_q1])), (w15_q1, .inl (w15_c1, 16, .inl (fun _ => 0))), (q17, .inr (8, [.ref q7, .ref q9, .ref q5, .ref q3, .ref w17_q1, .ref w17_q2, .ref w17_q3, .int 0, .ref w17_q4, .ref w17_q5, .ref w17_q6, .int 0, .ref w17_q7, .ref w17_q8, .int 0, .int 0])), (w17_q1, .inl (w17_c1, 216, .inl (fun _ => 0))), (w17_q2, .inl (w17_c2, 216, .inl (fun _ => 0))), (w17_q3, .inl (w17_c3, 216, .inl (fun _ => 0))), (w17_q4, .inl (w17_c4, 200, .inl (fun _ => 0))), (w17_q5, .inl (w17_c5, 200, .inl (fun _ => 0))), (w17_q6, .inl (w17_c6, 200, .inl (fun _ => 0))), (w17_q7, .inl (w17_c7, 200, .inr (.inl (fun _ => 0)))), (w17_q8, .inl (w17_c8, 200, .inl (fun _ => 0))), (q19, .inr (9, [.null, .null, .null, .null, .null, .null, .null, .int 0, .int 0]))]) (tys' := [(w1_c1, .int), (w1_c2, .int), (w1_c3, .long), (w1_c4, .int), (w3_w1_c1, .byte), (w3_w3_c1, .byte), (w5_c1, .int), (w5_c2, .int), (w5_c3, .int), (w5_c4, .int), (w5_c5, .int), (w5_c6, .int), (w7_c1, .int), (w7_c2, .long), (w7_c3, .int), (w7_c4, .int), (w7_c5, .long), (w7_c6, .int), (w7_c7, .int), (w7_c8, .int), (w7_c9, .int), (w7_c10, .int), (w7_c11, .int), (w7_c12, .int), (w7_c13, .int), (w7_c14, .int), (w7_w15_c1, .int), (w7_w15_c2, .long), (w7_w15_c3, .int), (w7_w15_c4, .int), (w7_w15_c5, .int), (w7_w15_c6, .int), (w9_c1, .int), (w9_c2, .long), (w9_c3, .int), (w9_c4, .int), (w9_c5, .int), (w11_c1, .int), (w11_c2, .long), (w11_c3, .int), (w11_c4, .int), (w11_c5, .int), (w11_c6, .int), (w15_c1, .int), (w17_c1, .int), (w17_c2, .int), (w17_c3, .int), (w17_c4, .int), (w17_c5, .int), (w17_c6, .int), (w17_c7, .long), (w17_c8, .int)]) rfl rfl ?_
  refine y_dup (pc := 155) C d_Q_init_155 rfl ?_
  refine y_aload_n (pc := 156) C d_Q_init_156 rfl 0 rfl ?_
  refine y_get (pc := 157) (q0 := 0) (v := .ref q7) C 3 mCI_139 i_Q rfl rfl (Nat.le_of_ble_eq_true rfl) rfl rfl d_Q_init_157 ?_
  refine y_ctor (pc := 160) (wc := [(q19, .inr (9, [.null, .null, .null, .null, .null, .null, .null, .int 0, .int 0]))]) (wr := [(h, .inr (0, [.ref q1, .ref q3, .ref q5, .ref q7, .ref q9, .ref q11, .ref q13, .ref q15, .ref q17, .null, .null, .null])), (q1, .inr (1, [.ref w1_q1, .int 0, .ref w1_q2, .ref w1_q3, .ref w1_q4, .int 0, .int 0])), (w1_q1, .inl (w1_c1, 1200, .inl (fun _ => 0))), (w1_q2, .inl (w1_c2, 1201, .inl (fun _ => 0))), (w1_q3, .inl (w1_c3, 1201, .inr (.inl (fun _ => 0)))), (w1_q4, .inl (w1_c4, 1201, .inl (fun _ => 0))), (q3, .inr (2, [.int 0, .int 0, .ref w3_q1, .ref w3_q3])), (w3_q1, .inr (11, [.ref w3_w1_q1, .int 0])), (w3_w1_q1, .inl (w3_w1_c1, 2400, .inl (fun _ => 0))), (w3_q3, .inr (11, [.ref w3_w3_q1, .int 0])), (w3_w3_q1, .inl (w3_w3_c1, 2400, .inl (fun _ => 0))), (q5, .inr (3, [.ref w5_q1, .ref w5_q2, .ref w5_q3, .ref w5_q4, .ref w5_q5, .ref w5_q6, .int (1 : Int32), .int (1 : Int32), .int 0, .int 0, .int 0])), (w5_q1, .inl (w5_c1, 1713, .inl (fun _ => 0))), (w5_q2, .inl (w5_c2, 1713, .inl (fun _ => 0))), (w5_q3, .inl (w5_c3, 1713, .inl (upd (fun _ => 0) 0 (-1 : Int32)))), (w5_q4, .inl (w5_c4, 1713, .inl (fun _ => 0))), (w5_q5, .inl (w5_c5, 1713, .inl (fun _ => 0))), (w5_q6, .inl (w5_c6, 3434, .inl (fun _ => 0))), (w7_q1, .inl (w7_c1, 16, .inl (fun _ => 0))), (w7_q2, .inl (w7_c2, 16, .inr (.inl (fun _ => 0)))), (w7_q3, .inl (w7_c3, 16, .inl (fun _ => 0))), (w7_q4, .inl (w7_c4, 16, .inl (fun _ => 0))), (w7_q5, .inl (w7_c5, 48, .inr (.inl (fun _ => 0)))), (w7_q6, .inl (w7_c6, 16, .inl (fun _ => 0))), (w7_q7, .inl (w7_c7, 16, .inl (fun _ => 0))), (w7_q8, .inl (w7_c8, 16, .inl (fun _ => 0))), (w7_q9, .inl (w7_c9, 16, .inl (fun _ => 0))), (w7_q10, .inl (w7_c10, 16, .inl (fun _ => 0))), (w7_q11, .inl (w7_c11, 16, .inl (fun _ => 0))), (w7_q12, .inl (w7_c12, 16, .inl (fun _ => 0))), (w7_q13, .inl (w7_c13, 48, .inl (fun _ => 0))), (w7_q14, .inl (w7_c14, 16, .inl (fun _ => 0))), (w7_q15, .inr (10, [.ref w7_w15_q1, .ref w7_w15_q2, .ref w7_w15_q3, .ref w7_w15_q4, .int 0, .ref w7_w15_q5, .ref w7_w15_q6, .int 0])), (w7_w15_q1, .inl (w7_w15_c1, 200, .inl (fun _ => 0))), (w7_w15_q2, .inl (w7_w15_c2, 200, .inr (.inl (fun _ => 0)))), (w7_w15_q3, .inl (w7_w15_c3, 200, .inl (fun _ => 0))), (w7_w15_q4, .inl (w7_w15_c4, 200, .inl (fun _ => 0))), (w7_w15_q5, .inl (w7_w15_c5, 201, .inl (fun _ => 0))), (w7_w15_q6, .inl (w7_w15_c6, 201, .inl (fun _ => 0))), (q9, .inr (5, [.ref w9_q1, .ref w9_q2, .ref w9_q3, .ref w9_q4, .ref w9_q5, .int 0])), (w9_q1, .inl (w9_c1, 600, .inl (fun _ => 0))), (w9_q2, .inl (w9_c2, 600, .inr (.inl (fun _ => 0)))), (w9_q3, .inl (w9_c3, 600, .inl (fun _ => 0))), (w9_q4, .inl (w9_c4, 600, .inl (fun _ => 0))), (w9_q5, .inl (w9_c5, 600, .inl (fun _ => 0))), (q11, .inr (10, [.ref w11_q1, .ref w11_q2, .ref w11_q3, .ref w11_q4, .int 0, .ref w11_q5, .ref w11_q6, .int 0])), (w11_q1, .inl (w11_c1, 200, .inl (fun _ => 0))), (w11_q2, .inl (w11_c2, 200, .inr (.inl (fun _ => 0)))), (w11_q3, .inl (w11_c3, 200, .inl (fun _ => 0))), (w11_q4, .inl (w11_c4, 200, .inl (fun _ => 0))), (w11_q5, .inl (w11_c5, 201, .inl (fun _ => 0))), (w11_q6, .inl (w11_c6, 201, .inl (fun _ => 0))), (q13, .inr (6, [.ref q1, .ref q7, .ref q9, .ref q5, .ref q3, .ref w7_q15, .int 0])), (q7, .inr (4, [.int 0, .ref w7_q1, .ref w7_q2, .ref w7_q3, .ref w7_q4, .ref w7_q5, .ref w7_q6, .ref w7_q7, .ref w7_q8, .ref w7_q9, .ref w7_q10, .ref w7_q11, .int 0, .ref w7_q12, .ref w7_q13, .ref w7_q14, .ref w7_q15])), (q15, .inr (7, [.ref q7, .ref q9, .ref q3, .ref w15_q1])), (w15_q1, .inl (w15_c1, 16, .inl (fun _ => 0))), (q17, .inr (8, [.ref q7, .ref q9, .ref q5, .ref q3, .ref w17_q1, .ref w17_q2, .ref w17_q3, .int 0, .ref w17_q4, .ref w17_q5, .ref w17_q6, .int 0, .ref w17_q7, .ref w17_q8, .int 0, .int 0])), (w17_q1, .inl (w17_c1, 216, .inl (fun _ => 0))), (w17_q2, .inl (w17_c2, 216, .inl (fun _ => 0))), (w17_q3, .inl (w17_c3, 216, .inl (fun _ => 0))), (w17_q4, .inl (w17_c4, 200, .inl (fun _ => 0))), (w17_q5, .inl (w17_c5, 200, .inl (fun _ => 0))), (w17_q6, .inl (w17_c6, 200, .inl (fun _ => 0))), (w17_q7, .inl (w17_c7, 200, .inr (.inl (fun _ => 0)))), (w17_q8, .inl (w17_c8, 200, .inl (fun _ => 0)))]) C (i_Pl_init (h := q19) (x1 := q7)) km_Pl_init mCI_166 rfl mCI_165 [65] [0, 1, 2, 3, 4, 5, 6, 7, 8, 9, 10, 11, 12, 13, 14, 15, 16, 17, 18, 19, 20, 21, 22, 23, 24, 25, 26, 27, 28, 29, 30, 31, 32, 33, 34, 35, 36, 37, 38, 39, 40, 41, 42, 43, 44, 45, 46, 47, 48, 49, 50, 51, 52, 53, 54, 55, 56, 57, 58, 59, 60, 61, 62, 63, 64] rfl rfl rfl rfl rfl (by decide) rfl (rmN_of (Nat.le_of_ble_eq_true rfl) (Nat.le_of_ble_eq_true rfl)) ⟨Nat.le_of_ble_eq_true rfl, Nat.le_of_ble_eq_true rfl⟩ rfl (Nat.le_of_ble_eq_true rfl) d_Q_init_160 (fun w t hwt => ?_)
  obtain ⟨w19_q1, w19_w1_q1, w19_w1_c1, w19_w1_q2, w19_w1_c2, w19_w1_q3, w19_w1_c3, w19_w1_q4, w19_w1_c4, w19_w1_q5, w19_w1_c5, w19_w1_q6, w19_w1_c6, w19_q3, w19_w3_q1, w19_w3_c1, w19_w3_q2, w19_w3_c2, w19_w3_q3, w19_w3_c3, w19_w3_q4, w19_w3_c4, w19_w3_q5, w19_w3_c5, w19_w3_q6, w19_w3_c6, w19_q5, w19_w5_q1, w19_w5_c1, w19_w5_q2, w19_w5_c2, w19_w5_q3, w19_w5_c3, w19_w5_q4, w19_w5_c4, w19_w5_q5, w19_w5_c5, w19_w5_q6, w19_w5_c6, w19_q7, w19_c7, w19_q8, w19_c8, w19_q9, w19_c9, rfl, rfl⟩ := hwt
  refine y_ws (ws' := [(h, .inr (0, [.ref q1, .ref q3, .ref q5, .ref q7, .ref q9, .ref q11, .ref q13, .ref q15, .ref q17, .null, .null, .null])), (q1, .inr (1, [.ref w1_q1, .int 0, .ref w1_q2, .ref w1_q3, .ref w1_q4, .int 0, .int 0])), (w1_q1, .inl (w1_c1, 1200, .inl (fun _ => 0))), (w1_q2, .inl (w1_c2, 1201, .inl (fun _ => 0))), (w1_q3, .inl (w1_c3, 1201, .inr (.inl (fun _ => 0)))), (w1_q4, .inl (w1_c4, 1201, .inl (fun _ => 0))), (q3, .inr (2, [.int 0, .int 0, .ref w3_q1, .ref w3_q3])), (w3_q1, .inr (11, [.ref w3_w1_q1, .int 0])), (w3_w1_q1, .inl (w3_w1_c1, 2400, .inl (fun _ => 0))), (w3_q3, .inr (11, [.ref w3_w3_q1, .int 0])), (w3_w3_q1, .inl (w3_w3_c1, 2400, .inl (fun _ => 0))), (q5, .inr (3, [.ref w5_q1, .ref w5_q2, .ref w5_q3, .ref w5_q4, .ref w5_q5, .ref w5_q6, .int (1 : Int32), .int (1 : Int32), .int 0, .int 0, .int 0])), (w5_q1, .inl (w5_c1, 1713, .inl (fun _ => 0))), (w5_q2, .inl (w5_c2, 1713, .inl (fun _ => 0))), (w5_q3, .inl (w5_c3, 1713, .inl (upd (fun _ => 0) 0 (-1 : Int32)))), (w5_q4, .inl (w5_c4, 1713, .inl (fun _ => 0))), (w5_q5, .inl (w5_c5, 1713, .inl (fun _ => 0))), (w5_q6, .inl (w5_c6, 3434, .inl (fun _ => 0))), (w7_q1, .inl (w7_c1, 16, .inl (fun _ => 0))), (w7_q2, .inl (w7_c2, 16, .inr (.inl (fun _ => 0)))), (w7_q3, .inl (w7_c3, 16, .inl (fun _ => 0))), (w7_q4, .inl (w7_c4, 16, .inl (fun _ => 0))), (w7_q5, .inl (w7_c5, 48, .inr (.inl (fun _ => 0)))), (w7_q6, .inl (w7_c6, 16, .inl (fun _ => 0))), (w7_q7, .inl (w7_c7, 16, .inl (fun _ => 0))), (w7_q8, .inl (w7_c8, 16, .inl (fun _ => 0))), (w7_q9, .inl (w7_c9, 16, .inl (fun _ => 0))), (w7_q10, .inl (w7_c10, 16, .inl (fun _ => 0))), (w7_q11, .inl (w7_c11, 16, .inl (fun _ => 0))), (w7_q12, .inl (w7_c12, 16, .inl (fun _ => 0))), (w7_q13, .inl (w7_c13, 48, .inl (fun _ => 0))), (w7_q14, .inl (w7_c14, 16, .inl (fun _ => 0))), (w7_q15, .inr (10, [.ref w7_w15_q1, .ref w7_w15_q2, .ref w7_w15_q3, .ref w7_w15_q4, .int 0, .ref w7_w15_q5, .ref w7_w15_q6, .int 0])), (w7_w15_q1, .inl (w7_w15_c1, 200, .inl (fun _ => 0))), (w7_w15_q2, .inl (w7_w15_c2, 200, .inr (.inl (fun _ => 0)))), (w7_w15_q3, .inl (w7_w15_c3, 200, .inl (fun _ => 0))), (w7_w15_q4, .inl (w7_w15_c4, 200, .inl (fun _ => 0))), (w7_w15_q5, .inl (w7_w15_c5, 201, .inl (fun _ => 0))), (w7_w15_q6, .inl (w7_w15_c6, 201, .inl (fun _ => 0))), (q9, .inr (5, [.ref w9_q1, .ref w9_q2, .ref w9_q3, .ref w9_q4, .ref w9_q5, .int 0])), (w9_q1, .inl (w9_c1, 600, .inl (fun _ => 0))), (w9_q2, .inl (w9_c2, 600, .inr (.inl (fun _ => 0)))), (w9_q3, .inl (w9_c3, 600, .inl (fun _ => 0))), (w9_q4, .inl (w9_c4, 600, .inl (fun _ => 0))), (w9_q5, .inl (w9_c5, 600, .inl (fun _ => 0))), (q11, .inr (10, [.ref w11_q1, .ref w11_q2, .ref w11_q3, .ref w11_q4, .int 0, .ref w11_q5, .ref w11_q6, .int 0])), (w11_q1, .inl (w11_c1, 200, .inl (fun _ => 0))), (w11_q2, .inl (w11_c2, 200, .inr (.inl (fun _ => 0)))), (w11_q3, .inl (w11_c3, 200, .inl (fun _ => 0))), (w11_q4, .inl (w11_c4, 200, .inl (fun _ => 0))), (w11_q5, .inl (w11_c5, 201, .inl (fun _ => 0))), (w11_q6, .inl (w11_c6, 201, .inl (fun _ => 0))), (q13, .inr (6, [.ref q1, .ref q7, .ref q9, .ref q5, .ref q3, .ref w7_q15, .int 0])), (q7, .inr (4, [.int 0, .ref w7_q1, .ref w7_q2, .ref w7_q3, .ref w7_q4, .ref w7_q5, .ref w7_q6, .ref w7_q7, .ref w7_q8, .ref w7_q9, .ref w7_q10, .ref w7_q11, .int 0, .ref w7_q12, .ref w7_q13, .ref w7_q14, .ref w7_q15])), (q15, .inr (7, [.ref q7, .ref q9, .ref q3, .ref w15_q1])), (w15_q1, .inl (w15_c1, 16, .inl (fun _ => 0))), (q17, .inr (8, [.ref q7, .ref q9, .ref q5, .ref q3, .ref w17_q1, .ref w17_q2, .ref w17_q3, .int 0, .ref w17_q4, .ref w17_q5, .ref w17_q6, .int 0, .ref w17_q7, .ref w17_q8, .int 0, .int 0])), (w17_q1, .inl (w17_c1, 216, .inl (fun _ => 0))), (w17_q2, .inl (w17_c2, 216, .inl (fun _ => 0))), (w17_q3, .inl (w17_c3, 216, .inl (fun _ => 0))), (w17_q4, .inl (w17_c4, 200, .inl (fun _ => 0))), (w17_q5, .inl (w17_c5, 200, .inl (fun _ => 0))), (w17_q6, .inl (w17_c6, 200, .inl (fun _ => 0))), (w17_q7, .inl (w17_c7, 200, .inr (.inl (fun _ => 0)))), (w17_q8, .inl (w17_c8, 200, .inl (fun _ => 0))), (q19, .inr (9, [.ref q7, .ref w19_q1, .ref w19_q3, .ref w19_q5, .ref w19_q7, .ref w19_q8, .ref w19_q9, .int 0, .int 0])), (w19_q1, .inr (10, [.ref w19_w1_q1, .ref w19_w1_q2, .ref w19_w1_q3, .ref w19_w1_q4, .int 0, .ref w19_w1_q5, .ref w19_w1_q6, .int 0])), (w19_w1_q1, .inl (w19_w1_c1, 200, .inl (fun _ => 0))), (w19_w1_q2, .inl (w19_w1_c2, 200, .inr (.inl (fun _ => 0)))), (w19_w1_q3, .inl (w19_w1_c3, 200, .inl (fun _ => 0))), (w19_w1_q4, .inl (w19_w1_c4, 200, .inl (fun _ => 0))), (w19_w1_q5, .inl (w19_w1_c5, 201, .inl (fun _ => 0))), (w19_w1_q6, .inl (w19_w1_c6, 201, .inl (fun _ => 0))), (w19_q3, .inr (10, [.ref w19_w3_q1, .ref w19_w3_q2, .ref w19_w3_q3, .ref w19_w3_q4, .int 0, .ref w19_w3_q5, .ref w19_w3_q6, .int 0])), (w19_w3_q1, .inl (w19_w3_c1, 200, .inl (fun _ => 0))), (w19_w3_q2, .inl (w19_w3_c2, 200, .inr (.inl (fun _ => 0)))), (w19_w3_q3, .inl (w19_w3_c3, 200, .inl (fun _ => 0))), (w19_w3_q4, .inl (w19_w3_c4, 200, .inl (fun _ => 0))), (w19_w3_q5, .inl (w19_w3_c5, 201, .inl (fun _ => 0))), (w19_w3_q6, .inl (w19_w3_c6, 201, .inl (fun _ => 0))), (w19_q5, .inr (10, [.ref w19_w5_q1, .ref w19_w5_q2, .ref w19_w5_q3, .ref w19_w5_q4, .int 0, .ref w19_w5_q5, .ref w19_w5_q6, .int 0])), (w19_w5_q1, .inl (w19_w5_c1, 200, .inl (fun _ => 0))), (w19_w5_q2, .inl (w19_w5_c2, 200, .inr (.inl (fun _ => 0)))), (w19_w5_q3, .inl (w19_w5_c3, 200, .inl (fun _ => 0))), (w19_w5_q4, .inl (w19_w5_c4, 200, .inl (fun _ => 0))), (w19_w5_q5, .inl (w19_w5_c5, 201, .inl (fun _ => 0))), (w19_w5_q6, .inl (w19_w5_c6, 201, .inl (fun _ => 0))), (w19_q7, .inl (w19_c7, 4, .inl (fun _ => 0))), (w19_q8, .inl (w19_c8, 200, .inl (fun _ => 0))), (w19_q9, .inl (w19_c9, 200, .inl (fun _ => 0)))]) (tys' := [(w1_c1, .int), (w1_c2, .int), (w1_c3, .long), (w1_c4, .int), (w3_w1_c1, .byte), (w3_w3_c1, .byte), (w5_c1, .int), (w5_c2, .int), (w5_c3, .int), (w5_c4, .int), (w5_c5, .int), (w5_c6, .int), (w7_c1, .int), (w7_c2, .long), (w7_c3, .int), (w7_c4, .int), (w7_c5, .long), (w7_c6, .int), (w7_c7, .int), (w7_c8, .int), (w7_c9, .int), (w7_c10, .int), (w7_c11, .int), (w7_c12, .int), (w7_c13, .int), (w7_c14, .int), (w7_w15_c1, .int), (w7_w15_c2, .long), (w7_w15_c3, .int), (w7_w15_c4, .int), (w7_w15_c5, .int), (w7_w15_c6, .int), (w9_c1, .int), (w9_c2, .long), (w9_c3, .int), (w9_c4, .int), (w9_c5, .int), (w11_c1, .int), (w11_c2, .long), (w11_c3, .int), (w11_c4, .int), (w11_c5, .int), (w11_c6, .int), (w15_c1, .int), (w17_c1, .int), (w17_c2, .int), (w17_c3, .int), (w17_c4, .int), (w17_c5, .int), (w17_c6, .int), (w17_c7, .long), (w17_c8, .int), (w19_w1_c1, .int), (w19_w1_c2, .long), (w19_w1_c3, .int), (w19_w1_c4, .int), (w19_w1_c5, .int), (w19_w1_c6, .int), (w19_w3_c1, .int), (w19_w3_c2, .long), (w19_w3_c3, .int), (w19_w3_c4, .int), (w19_w3_c5, .int), (w19_w3_c6, .int), (w19_w5_c1, .int), (w19_w5_c2, .long), (w19_w5_c3, .int), (w19_w5_c4, .int), (w19_w5_c5, .int), (w19_w5_c6, .int), (w19_c7, .int), (w19_c8, .int), (w19_c9, .int)]) rfl rfl ?_
  refine y_putF (pc := 163) (q0 := 0) (v := .ref q19) (ty := .object "KindRounds$Plainer") (ws' := [(h, .inr (0, [.ref q1, .ref q3, .ref q5, .ref q7, .ref q9, .ref q11, .ref q13, .ref q15, .ref q17, .ref q19, .null, .null])), (q1, .inr (1, [.ref w1_q1, .int 0, .ref w1_q2, .ref w1_q3, .ref w1_q4, .int 0, .int 0])), (w1_q1, .inl (w1_c1, 1200, .inl (fun _ => 0))), (w1_q2, .inl (w1_c2, 1201, .inl (fun _ => 0))), (w1_q3, .inl (w1_c3, 1201, .inr (.inl (fun _ => 0)))), (w1_q4, .inl (w1_c4, 1201, .inl (fun _ => 0))), (q3, .inr (2, [.int 0, .int 0, .ref w3_q1, .ref w3_q3])), (w3_q1, .inr (11, [.ref w3_w1_q1, .int 0])), (w3_w1_q1, .inl (w3_w1_c1, 2400, .inl (fun _ => 0))), (w3_q3, .inr (11, [.ref w3_w3_q1, .int 0])), (w3_w3_q1, .inl (w3_w3_c1, 2400, .inl (fun _ => 0))), (q5, .inr (3, [.ref w5_q1, .ref w5_q2, .ref w5_q3, .ref w5_q4, .ref w5_q5, .ref w5_q6, .int (1 : Int32), .int (1 : Int32), .int 0, .int 0, .int 0])), (w5_q1, .inl (w5_c1, 1713, .inl (fun _ => 0))), (w5_q2, .inl (w5_c2, 1713, .inl (fun _ => 0))), (w5_q3, .inl (w5_c3, 1713, .inl (upd (fun _ => 0) 0 (-1 : Int32)))), (w5_q4, .inl (w5_c4, 1713, .inl (fun _ => 0))), (w5_q5, .inl (w5_c5, 1713, .inl (fun _ => 0))), (w5_q6, .inl (w5_c6, 3434, .inl (fun _ => 0))), (w7_q1, .inl (w7_c1, 16, .inl (fun _ => 0))), (w7_q2, .inl (w7_c2, 16, .inr (.inl (fun _ => 0)))), (w7_q3, .inl (w7_c3, 16, .inl (fun _ => 0))), (w7_q4, .inl (w7_c4, 16, .inl (fun _ => 0))), (w7_q5, .inl (w7_c5, 48, .inr (.inl (fun _ => 0)))), (w7_q6, .inl (w7_c6, 16, .inl (fun _ => 0))), (w7_q7, .inl (w7_c7, 16, .inl (fun _ => 0))), (w7_q8, .inl (w7_c8, 16, .inl (fun _ => 0))), (w7_q9, .inl (w7_c9, 16, .inl (fun _ => 0))), (w7_q10, .inl (w7_c10, 16, .inl (fun _ => 0))), (w7_q11, .inl (w7_c11, 16, .inl (fun _ => 0))), (w7_q12, .inl (w7_c12, 16, .inl (fun _ => 0))), (w7_q13, .inl (w7_c13, 48, .inl (fun _ => 0))), (w7_q14, .inl (w7_c14, 16, .inl (fun _ => 0))), (w7_q15, .inr (10, [.ref w7_w15_q1, .ref w7_w15_q2, .ref w7_w15_q3, .ref w7_w15_q4, .int 0, .ref w7_w15_q5, .ref w7_w15_q6, .int 0])), (w7_w15_q1, .inl (w7_w15_c1, 200, .inl (fun _ => 0))), (w7_w15_q2, .inl (w7_w15_c2, 200, .inr (.inl (fun _ => 0)))), (w7_w15_q3, .inl (w7_w15_c3, 200, .inl (fun _ => 0))), (w7_w15_q4, .inl (w7_w15_c4, 200, .inl (fun _ => 0))), (w7_w15_q5, .inl (w7_w15_c5, 201, .inl (fun _ => 0))), (w7_w15_q6, .inl (w7_w15_c6, 201, .inl (fun _ => 0))), (q9, .inr (5, [.ref w9_q1, .ref w9_q2, .ref w9_q3, .ref w9_q4, .ref w9_q5, .int 0])), (w9_q1, .inl (w9_c1, 600, .inl (fun _ => 0))), (w9_q2, .inl (w9_c2, 600, .inr (.inl (fun _ => 0)))), (w9_q3, .inl (w9_c3, 600, .inl (fun _ => 0))), (w9_q4, .inl (w9_c4, 600, .inl (fun _ => 0))), (w9_q5, .inl (w9_c5, 600, .inl (fun _ => 0))), (q11, .inr (10, [.ref w11_q1, .ref w11_q2, .ref w11_q3, .ref w11_q4, .int 0, .ref w11_q5, .ref w11_q6, .int 0])), (w11_q1, .inl (w11_c1, 200, .inl (fun _ => 0))), (w11_q2, .inl (w11_c2, 200, .inr (.inl (fun _ => 0)))), (w11_q3, .inl (w11_c3, 200, .inl (fun _ => 0))), (w11_q4, .inl (w11_c4, 200, .inl (fun _ => 0))), (w11_q5, .inl (w11_c5, 201, .inl (fun _ => 0))), (w11_q6, .inl (w11_c6, 201, .inl (fun _ => 0))), (q13, .inr (6, [.ref q1, .ref q7, .ref q9, .ref q5, .ref q3, .ref w7_q15, .int 0])), (q7, .inr (4, [.int 0, .ref w7_q1, .ref w7_q2, .ref w7_q3, .ref w7_q4, .ref w7_q5, .ref w7_q6, .ref w7_q7, .ref w7_q8, .ref w7_q9, .ref w7_q10, .ref w7_q11, .int 0, .ref w7_q12, .ref w7_q13, .ref w7_q14, .ref w7_q15])), (q15, .inr (7, [.ref q7, .ref q9, .ref q3, .ref w15_q1])), (w15_q1, .inl (w15_c1, 16, .inl (fun _ => 0))), (q17, .inr (8, [.ref q7, .ref q9, .ref q5, .ref q3, .ref w17_q1, .ref w17_q2, .ref w17_q3, .int 0, .ref w17_q4, .ref w17_q5, .ref w17_q6, .int 0, .ref w17_q7, .ref w17_q8, .int 0, .int 0])), (w17_q1, .inl (w17_c1, 216, .inl (fun _ => 0))), (w17_q2, .inl (w17_c2, 216, .inl (fun _ => 0))), (w17_q3, .inl (w17_c3, 216, .inl (fun _ => 0))), (w17_q4, .inl (w17_c4, 200, .inl (fun _ => 0))), (w17_q5, .inl (w17_c5, 200, .inl (fun _ => 0))), (w17_q6, .inl (w17_c6, 200, .inl (fun _ => 0))), (w17_q7, .inl (w17_c7, 200, .inr (.inl (fun _ => 0)))), (w17_q8, .inl (w17_c8, 200, .inl (fun _ => 0))), (q19, .inr (9, [.ref q7, .ref w19_q1, .ref w19_q3, .ref w19_q5, .ref w19_q7, .ref w19_q8, .ref w19_q9, .int 0, .int 0])), (w19_q1, .inr (10, [.ref w19_w1_q1, .ref w19_w1_q2, .ref w19_w1_q3, .ref w19_w1_q4, .int 0, .ref w19_w1_q5, .ref w19_w1_q6, .int 0])), (w19_w1_q1, .inl (w19_w1_c1, 200, .inl (fun _ => 0))), (w19_w1_q2, .inl (w19_w1_c2, 200, .inr (.inl (fun _ => 0)))), (w19_w1_q3, .inl (w19_w1_c3, 200, .inl (fun _ => 0))), (w19_w1_q4, .inl (w19_w1_c4, 200, .inl (fun _ => 0))), (w19_w1_q5, .inl (w19_w1_c5, 201, .inl (fun _ => 0))), (w19_w1_q6, .inl (w19_w1_c6, 201, .inl (fun _ => 0))), (w19_q3, .inr (10, [.ref w19_w3_q1, .ref w19_w3_q2, .ref w19_w3_q3, .ref w19_w3_q4, .int 0, .ref w19_w3_q5, .ref w19_w3_q6, .int 0])), (w19_w3_q1, .inl (w19_w3_c1, 200, .inl (fun _ => 0))), (w19_w3_q2, .inl (w19_w3_c2, 200, .inr (.inl (fun _ => 0)))), (w19_w3_q3, .inl (w19_w3_c3, 200, .inl (fun _ => 0))), (w19_w3_q4, .inl (w19_w3_c4, 200, .inl (fun _ => 0))), (w19_w3_q5, .inl (w19_w3_c5, 201, .inl (fun _ => 0))), (w19_w3_q6, .inl (w19_w3_c6, 201, .inl (fun _ => 0))), (w19_q5, .inr (10, [.ref w19_w5_q1, .ref w19_w5_q2, .ref w19_w5_q3, .ref w19_w5_q4, .int 0, .ref w19_w5_q5, .ref w19_w5_q6, .int 0])), (w19_w5_q1, .inl (w19_w5_c1, 200, .inl (fun _ => 0))), (w19_w5_q2, .inl (w19_w5_c2, 200, .inr (.inl (fun _ => 0)))), (w19_w5_q3, .inl (w19_w5_c3, 200, .inl (fun _ => 0))), (w19_w5_q4, .inl (w19_w5_c4, 200, .inl (fun _ => 0))), (w19_w5_q5, .inl (w19_w5_c5, 201, .inl (fun _ => 0))), (w19_w5_q6, .inl (w19_w5_c6, 201, .inl (fun _ => 0))), (w19_q7, .inl (w19_c7, 4, .inl (fun _ => 0))), (w19_q8, .inl (w19_c8, 200, .inl (fun _ => 0))), (w19_q9, .inl (w19_c9, 200, .inl (fun _ => 0)))]) C hin 9 mCI_167 i_Q t_Q t_Q_ok n_Q rfl rfl (Nat.le_of_ble_eq_true rfl) rfl rfl rfl rfl rfl rfl (Nat.le_of_ble_eq_true rfl) rfl d_Q_init_163 ?_
  refine y_aload_n (pc := 166) C d_Q_init_166 rfl 0 rfl ?_
  refine y_new (pc := 167) (ci := 11) (fs := [.null, .int 0]) C i_Li t_Li t_Li_ok mCI_168 mCI_27 mCI_6 rfl df_Li (Nat.le_of_ble_eq_true rfl) (Nat.le_of_ble_eq_true rfl) d_Q_init_167 (fun q21 => ?_)
  refine y_ws (ws' := [(h, .inr (0, [.ref q1, .ref q3, .ref q5, .ref q7, .ref q9, .ref q11, .ref q13, .ref q15, .ref q17, .ref q19, .null, .null])), (q1, .inr (1, [.ref w1_q1, .int 0, .ref w1_q2, .ref w1_q3, .ref w1_q4, .int 0, .int 0])), (w1_q1, .inl (w1_c1, 1200, .inl (fun _ => 0))), (w1_q2, .inl (w1_c2, 1201, .inl (fun _ => 0))), (w1_q3, .inl (w1_c3, 1201, .inr (.inl (fun _ => 0)))), (w1_q4, .inl (w1_c4, 1201, .inl (fun _ => 0))), (q3, .inr (2, [.int 0, .int 0, .ref w3_q1, .ref w3_q3])), (w3_q1, .inr (11, [.ref w3_w1_q1, .int 0])), (w3_w1_q1, .inl (w3_w1_c1, 2400, .inl (fun _ => 0))), (w3_q3, .inr (11, [.ref w3_w3_q1, .int 0])), (w3_w3_q1, .inl (w3_w3_c1, 2400, .inl (fun _ => 0))), (q5, .inr (3, [.ref w5_q1, .ref w5_q2, .ref w5_q3, .ref w5_q4, .ref w5_q5, .ref w5_q6, .int (1 : Int32), .int (1 : Int32), .int 0, .int 0, .int 0])), (w5_q1, .inl (w5_c1, 1713, .inl (fun _ => 0))), (w5_q2, .inl (w5_c2, 1713, .inl (fun _ => 0))), (w5_q3, .inl (w5_c3, 1713, .inl (upd (fun _ => 0) 0 (-1 : Int32)))), (w5_q4, .inl (w5_c4, 1713, .inl (fun _ => 0))), (w5_q5, .inl (w5_c5, 1713, .inl (fun _ => 0))), (w5_q6, .inl (w5_c6, 3434, .inl (fun _ => 0))), (w7_q1, .inl (w7_c1, 16, .inl (fun _ => 0))), (w7_q2, .inl (w7_c2, 16, .inr (.inl (fun _ => 0)))), (w7_q3, .inl (w7_c3, 16, .inl (fun _ => 0))), (w7_q4, .inl (w7_c4, 16, .inl (fun _ => 0))), (w7_q5, .inl (w7_c5, 48, .inr (.inl (fun _ => 0)))), (w7_q6, .inl (w7_c6, 16, .inl (fun _ => 0))), (w7_q7, .inl (w7_c7, 16, .inl (fun _ => 0))), (w7_q8, .inl (w7_c8, 16, .inl (fun _ => 0))), (w7_q9, .inl (w7_c9, 16, .inl (fun _ => 0))), (w7_q10, .inl (w7_c10, 16, .inl (fun _ => 0))), (w7_q11, .inl (w7_c11, 16, .inl (fun _ => 0))), (w7_q12, .inl (w7_c12, 16, .inl (fun _ => 0))), (w7_q13, .inl (w7_c13, 48, .inl (fun _ => 0))), (w7_q14, .inl (w7_c14, 16, .inl (fun _ => 0))), (w7_q15, .inr (10, [.ref w7_w15_q1, .ref w7_w15_q2, .ref w7_w15_q3, .ref w7_w15_q4, .int 0, .ref w7_w15_q5, .ref w7_w15_q6, .int 0])), (w7_w15_q1, .inl (w7_w15_c1, 200, .inl (fun _ => 0))), (w7_w15_q2, .inl (w7_w15_c2, 200, .inr (.inl (fun _ => 0)))), (w7_w15_q3, .inl (w7_w15_c3, 200, .inl (fun _ => 0))), (w7_w15_q4, .inl (w7_w15_c4, 200, .inl (fun _ => 0))), (w7_w15_q5, .inl (w7_w15_c5, 201, .inl (fun _ => 0))), (w7_w15_q6, .inl (w7_w15_c6, 201, .inl (fun _ => 0))), (q9, .inr (5, [.ref w9_q1, .ref w9_q2, .ref w9_q3, .ref w9_q4, .ref w9_q5, .int 0])), (w9_q1, .inl (w9_c1, 600, .inl (fun _ => 0))), (w9_q2, .inl (w9_c2, 600, .inr (.inl (fun _ => 0)))), (w9_q3, .inl (w9_c3, 600, .inl (fun _ => 0))), (w9_q4, .inl (w9_c4, 600, .inl (fun _ => 0))), (w9_q5, .inl (w9_c5, 600, .inl (fun _ => 0))), (q11, .inr (10, [.ref w11_q1, .ref w11_q2, .ref w11_q3, .ref w11_q4, .int 0, .ref w11_q5, .ref w11_q6, .int 0])), (w11_q1, .inl (w11_c1, 200, .inl (fun _ => 0))), (w11_q2, .inl (w11_c2, 200, .inr (.inl (fun _ => 0)))), (w11_q3, .inl (w11_c3, 200, .inl (fun _ => 0))), (w11_q4, .inl (w11_c4, 200, .inl (fun _ => 0))), (w11_q5, .inl (w11_c5, 201, .inl (fun _ => 0))), (w11_q6, .inl (w11_c6, 201, .inl (fun _ => 0))), (q13, .inr (6, [.ref q1, .ref q7, .ref q9, .ref q5, .ref q3, .ref w7_q15, .int 0])), (q7, .inr (4, [.int 0, .ref w7_q1, .ref w7_q2, .ref w7_q3, .ref w7_q4, .ref w7_q5, .ref w7_q6, .ref w7_q7, .ref w7_q8, .ref w7_q9, .ref w7_q10, .ref w7_q11, .int 0, .ref w7_q12, .ref w7_q13, .ref w7_q14, .ref w7_q15])), (q15, .inr (7, [.ref q7, .ref q9, .ref q3, .ref w15_q1])), (w15_q1, .inl (w15_c1, 16, .inl (fun _ => 0))), (q17, .inr (8, [.ref q7, .ref q9, .ref q5, .ref q3, .ref w17_q1, .ref w17_q2, .ref w17_q3, .int 0, .ref w17_q4, .ref w17_q5, .ref w17_q6, .int 0, .ref w17_q7, .ref w17_q8, .int 0, .int 0])), (w17_q1, .inl (w17_c1, 216, .inl (fun _ => 0))), (w17_q2, .inl (w17_c2, 216, .inl (fun _ => 0))), (w17_q3, .inl (w17_c3, 216, .inl (fun _ => 0))), (w17_q4, .inl (w17_c4, 200, .inl (fun _ => 0))), (w17_q5, .inl (w17_c5, 200, .inl (fun _ => 0))), (w17_q6, .inl (w17_c6, 200, .inl (fun _ => 0))), (w17_q7, .inl (w17_c7, 200, .inr (.inl (fun _ => 0)))), (w17_q8, .inl (w17_c8, 200, .inl (fun _ => 0))), (q19, .inr (9, [.ref q7, .ref w19_q1, .ref w19_q3, .ref w19_q5, .ref w19_q7, .ref w19_q8, .ref w19_q9, .int 0, .int 0])), (w19_q1, .inr (10, [.ref w19_w1_q1, .ref w19_w1_q2, .ref w19_w1_q3, .ref w19_w1_q4, .int 0, .ref w19_w1_q5, .ref w19_w1_q6, .int 0])), (w19_w1_q1, .inl (w19_w1_c1, 200, .inl (fun _ => 0))), (w19_w1_q2, .inl (w19_w1_c2, 200, .inr (.inl (fun _ => 0)))), (w19_w1_q3, .inl (w19_w1_c3, 200, .inl (fun _ => 0))), (w19_w1_q4, .inl (w19_w1_c4, 200, .inl (fun _ => 0))), (w19_w1_q5, .inl (w19_w1_c5, 201, .inl (fun _ => 0))), (w19_w1_q6, .inl (w19_w1_c6, 201, .inl (fun _ => 0))), (w19_q3, .inr (10, [.ref w19_w3_q1, .ref w19_w3_q2, .ref w19_w3_q3, .ref w19_w3_q4, .int 0, .ref w19_w3_q5, .ref w19_w3_q6, .int 0])), (w19_w3_q1, .inl (w19_w3_c1, 200, .inl (fun _ => 0))), (w19_w3_q2, .inl (w19_w3_c2, 200, .inr (.inl (fun _ => 0)))), (w19_w3_q3, .inl (w19_w3_c3, 200, .inl (fun _ => 0))), (w19_w3_q4, .inl (w19_w3_c4, 200, .inl (fun _ => 0))), (w19_w3_q5, .inl (w19_w3_c5, 201, .inl (fun _ => 0))), (w19_w3_q6, .inl (w19_w3_c6, 201, .inl (fun _ => 0))), (w19_q5, .inr (10, [.ref w19_w5_q1, .ref w19_w5_q2, .ref w19_w5_q3, .ref w19_w5_q4, .int 0, .ref w19_w5_q5, .ref w19_w5_q6, .int 0])), (w19_w5_q1, .inl (w19_w5_c1, 200, .inl (fun _ => 0))), (w19_w5_q2, .inl (w19_w5_c2, 200, .inr (.inl (fun _ => 0)))), (w19_w5_q3, .inl (w19_w5_c3, 200, .inl (fun _ => 0))), (w19_w5_q4, .inl (w19_w5_c4, 200, .inl (fun _ => 0))), (w19_w5_q5, .inl (w19_w5_c5, 201, .inl (fun _ => 0))), (w19_w5_q6, .inl (w19_w5_c6, 201, .inl (fun _ => 0))), (w19_q7, .inl (w19_c7, 4, .inl (fun _ => 0))), (w19_q8, .inl (w19_c8, 200, .inl (fun _ => 0))), (w19_q9, .inl (w19_c9, 200, .inl (fun _ => 0))), (q21, .inr (11, [.null, .int 0]))]) (tys' := [(w1_c1, .int), (w1_c2, .int), (w1_c3, .long), (w1_c4, .int), (w3_w1_c1, .byte), (w3_w3_c1, .byte), (w5_c1, .int), (w5_c2, .int), (w5_c3, .int), (w5_c4, .int), (w5_c5, .int), (w5_c6, .int), (w7_c1, .int), (w7_c2, .long), (w7_c3, .int), (w7_c4, .int), (w7_c5, .long), (w7_c6, .int), (w7_c7, .int), (w7_c8, .int), (w7_c9, .int), (w7_c10, .int), (w7_c11, .int), (w7_c12, .int), (w7_c13, .int), (w7_c14, .int), (w7_w15_c1, .int), (w7_w15_c2, .long), (w7_w15_c3, .int), (w7_w15_c4, .int), (w7_w15_c5, .int), (w7_w15_c6, .int), (w9_c1, .int), (w9_c2, .long), (w9_c3, .int), (w9_c4, .int), (w9_c5, .int), (w11_c1, .int), (w11_c2, .long), (w11_c3, .int), (w11_c4, .int), (w11_c5, .int), (w11_c6, .int), (w15_c1, .int), (w17_c1, .int), (w17_c2, .int), (w17_c3, .int), (w17_c4, .int), (w17_c5, .int), (w17_c6, .int), (w17_c7, .long), (w17_c8, .int), (w19_w1_c1, .int), (w19_w1_c2, .long), (w19_w1_c3, .int), (w19_w1_c4, .int), (w19_w1_c5, .int), (w19_w1_c6, .int), (w19_w3_c1, .int), (w19_w3_c2, .long), (w19_w3_c3, .int), (w19_w3_c4, .int), (w19_w3_c5, .int), (w19_w3_c6, .int), (w19_w5_c1, .int), (w19_w5_c2, .long), (w19_w5_c3, .int), (w19_w5_c4, .int), (w19_w5_c5, .int), (w19_w5_c6, .int), (w19_c7, .int), (w19_c8, .int), (w19_c9, .int)]) rfl rfl ?_
  refine y_dup (pc := 170) C d_Q_init_170 rfl ?_
  refine y_ctor (pc := 171) (wc := [(q21, .inr (11, [.null, .int 0]))]) (wr := [(h, .inr (0, [.ref q1, .ref q3, .ref q5, .ref q7, .ref q9, .ref q11, .ref q13, .ref q15, .ref q17, .ref q19, .null, .null])), (q1, .inr (1, [.ref w1_q1, .int 0, .ref w1_q2, .ref w1_q3, .ref w1_q4, .int 0, .int 0])), (w1_q1, .inl (w1_c1, 1200, .inl (fun _ => 0))), (w1_q2, .inl (w1_c2, 1201, .inl (fun _ => 0))), (w1_q3, .inl (w1_c3, 1201, .inr (.inl (fun _ => 0)))), (w1_q4, .inl (w1_c4, 1201, .inl (fun _ => 0))), (q3, .inr (2, [.int 0, .int 0, .ref w3_q1, .ref w3_q3])), (w3_q1, .inr (11, [.ref w3_w1_q1, .int 0])), (w3_w1_q1, .inl (w3_w1_c1, 2400, .inl (fun _ => 0))), (w3_q3, .inr (11, [.ref w3_w3_q1, .int 0])), (w3_w3_q1, .inl (w3_w3_c1, 2400, .inl (fun _ => 0))), (q5, .inr (3, [.ref w5_q1, .ref w5_q2, .ref w5_q3, .ref w5_q4, .ref w5_q5, .ref w5_q6, .int (1 : Int32), .int (1 : Int32), .int 0, .int 0, .int 0])), (w5_q1, .inl (w5_c1, 1713, .inl (fun _ => 0))), (w5_q2, .inl (w5_c2, 1713, .inl (fun _ => 0))), (w5_q3, .inl (w5_c3, 1713, .inl (upd (fun _ => 0) 0 (-1 : Int32)))), (w5_q4, .inl (w5_c4, 1713, .inl (fun _ => 0))), (w5_q5, .inl (w5_c5, 1713, .inl (fun _ => 0))), (w5_q6, .inl (w5_c6, 3434, .inl (fun _ => 0))), (w7_q1, .inl (w7_c1, 16, .inl (fun _ => 0))), (w7_q2, .inl (w7_c2, 16, .inr (.inl (fun _ => 0)))), (w7_q3, .inl (w7_c3, 16, .inl (fun _ => 0))), (w7_q4, .inl (w7_c4, 16, .inl (fun _ => 0))), (w7_q5, .inl (w7_c5, 48, .inr (.inl (fun _ => 0)))), (w7_q6, .inl (w7_c6, 16, .inl (fun _ => 0))), (w7_q7, .inl (w7_c7, 16, .inl (fun _ => 0))), (w7_q8, .inl (w7_c8, 16, .inl (fun _ => 0))), (w7_q9, .inl (w7_c9, 16, .inl (fun _ => 0))), (w7_q10, .inl (w7_c10, 16, .inl (fun _ => 0))), (w7_q11, .inl (w7_c11, 16, .inl (fun _ => 0))), (w7_q12, .inl (w7_c12, 16, .inl (fun _ => 0))), (w7_q13, .inl (w7_c13, 48, .inl (fun _ => 0))), (w7_q14, .inl (w7_c14, 16, .inl (fun _ => 0))), (w7_q15, .inr (10, [.ref w7_w15_q1, .ref w7_w15_q2, .ref w7_w15_q3, .ref w7_w15_q4, .int 0, .ref w7_w15_q5, .ref w7_w15_q6, .int 0])), (w7_w15_q1, .inl (w7_w15_c1, 200, .inl (fun _ => 0))), (w7_w15_q2, .inl (w7_w15_c2, 200, .inr (.inl (fun _ => 0)))), (w7_w15_q3, .inl (w7_w15_c3, 200, .inl (fun _ => 0))), (w7_w15_q4, .inl (w7_w15_c4, 200, .inl (fun _ => 0))), (w7_w15_q5, .inl (w7_w15_c5, 201, .inl (fun _ => 0))), (w7_w15_q6, .inl (w7_w15_c6, 201, .inl (fun _ => 0))), (q9, .inr (5, [.ref w9_q1, .ref w9_q2, .ref w9_q3, .ref w9_q4, .ref w9_q5, .int 0])), (w9_q1, .inl (w9_c1, 600, .inl (fun _ => 0))), (w9_q2, .inl (w9_c2, 600, .inr (.inl (fun _ => 0)))), (w9_q3, .inl (w9_c3, 600, .inl (fun _ => 0))), (w9_q4, .inl (w9_c4, 600, .inl (fun _ => 0))), (w9_q5, .inl (w9_c5, 600, .inl (fun _ => 0))), (q11, .inr (10, [.ref w11_q1, .ref w11_q2, .ref w11_q3, .ref w11_q4, .int 0, .ref w11_q5, .ref w11_q6, .int 0])), (w11_q1, .inl (w11_c1, 200, .inl (fun _ => 0))), (w11_q2, .inl (w11_c2, 200, .inr (.inl (fun _ => 0)))), (w11_q3, .inl (w11_c3, 200, .inl (fun _ => 0))), (w11_q4, .inl (w11_c4, 200, .inl (fun _ => 0))), (w11_q5, .inl (w11_c5, 201, .inl (fun _ => 0))), (w11_q6, .inl (w11_c6, 201, .inl (fun _ => 0))), (q13, .inr (6, [.ref q1, .ref q7, .ref q9, .ref q5, .ref q3, .ref w7_q15, .int 0])), (q7, .inr (4, [.int 0, .ref w7_q1, .ref w7_q2, .ref w7_q3, .ref w7_q4, .ref w7_q5, .ref w7_q6, .ref w7_q7, .ref w7_q8, .ref w7_q9, .ref w7_q10, .ref w7_q11, .int 0, .ref w7_q12, .ref w7_q13, .ref w7_q14, .ref w7_q15])), (q15, .inr (7, [.ref q7, .ref q9, .ref q3, .ref w15_q1])), (w15_q1, .inl (w15_c1, 16, .inl (fun _ => 0))), (q17, .inr (8, [.ref q7, .ref q9, .ref q5, .ref q3, .ref w17_q1, .ref w17_q2, .ref w17_q3, .int 0, .ref w17_q4, .ref w17_q5, .ref w17_q6, .int 0, .ref w17_q7, .ref w17_q8, .int 0, .int 0])), (w17_q1, .inl (w17_c1, 216, .inl (fun _ => 0))), (w17_q2, .inl (w17_c2, 216, .inl (fun _ => 0))), (w17_q3, .inl (w17_c3, 216, .inl (fun _ => 0))), (w17_q4, .inl (w17_c4, 200, .inl (fun _ => 0))), (w17_q5, .inl (w17_c5, 200, .inl (fun _ => 0))), (w17_q6, .inl (w17_c6, 200, .inl (fun _ => 0))), (w17_q7, .inl (w17_c7, 200, .inr (.inl (fun _ => 0)))), (w17_q8, .inl (w17_c8, 200, .inl (fun _ => 0))), (q19, .inr (9, [.ref q7, .ref w19_q1, .ref w19_q3, .ref w19_q5, .ref w19_q7, .ref w19_q8, .ref w19_q9, .int 0, .int 0])), (w19_q1, .inr (10, [.ref w19_w1_q1, .ref w19_w1_q2, .ref w19_w1_q3, .ref w19_w1_q4, .int 0, .ref w19_w1_q5, .ref w19_w1_q6, .int 0])), (w19_w1_q1, .inl (w19_w1_c1, 200, .inl (fun _ => 0))), (w19_w1_q2, .inl (w19_w1_c2, 200, .inr (.inl (fun _ => 0)))), (w19_w1_q3, .inl (w19_w1_c3, 200, .inl (fun _ => 0))), (w19_w1_q4, .inl (w19_w1_c4, 200, .inl (fun _ => 0))), (w19_w1_q5, .inl (w19_w1_c5, 201, .inl (fun _ => 0))), (w19_w1_q6, .inl (w19_w1_c6, 201, .inl (fun _ => 0))), (w19_q3, .inr (10, [.ref w19_w3_q1, .ref w19_w3_q2, .ref w19_w3_q3, .ref w19_w3_q4, .int 0, .ref w19_w3_q5, .ref w19_w3_q6, .int 0])), (w19_w3_q1, .inl (w19_w3_c1, 200, .inl (fun _ => 0))), (w19_w3_q2, .inl (w19_w3_c2, 200, .inr (.inl (fun _ => 0)))), (w19_w3_q3, .inl (w19_w3_c3, 200, .inl (fun _ => 0))), (w19_w3_q4, .inl (w19_w3_c4, 200, .inl (fun _ => 0))), (w19_w3_q5, .inl (w19_w3_c5, 201, .inl (fun _ => 0))), (w19_w3_q6, .inl (w19_w3_c6, 201, .inl (fun _ => 0))), (w19_q5, .inr (10, [.ref w19_w5_q1, .ref w19_w5_q2, .ref w19_w5_q3, .ref w19_w5_q4, .int 0, .ref w19_w5_q5, .ref w19_w5_q6, .int 0])), (w19_w5_q1, .inl (w19_w5_c1, 200, .inl (fun _ => 0))), (w19_w5_q2, .inl (w19_w5_c2, 200, .inr (.inl (fun _ => 0)))), (w19_w5_q3, .inl (w19_w5_c3, 200, .inl (fun _ => 0))), (w19_w5_q4, .inl (w19_w5_c4, 200, .inl (fun _ => 0))), (w19_w5_q5, .inl (w19_w5_c5, 201, .inl (fun _ => 0))), (w19_w5_q6, .inl (w19_w5_c6, 201, .inl (fun _ => 0))), (w19_q7, .inl (w19_c7, 4, .inl (fun _ => 0))), (w19_q8, .inl (w19_c8, 200, .inl (fun _ => 0))), (w19_q9, .inl (w19_c9, 200, .inl (fun _ => 0)))]) C (i_Li_init (h := q21)) km_Li_init mCI_29 rfl mCI_169 [90] [0, 1, 2, 3, 4, 5, 6, 7, 8, 9, 10, 11, 12, 13, 14, 15, 16, 17, 18, 19, 20, 21, 22, 23, 24, 25, 26, 27, 28, 29, 30, 31, 32, 33, 34, 35, 36, 37, 38, 39, 40, 41, 42, 43, 44, 45, 46, 47, 48, 49, 50, 51, 52, 53, 54, 55, 56, 57, 58, 59, 60, 61, 62, 63, 64, 65, 66, 67, 68, 69, 70, 71, 72, 73, 74, 75, 76, 77, 78, 79, 80, 81, 82, 83, 84, 85, 86, 87, 88, 89] rfl rfl rfl rfl rfl (by decide) rfl (rmN_of (Nat.le_of_ble_eq_true rfl) (Nat.le_of_ble_eq_true rfl)) ⟨Nat.le_of_ble_eq_true rfl, Nat.le_of_ble_eq_true rfl⟩ rfl (Nat.le_of_ble_eq_true rfl) d_Q_init_171 (fun w t hwt => ?_)
  obtain ⟨w21_q1, w21_c1, rfl, rfl⟩ := hwt
  refine y_ws (ws' := [(h, .inr (0, [.ref q1, .ref q3, .ref q5, .ref q7, .ref q9, .ref q11, .ref q13, .ref q15, .ref q17, .ref q19, .null, .null])), (q1, .inr (1, [.ref w1_q1, .int 0, .ref w1_q2, .ref w1_q3, .ref w1_q4, .int 0, .int 0])), (w1_q1, .inl (w1_c1, 1200, .inl (fun _ => 0))), (w1_q2, .inl (w1_c2, 1201, .inl (fun _ => 0))), (w1_q3, .inl (w1_c3, 1201, .inr (.inl (fun _ => 0)))), (w1_q4, .inl (w1_c4, 1201, .inl (fun _ => 0))), (q3, .inr (2, [.int 0, .int 0, .ref w3_q1, .ref w3_q3])), (w3_q1, .inr (11, [.ref w3_w1_q1, .int 0])), (w3_w1_q1, .inl (w3_w1_c1, 2400, .inl (fun _ => 0))), (w3_q3, .inr (11, [.ref w3_w3_q1, .int 0])), (w3_w3_q1, .inl (w3_w3_c1, 2400, .inl (fun _ => 0))), (q5, .inr (3, [.ref w5_q1, .ref w5_q2, .ref w5_q3, .ref w5_q4, .ref w5_q5, .ref w5_q6, .int (1 : Int32), .int (1 : Int32), .int 0, .int 0, .int 0])), (w5_q1, .inl (w5_c1, 1713, .inl (fun _ => 0))), (w5_q2, .inl (w5_c2, 1713, .inl (fun _ => 0))), (w5_q3, .inl (w5_c3, 1713, .inl (upd (fun _ => 0) 0 (-1 : Int32)))), (w5_q4, .inl (w5_c4, 1713, .inl (fun _ => 0))), (w5_q5, .inl (w5_c5, 1713, .inl (fun _ => 0))), (w5_q6, .inl (w5_c6, 3434, .inl (fun _ => 0))), (w7_q1, .inl (w7_c1, 16, .inl (fun _ => 0))), (w7_q2, .inl (w7_c2, 16, .inr (.inl (fun _ => 0)))), (w7_q3, .inl (w7_c3, 16, .inl (fun _ => 0))), (w7_q4, .inl (w7_c4, 16, .inl (fun _ => 0))), (w7_q5, .inl (w7_c5, 48, .inr (.inl (fun _ => 0)))), (w7_q6, .inl (w7_c6, 16, .inl (fun _ => 0))), (w7_q7, .inl (w7_c7, 16, .inl (fun _ => 0))), (w7_q8, .inl (w7_c8, 16, .inl (fun _ => 0))), (w7_q9, .inl (w7_c9, 16, .inl (fun _ => 0))), (w7_q10, .inl (w7_c10, 16, .inl (fun _ => 0))), (w7_q11, .inl (w7_c11, 16, .inl (fun _ => 0))), (w7_q12, .inl (w7_c12, 16, .inl (fun _ => 0))), (w7_q13, .inl (w7_c13, 48, .inl (fun _ => 0))), (w7_q14, .inl (w7_c14, 16, .inl (fun _ => 0))), (w7_q15, .inr (10, [.ref w7_w15_q1, .ref w7_w15_q2, .ref w7_w15_q3, .ref w7_w15_q4, .int 0, .ref w7_w15_q5, .ref w7_w15_q6, .int 0])), (w7_w15_q1, .inl (w7_w15_c1, 200, .inl (fun _ => 0))), (w7_w15_q2, .inl (w7_w15_c2, 200, .inr (.inl (fun _ => 0)))), (w7_w15_q3, .inl (w7_w15_c3, 200, .inl (fun _ => 0))), (w7_w15_q4, .inl (w7_w15_c4, 200, .inl (fun _ => 0))), (w7_w15_q5, .inl (w7_w15_c5, 201, .inl (fun _ => 0))), (w7_w15_q6, .inl (w7_w15_c6, 201, .inl (fun _ => 0))), (q9, .inr (5, [.ref w9_q1, .ref w9_q2, .ref w9_q3, .ref w9_q4, .ref w9_q5, .int 0])), (w9_q1, .inl (w9_c1, 600, .inl (fun _ => 0))), (w9_q2, .inl (w9_c2, 600, .inr (.inl (fun _ => 0)))), (w9_q3, .inl (w9_c3, 600, .inl (fun _ => 0))), (w9_q4, .inl (w9_c4, 600, .inl (fun _ => 0))), (w9_q5, .inl (w9_c5, 600, .inl (fun _ => 0))), (q11, .inr (10, [.ref w11_q1, .ref w11_q2, .ref w11_q3, .ref w11_q4, .int 0, .ref w11_q5, .ref w11_q6, .int 0])), (w11_q1, .inl (w11_c1, 200, .inl (fun _ => 0))), (w11_q2, .inl (w11_c2, 200, .inr (.inl (fun _ => 0)))), (w11_q3, .inl (w11_c3, 200, .inl (fun _ => 0))), (w11_q4, .inl (w11_c4, 200, .inl (fun _ => 0))), (w11_q5, .inl (w11_c5, 201, .inl (fun _ => 0))), (w11_q6, .inl (w11_c6, 201, .inl (fun _ => 0))), (q13, .inr (6, [.ref q1, .ref q7, .ref q9, .ref q5, .ref q3, .ref w7_q15, .int 0])), (q7, .inr (4, [.int 0, .ref w7_q1, .ref w7_q2, .ref w7_q3, .ref w7_q4, .ref w7_q5, .ref w7_q6, .ref w7_q7, .ref w7_q8, .ref w7_q9, .ref w7_q10, .ref w7_q11, .int 0, .ref w7_q12, .ref w7_q13, .ref w7_q14, .ref w7_q15])), (q15, .inr (7, [.ref q7, .ref q9, .ref q3, .ref w15_q1])), (w15_q1, .inl (w15_c1, 16, .inl (fun _ => 0))), (q17, .inr (8, [.ref q7, .ref q9, .ref q5, .ref q3, .ref w17_q1, .ref w17_q2, .ref w17_q3, .int 0, .ref w17_q4, .ref w17_q5, .ref w17_q6, .int 0, .ref w17_q7, .ref w17_q8, .int 0, .int 0])), (w17_q1, .inl (w17_c1, 216, .inl (fun _ => 0))), (w17_q2, .inl (w17_c2, 216, .inl (fun _ => 0))), (w17_q3, .inl (w17_c3, 216, .inl (fun _ => 0))), (w17_q4, .inl (w17_c4, 200, .inl (fun _ => 0))), (w17_q5, .inl (w17_c5, 200, .inl (fun _ => 0))), (w17_q6, .inl (w17_c6, 200, .inl (fun _ => 0))), (w17_q7, .inl (w17_c7, 200, .inr (.inl (fun _ => 0)))), (w17_q8, .inl (w17_c8, 200, .inl (fun _ => 0))), (q19, .inr (9, [.ref q7, .ref w19_q1, .ref w19_q3, .ref w19_q5, .ref w19_q7, .ref w19_q8, .ref w19_q9, .int 0, .int 0])), (w19_q1, .inr (10, [.ref w19_w1_q1, .ref w19_w1_q2, .ref w19_w1_q3, .ref w19_w1_q4, .int 0, .ref w19_w1_q5, .ref w19_w1_q6, .int 0])), (w19_w1_q1, .inl (w19_w1_c1, 200, .inl (fun _ => 0))), (w19_w1_q2, .inl (w19_w1_c2, 200, .inr (.inl (fun _ => 0)))), (w19_w1_q3, .inl (w19_w1_c3, 200, .inl (fun _ => 0))), (w19_w1_q4, .inl (w19_w1_c4, 200, .inl (fun _ => 0))), (w19_w1_q5, .inl (w19_w1_c5, 201, .inl (fun _ => 0))), (w19_w1_q6, .inl (w19_w1_c6, 201, .inl (fun _ => 0))), (w19_q3, .inr (10, [.ref w19_w3_q1, .ref w19_w3_q2, .ref w19_w3_q3, .ref w19_w3_q4, .int 0, .ref w19_w3_q5, .ref w19_w3_q6, .int 0])), (w19_w3_q1, .inl (w19_w3_c1, 200, .inl (fun _ => 0))), (w19_w3_q2, .inl (w19_w3_c2, 200, .inr (.inl (fun _ => 0)))), (w19_w3_q3, .inl (w19_w3_c3, 200, .inl (fun _ => 0))), (w19_w3_q4, .inl (w19_w3_c4, 200, .inl (fun _ => 0))), (w19_w3_q5, .inl (w19_w3_c5, 201, .inl (fun _ => 0))), (w19_w3_q6, .inl (w19_w3_c6, 201, .inl (fun _ => 0))), (w19_q5, .inr (10, [.ref w19_w5_q1, .ref w19_w5_q2, .ref w19_w5_q3, .ref w19_w5_q4, .int 0, .ref w19_w5_q5, .ref w19_w5_q6, .int 0])), (w19_w5_q1, .inl (w19_w5_c1, 200, .inl (fun _ => 0))), (w19_w5_q2, .inl (w19_w5_c2, 200, .inr (.inl (fun _ => 0)))), (w19_w5_q3, .inl (w19_w5_c3, 200, .inl (fun _ => 0))), (w19_w5_q4, .inl (w19_w5_c4, 200, .inl (fun _ => 0))), (w19_w5_q5, .inl (w19_w5_c5, 201, .inl (fun _ => 0))), (w19_w5_q6, .inl (w19_w5_c6, 201, .inl (fun _ => 0))), (w19_q7, .inl (w19_c7, 4, .inl (fun _ => 0))), (w19_q8, .inl (w19_c8, 200, .inl (fun _ => 0))), (w19_q9, .inl (w19_c9, 200, .inl (fun _ => 0))), (q21, .inr (11, [.ref w21_q1, .int 0])), (w21_q1, .inl (w21_c1, 2400, .inl (fun _ => 0)))]) (tys' := [(w1_c1, .int), (w1_c2, .int), (w1_c3, .long), (w1_c4, .int), (w3_w1_c1, .byte), (w3_w3_c1, .byte), (w5_c1, .int), (w5_c2, .int), (w5_c3, .int), (w5_c4, .int), (w5_c5, .int), (w5_c6, .int), (w7_c1, .int), (w7_c2, .long), (w7_c3, .int), (w7_c4, .int), (w7_c5, .long), (w7_c6, .int), (w7_c7, .int), (w7_c8, .int), (w7_c9, .int), (w7_c10, .int), (w7_c11, .int), (w7_c12, .int), (w7_c13, .int), (w7_c14, .int), (w7_w15_c1, .int), (w7_w15_c2, .long), (w7_w15_c3, .int), (w7_w15_c4, .int), (w7_w15_c5, .int), (w7_w15_c6, .int), (w9_c1, .int), (w9_c2, .long), (w9_c3, .int), (w9_c4, .int), (w9_c5, .int), (w11_c1, .int), (w11_c2, .long), (w11_c3, .int), (w11_c4, .int), (w11_c5, .int), (w11_c6, .int), (w15_c1, .int), (w17_c1, .int), (w17_c2, .int), (w17_c3, .int), (w17_c4, .int), (w17_c5, .int), (w17_c6, .int), (w17_c7, .long), (w17_c8, .int), (w19_w1_c1, .int), (w19_w1_c2, .long), (w19_w1_c3, .int), (w19_w1_c4, .int), (w19_w1_c5, .int), (w19_w1_c6, .int), (w19_w3_c1, .int), (w19_w3_c2, .long), (w19_w3_c3, .int), (w19_w3_c4, .int), (w19_w3_c5, .int), (w19_w3_c6, .int), (w19_w5_c1, .int), (w19_w5_c2, .long), (w19_w5_c3, .int), (w19_w5_c4, .int), (w19_w5_c5, .int), (w19_w5_c6, .int), (w19_c7, .int), (w19_c8, .int), (w19_c9, .int), (w21_c1, .byte)]) rfl rfl ?_
  refine y_put (pc := 174) (q0 := 0) (v := .ref q21) (ty := .object "KindRounds$Line") (ws' := [(h, .inr (0, [.ref q1, .ref q3, .ref q5, .ref q7, .ref q9, .ref q11, .ref q13, .ref q15, .ref q17, .ref q19, .ref q21, .null])), (q1, .inr (1, [.ref w1_q1, .int 0, .ref w1_q2, .ref w1_q3, .ref w1_q4, .int 0, .int 0])), (w1_q1, .inl (w1_c1, 1200, .inl (fun _ => 0))), (w1_q2, .inl (w1_c2, 1201, .inl (fun _ => 0))), (w1_q3, .inl (w1_c3, 1201, .inr (.inl (fun _ => 0)))), (w1_q4, .inl (w1_c4, 1201, .inl (fun _ => 0))), (q3, .inr (2, [.int 0, .int 0, .ref w3_q1, .ref w3_q3])), (w3_q1, .inr (11, [.ref w3_w1_q1, .int 0])), (w3_w1_q1, .inl (w3_w1_c1, 2400, .inl (fun _ => 0))), (w3_q3, .inr (11, [.ref w3_w3_q1, .int 0])), (w3_w3_q1, .inl (w3_w3_c1, 2400, .inl (fun _ => 0))), (q5, .inr (3, [.ref w5_q1, .ref w5_q2, .ref w5_q3, .ref w5_q4, .ref w5_q5, .ref w5_q6, .int (1 : Int32), .int (1 : Int32), .int 0, .int 0, .int 0])), (w5_q1, .inl (w5_c1, 1713, .inl (fun _ => 0))), (w5_q2, .inl (w5_c2, 1713, .inl (fun _ => 0))), (w5_q3, .inl (w5_c3, 1713, .inl (upd (fun _ => 0) 0 (-1 : Int32)))), (w5_q4, .inl (w5_c4, 1713, .inl (fun _ => 0))), (w5_q5, .inl (w5_c5, 1713, .inl (fun _ => 0))), (w5_q6, .inl (w5_c6, 3434, .inl (fun _ => 0))), (w7_q1, .inl (w7_c1, 16, .inl (fun _ => 0))), (w7_q2, .inl (w7_c2, 16, .inr (.inl (fun _ => 0)))), (w7_q3, .inl (w7_c3, 16, .inl (fun _ => 0))), (w7_q4, .inl (w7_c4, 16, .inl (fun _ => 0))), (w7_q5, .inl (w7_c5, 48, .inr (.inl (fun _ => 0)))), (w7_q6, .inl (w7_c6, 16, .inl (fun _ => 0))), (w7_q7, .inl (w7_c7, 16, .inl (fun _ => 0))), (w7_q8, .inl (w7_c8, 16, .inl (fun _ => 0))), (w7_q9, .inl (w7_c9, 16, .inl (fun _ => 0))), (w7_q10, .inl (w7_c10, 16, .inl (fun _ => 0))), (w7_q11, .inl (w7_c11, 16, .inl (fun _ => 0))), (w7_q12, .inl (w7_c12, 16, .inl (fun _ => 0))), (w7_q13, .inl (w7_c13, 48, .inl (fun _ => 0))), (w7_q14, .inl (w7_c14, 16, .inl (fun _ => 0))), (w7_q15, .inr (10, [.ref w7_w15_q1, .ref w7_w15_q2, .ref w7_w15_q3, .ref w7_w15_q4, .int 0, .ref w7_w15_q5, .ref w7_w15_q6, .int 0])), (w7_w15_q1, .inl (w7_w15_c1, 200, .inl (fun _ => 0))), (w7_w15_q2, .inl (w7_w15_c2, 200, .inr (.inl (fun _ => 0)))), (w7_w15_q3, .inl (w7_w15_c3, 200, .inl (fun _ => 0))), (w7_w15_q4, .inl (w7_w15_c4, 200, .inl (fun _ => 0))), (w7_w15_q5, .inl (w7_w15_c5, 201, .inl (fun _ => 0))), (w7_w15_q6, .inl (w7_w15_c6, 201, .inl (fun _ => 0))), (q9, .inr (5, [.ref w9_q1, .ref w9_q2, .ref w9_q3, .ref w9_q4, .ref w9_q5, .int 0])), (w9_q1, .inl (w9_c1, 600, .inl (fun _ => 0))), (w9_q2, .inl (w9_c2, 600, .inr (.inl (fun _ => 0)))), (w9_q3, .inl (w9_c3, 600, .inl (fun _ => 0))), (w9_q4, .inl (w9_c4, 600, .inl (fun _ => 0))), (w9_q5, .inl (w9_c5, 600, .inl (fun _ => 0))), (q11, .inr (10, [.ref w11_q1, .ref w11_q2, .ref w11_q3, .ref w11_q4, .int 0, .ref w11_q5, .ref w11_q6, .int 0])), (w11_q1, .inl (w11_c1, 200, .inl (fun _ => 0))), (w11_q2, .inl (w11_c2, 200, .inr (.inl (fun _ => 0)))), (w11_q3, .inl (w11_c3, 200, .inl (fun _ => 0))), (w11_q4, .inl (w11_c4, 200, .inl (fun _ => 0))), (w11_q5, .inl (w11_c5, 201, .inl (fun _ => 0))), (w11_q6, .inl (w11_c6, 201, .inl (fun _ => 0))), (q13, .inr (6, [.ref q1, .ref q7, .ref q9, .ref q5, .ref q3, .ref w7_q15, .int 0])), (q7, .inr (4, [.int 0, .ref w7_q1, .ref w7_q2, .ref w7_q3, .ref w7_q4, .ref w7_q5, .ref w7_q6, .ref w7_q7, .ref w7_q8, .ref w7_q9, .ref w7_q10, .ref w7_q11, .int 0, .ref w7_q12, .ref w7_q13, .ref w7_q14, .ref w7_q15])), (q15, .inr (7, [.ref q7, .ref q9, .ref q3, .ref w15_q1])), (w15_q1, .inl (w15_c1, 16, .inl (fun _ => 0))), (q17, .inr (8, [.ref q7, .ref q9, .ref q5, .ref q3, .ref w17_q1, .ref w17_q2, .ref w17_q3, .int 0, .ref w17_q4, .ref w17_q5, .ref w17_q6, .int 0, .ref w17_q7, .ref w17_q8, .int 0, .int 0])), (w17_q1, .inl (w17_c1, 216, .inl (fun _ => 0))), (w17_q2, .inl (w17_c2, 216, .inl (fun _ => 0))), (w17_q3, .inl (w17_c3, 216, .inl (fun _ => 0))), (w17_q4, .inl (w17_c4, 200, .inl (fun _ => 0))), (w17_q5, .inl (w17_c5, 200, .inl (fun _ => 0))), (w17_q6, .inl (w17_c6, 200, .inl (fun _ => 0))), (w17_q7, .inl (w17_c7, 200, .inr (.inl (fun _ => 0)))), (w17_q8, .inl (w17_c8, 200, .inl (fun _ => 0))), (q19, .inr (9, [.ref q7, .ref w19_q1, .ref w19_q3, .ref w19_q5, .ref w19_q7, .ref w19_q8, .ref w19_q9, .int 0, .int 0])), (w19_q1, .inr (10, [.ref w19_w1_q1, .ref w19_w1_q2, .ref w19_w1_q3, .ref w19_w1_q4, .int 0, .ref w19_w1_q5, .ref w19_w1_q6, .int 0])), (w19_w1_q1, .inl (w19_w1_c1, 200, .inl (fun _ => 0))), (w19_w1_q2, .inl (w19_w1_c2, 200, .inr (.inl (fun _ => 0)))), (w19_w1_q3, .inl (w19_w1_c3, 200, .inl (fun _ => 0))), (w19_w1_q4, .inl (w19_w1_c4, 200, .inl (fun _ => 0))), (w19_w1_q5, .inl (w19_w1_c5, 201, .inl (fun _ => 0))), (w19_w1_q6, .inl (w19_w1_c6, 201, .inl (fun _ => 0))), (w19_q3, .inr (10, [.ref w19_w3_q1, .ref w19_w3_q2, .ref w19_w3_q3, .ref w19_w3_q4, .int 0, .ref w19_w3_q5, .ref w19_w3_q6, .int 0])), (w19_w3_q1, .inl (w19_w3_c1, 200, .inl (fun _ => 0))), (w19_w3_q2, .inl (w19_w3_c2, 200, .inr (.inl (fun _ => 0)))), (w19_w3_q3, .inl (w19_w3_c3, 200, .inl (fun _ => 0))), (w19_w3_q4, .inl (w19_w3_c4, 200, .inl (fun _ => 0))), (w19_w3_q5, .inl (w19_w3_c5, 201, .inl (fun _ => 0))), (w19_w3_q6, .inl (w19_w3_c6, 201, .inl (fun _ => 0))), (w19_q5, .inr (10, [.ref w19_w5_q1, .ref w19_w5_q2, .ref w19_w5_q3, .ref w19_w5_q4, .int 0, .ref w19_w5_q5, .ref w19_w5_q6, .int 0])), (w19_w5_q1, .inl (w19_w5_c1, 200, .inl (fun _ => 0))), (w19_w5_q2, .inl (w19_w5_c2, 200, .inr (.inl (fun _ => 0)))), (w19_w5_q3, .inl (w19_w5_c3, 200, .inl (fun _ => 0))), (w19_w5_q4, .inl (w19_w5_c4, 200, .inl (fun _ => 0))), (w19_w5_q5, .inl (w19_w5_c5, 201, .inl (fun _ => 0))), (w19_w5_q6, .inl (w19_w5_c6, 201, .inl (fun _ => 0))), (w19_q7, .inl (w19_c7, 4, .inl (fun _ => 0))), (w19_q8, .inl (w19_c8, 200, .inl (fun _ => 0))), (w19_q9, .inl (w19_c9, 200, .inl (fun _ => 0))), (q21, .inr (11, [.ref w21_q1, .int 0])), (w21_q1, .inl (w21_c1, 2400, .inl (fun _ => 0)))]) C 10 mCI_170 i_Q t_Q t_Q_ok n_Q rfl rfl (Nat.le_of_ble_eq_true rfl) rfl rfl rfl rfl rfl (Nat.le_of_ble_eq_true rfl) rfl d_Q_init_174 ?_
  refine y_aload_n (pc := 177) C d_Q_init_177 rfl 0 rfl ?_
  refine y_new (pc := 178) (ci := 11) (fs := [.null, .int 0]) C i_Li t_Li t_Li_ok mCI_168 mCI_27 mCI_6 rfl df_Li (Nat.le_of_ble_eq_true rfl) (Nat.le_of_ble_eq_true rfl) d_Q_init_178 (fun q23 => ?_)
  refine y_ws (ws' := [(h, .inr (0, [.ref q1, .ref q3, .ref q5, .ref q7, .ref q9, .ref q11, .ref q13, .ref q15, .ref q17, .ref q19, .ref q21, .null])), (q1, .inr (1, [.ref w1_q1, .int 0, .ref w1_q2, .ref w1_q3, .ref w1_q4, .int 0, .int 0])), (w1_q1, .inl (w1_c1, 1200, .inl (fun _ => 0))), (w1_q2, .inl (w1_c2, 1201, .inl (fun _ => 0))), (w1_q3, .inl (w1_c3, 1201, .inr (.inl (fun _ => 0)))), (w1_q4, .inl (w1_c4, 1201, .inl (fun _ => 0))), (q3, .inr (2, [.int 0, .int 0, .ref w3_q1, .ref w3_q3])), (w3_q1, .inr (11, [.ref w3_w1_q1, .int 0])), (w3_w1_q1, .inl (w3_w1_c1, 2400, .inl (fun _ => 0))), (w3_q3, .inr (11, [.ref w3_w3_q1, .int 0])), (w3_w3_q1, .inl (w3_w3_c1, 2400, .inl (fun _ => 0))), (q5, .inr (3, [.ref w5_q1, .ref w5_q2, .ref w5_q3, .ref w5_q4, .ref w5_q5, .ref w5_q6, .int (1 : Int32), .int (1 : Int32), .int 0, .int 0, .int 0])), (w5_q1, .inl (w5_c1, 1713, .inl (fun _ => 0))), (w5_q2, .inl (w5_c2, 1713, .inl (fun _ => 0))), (w5_q3, .inl (w5_c3, 1713, .inl (upd (fun _ => 0) 0 (-1 : Int32)))), (w5_q4, .inl (w5_c4, 1713, .inl (fun _ => 0))), (w5_q5, .inl (w5_c5, 1713, .inl (fun _ => 0))), (w5_q6, .inl (w5_c6, 3434, .inl (fun _ => 0))), (w7_q1, .inl (w7_c1, 16, .inl (fun _ => 0))), (w7_q2, .inl (w7_c2, 16, .inr (.inl (fun _ => 0)))), (w7_q3, .inl (w7_c3, 16, .inl (fun _ => 0))), (w7_q4, .inl (w7_c4, 16, .inl (fun _ => 0))), (w7_q5, .inl (w7_c5, 48, .inr (.inl (fun _ => 0)))), (w7_q6, .inl (w7_c6, 16, .inl (fun _ => 0))), (w7_q7, .inl (w7_c7, 16, .inl (fun _ => 0))), (w7_q8, .inl (w7_c8, 16, .inl (fun _ => 0))), (w7_q9, .inl (w7_c9, 16, .inl (fun _ => 0))), (w7_q10, .inl (w7_c10, 16, .inl (fun _ => 0))), (w7_q11, .inl (w7_c11, 16, .inl (fun _ => 0))), (w7_q12, .inl (w7_c12, 16, .inl (fun _ => 0))), (w7_q13, .inl (w7_c13, 48, .inl (fun _ => 0))), (w7_q14, .inl (w7_c14, 16, .inl (fun _ => 0))), (w7_q15, .inr (10, [.ref w7_w15_q1, .ref w7_w15_q2, .ref w7_w15_q3, .ref w7_w15_q4, .int 0, .ref w7_w15_q5, .ref w7_w15_q6, .int 0])), (w7_w15_q1, .inl (w7_w15_c1, 200, .inl (fun _ => 0))), (w7_w15_q2, .inl (w7_w15_c2, 200, .inr (.inl (fun _ => 0)))), (w7_w15_q3, .inl (w7_w15_c3, 200, .inl (fun _ => 0))), (w7_w15_q4, .inl (w7_w15_c4, 200, .inl (fun _ => 0))), (w7_w15_q5, .inl (w7_w15_c5, 201, .inl (fun _ => 0))), (w7_w15_q6, .inl (w7_w15_c6, 201, .inl (fun _ => 0))), (q9, .inr (5, [.ref w9_q1, .ref w9_q2, .ref w9_q3, .ref w9_q4, .ref w9_q5, .int 0])), (w9_q1, .inl (w9_c1, 600, .inl (fun _ => 0))), (w9_q2, .inl (w9_c2, 600, .inr (.inl (fun _ => 0)))), (w9_q3, .inl (w9_c3, 600, .inl (fun _ => 0))), (w9_q4, .inl (w9_c4, 600, .inl (fun _ => 0))), (w9_q5, .inl (w9_c5, 600, .inl (fun _ => 0))), (q11, .inr (10, [.ref w11_q1, .ref w11_q2, .ref w11_q3, .ref w11_q4, .int 0, .ref w11_q5, .ref w11_q6, .int 0])), (w11_q1, .inl (w11_c1, 200, .inl (fun _ => 0))), (w11_q2, .inl (w11_c2, 200, .inr (.inl (fun _ => 0)))), (w11_q3, .inl (w11_c3, 200, .inl (fun _ => 0))), (w11_q4, .inl (w11_c4, 200, .inl (fun _ => 0))), (w11_q5, .inl (w11_c5, 201, .inl (fun _ => 0))), (w11_q6, .inl (w11_c6, 201, .inl (fun _ => 0))), (q13, .inr (6, [.ref q1, .ref q7, .ref q9, .ref q5, .ref q3, .ref w7_q15, .int 0])), (q7, .inr (4, [.int 0, .ref w7_q1, .ref w7_q2, .ref w7_q3, .ref w7_q4, .ref w7_q5, .ref w7_q6, .ref w7_q7, .ref w7_q8, .ref w7_q9, .ref w7_q10, .ref w7_q11, .int 0, .ref w7_q12, .ref w7_q13, .ref w7_q14, .ref w7_q15])), (q15, .inr (7, [.ref q7, .ref q9, .ref q3, .ref w15_q1])), (w15_q1, .inl (w15_c1, 16, .inl (fun _ => 0))), (q17, .inr (8, [.ref q7, .ref q9, .ref q5, .ref q3, .ref w17_q1, .ref w17_q2, .ref w17_q3, .int 0, .ref w17_q4, .ref w17_q5, .ref w17_q6, .int 0, .ref w17_q7, .ref w17_q8, .int 0, .int 0])), (w17_q1, .inl (w17_c1, 216, .inl (fun _ => 0))), (w17_q2, .inl (w17_c2, 216, .inl (fun _ => 0))), (w17_q3, .inl (w17_c3, 216, .inl (fun _ => 0))), (w17_q4, .inl (w17_c4, 200, .inl (fun _ => 0))), (w17_q5, .inl (w17_c5, 200, .inl (fun _ => 0))), (w17_q6, .inl (w17_c6, 200, .inl (fun _ => 0))), (w17_q7, .inl (w17_c7, 200, .inr (.inl (fun _ => 0)))), (w17_q8, .inl (w17_c8, 200, .inl (fun _ => 0))), (q19, .inr (9, [.ref q7, .ref w19_q1, .ref w19_q3, .ref w19_q5, .ref w19_q7, .ref w19_q8, .ref w19_q9, .int 0, .int 0])), (w19_q1, .inr (10, [.ref w19_w1_q1, .ref w19_w1_q2, .ref w19_w1_q3, .ref w19_w1_q4, .int 0, .ref w19_w1_q5, .ref w19_w1_q6, .int 0])), (w19_w1_q1, .inl (w19_w1_c1, 200, .inl (fun _ => 0))), (w19_w1_q2, .inl (w19_w1_c2, 200, .inr (.inl (fun _ => 0)))), (w19_w1_q3, .inl (w19_w1_c3, 200, .inl (fun _ => 0))), (w19_w1_q4, .inl (w19_w1_c4, 200, .inl (fun _ => 0))), (w19_w1_q5, .inl (w19_w1_c5, 201, .inl (fun _ => 0))), (w19_w1_q6, .inl (w19_w1_c6, 201, .inl (fun _ => 0))), (w19_q3, .inr (10, [.ref w19_w3_q1, .ref w19_w3_q2, .ref w19_w3_q3, .ref w19_w3_q4, .int 0, .ref w19_w3_q5, .ref w19_w3_q6, .int 0])), (w19_w3_q1, .inl (w19_w3_c1, 200, .inl (fun _ => 0))), (w19_w3_q2, .inl (w19_w3_c2, 200, .inr (.inl (fun _ => 0)))), (w19_w3_q3, .inl (w19_w3_c3, 200, .inl (fun _ => 0))), (w19_w3_q4, .inl (w19_w3_c4, 200, .inl (fun _ => 0))), (w19_w3_q5, .inl (w19_w3_c5, 201, .inl (fun _ => 0))), (w19_w3_q6, .inl (w19_w3_c6, 201, .inl (fun _ => 0))), (w19_q5, .inr (10, [.ref w19_w5_q1, .ref w19_w5_q2, .ref w19_w5_q3, .ref w19_w5_q4, .int 0, .ref w19_w5_q5, .ref w19_w5_q6, .int 0])), (w19_w5_q1, .inl (w19_w5_c1, 200, .inl (fun _ => 0))), (w19_w5_q2, .inl (w19_w5_c2, 200, .inr (.inl (fun _ => 0)))), (w19_w5_q3, .inl (w19_w5_c3, 200, .inl (fun _ => 0))), (w19_w5_q4, .inl (w19_w5_c4, 200, .inl (fun _ => 0))), (w19_w5_q5, .inl (w19_w5_c5, 201, .inl (fun _ => 0))), (w19_w5_q6, .inl (w19_w5_c6, 201, .inl (fun _ => 0))), (w19_q7, .inl (w19_c7, 4, .inl (fun _ => 0))), (w19_q8, .inl (w19_c8, 200, .inl (fun _ => 0))), (w19_q9, .inl (w19_c9, 200, .inl (fun _ => 0))), (q21, .inr (11, [.ref w21_q1, .int 0])), (w21_q1, .inl (w21_c1, 2400, .inl (fun _ => 0))), (q23, .inr (11, [.null, .int 0]))]) (tys' := [(w1_c1, .int), (w1_c2, .int), (w1_c3, .long), (w1_c4, .int), (w3_w1_c1, .byte), (w3_w3_c1, .byte), (w5_c1, .int), (w5_c2, .int), (w5_c3, .int), (w5_c4, .int), (w5_c5, .int), (w5_c6, .int), (w7_c1, .int), (w7_c2, .long), (w7_c3, .int), (w7_c4, .int), (w7_c5, .long), (w7_c6, .int), (w7_c7, .int), (w7_c8, .int), (w7_c9, .int), (w7_c10, .int), (w7_c11, .int), (w7_c12, .int), (w7_c13, .int), (w7_c14, .int), (w7_w15_c1, .int), (w7_w15_c2, .long), (w7_w15_c3, .int), (w7_w15_c4, .int), (w7_w15_c5, .int), (w7_w15_c6, .int), (w9_c1, .int), (w9_c2, .long), (w9_c3, .int), (w9_c4, .int), (w9_c5, .int), (w11_c1, .int), (w11_c2, .long), (w11_c3, .int), (w11_c4, .int), (w11_c5, .int), (w11_c6, .int), (w15_c1, .int), (w17_c1, .int), (w17_c2, .int), (w17_c3, .int), (w17_c4, .int), (w17_c5, .int), (w17_c6, .int), (w17_c7, .long), (w17_c8, .int), (w19_w1_c1, .int), (w19_w1_c2, .long), (w19_w1_c3, .int), (w19_w1_c4, .int), (w19_w1_c5, .int), (w19_w1_c6, .int), (w19_w3_c1, .int), (w19_w3_c2, .long), (w19_w3_c3, .int), (w19_w3_c4, .int), (w19_w3_c5, .int), (w19_w3_c6, .int), (w19_w5_c1, .int), (w19_w5_c2, .long), (w19_w5_c3, .int), (w19_w5_c4, .int), (w19_w5_c5, .int), (w19_w5_c6, .int), (w19_c7, .int), (w19_c8, .int), (w19_c9, .int), (w21_c1, .byte)]) rfl rfl ?_
  refine y_dup (pc := 181) C d_Q_init_181 rfl ?_
  refine y_ctor (pc := 182) (wc := [(q23, .inr (11, [.null, .int 0]))]) (wr := [(h, .inr (0, [.ref q1, .ref q3, .ref q5, .ref q7, .ref q9, .ref q11, .ref q13, .ref q15, .ref q17, .ref q19, .ref q21, .null])), (q1, .inr (1, [.ref w1_q1, .int 0, .ref w1_q2, .ref w1_q3, .ref w1_q4, .int 0, .int 0])), (w1_q1, .inl (w1_c1, 1200, .inl (fun _ => 0))), (w1_q2, .inl (w1_c2, 1201, .inl (fun _ => 0))), (w1_q3, .inl (w1_c3, 1201, .inr (.inl (fun _ => 0)))), (w1_q4, .inl (w1_c4, 1201, .inl (fun _ => 0))), (q3, .inr (2, [.int 0, .int 0, .ref w3_q1, .ref w3_q3])), (w3_q1, .inr (11, [.ref w3_w1_q1, .int 0])), (w3_w1_q1, .inl (w3_w1_c1, 2400, .inl (fun _ => 0))), (w3_q3, .inr (11, [.ref w3_w3_q1, .int 0])), (w3_w3_q1, .inl (w3_w3_c1, 2400, .inl (fun _ => 0))), (q5, .inr (3, [.ref w5_q1, .ref w5_q2, .ref w5_q3, .ref w5_q4, .ref w5_q5, .ref w5_q6, .int (1 : Int32), .int (1 : Int32), .int 0, .int 0, .int 0])), (w5_q1, .inl (w5_c1, 1713, .inl (fun _ => 0))), (w5_q2, .inl (w5_c2, 1713, .inl (fun _ => 0))), (w5_q3, .inl (w5_c3, 1713, .inl (upd (fun _ => 0) 0 (-1 : Int32)))), (w5_q4, .inl (w5_c4, 1713, .inl (fun _ => 0))), (w5_q5, .inl (w5_c5, 1713, .inl (fun _ => 0))), (w5_q6, .inl (w5_c6, 3434, .inl (fun _ => 0))), (w7_q1, .inl (w7_c1, 16, .inl (fun _ => 0))), (w7_q2, .inl (w7_c2, 16, .inr (.inl (fun _ => 0)))), (w7_q3, .inl (w7_c3, 16, .inl (fun _ => 0))), (w7_q4, .inl (w7_c4, 16, .inl (fun _ => 0))), (w7_q5, .inl (w7_c5, 48, .inr (.inl (fun _ => 0)))), (w7_q6, .inl (w7_c6, 16, .inl (fun _ => 0))), (w7_q7, .inl (w7_c7, 16, .inl (fun _ => 0))), (w7_q8, .inl (w7_c8, 16, .inl (fun _ => 0))), (w7_q9, .inl (w7_c9, 16, .inl (fun _ => 0))), (w7_q10, .inl (w7_c10, 16, .inl (fun _ => 0))), (w7_q11, .inl (w7_c11, 16, .inl (fun _ => 0))), (w7_q12, .inl (w7_c12, 16, .inl (fun _ => 0))), (w7_q13, .inl (w7_c13, 48, .inl (fun _ => 0))), (w7_q14, .inl (w7_c14, 16, .inl (fun _ => 0))), (w7_q15, .inr (10, [.ref w7_w15_q1, .ref w7_w15_q2, .ref w7_w15_q3, .ref w7_w15_q4, .int 0, .ref w7_w15_q5, .ref w7_w15_q6, .int 0])), (w7_w15_q1, .inl (w7_w15_c1, 200, .inl (fun _ => 0))), (w7_w15_q2, .inl (w7_w15_c2, 200, .inr (.inl (fun _ => 0)))), (w7_w15_q3, .inl (w7_w15_c3, 200, .inl (fun _ => 0))), (w7_w15_q4, .inl (w7_w15_c4, 200, .inl (fun _ => 0))), (w7_w15_q5, .inl (w7_w15_c5, 201, .inl (fun _ => 0))), (w7_w15_q6, .inl (w7_w15_c6, 201, .inl (fun _ => 0))), (q9, .inr (5, [.ref w9_q1, .ref w9_q2, .ref w9_q3, .ref w9_q4, .ref w9_q5, .int 0])), (w9_q1, .inl (w9_c1, 600, .inl (fun _ => 0))), (w9_q2, .inl (w9_c2, 600, .inr (.inl (fun _ => 0)))), (w9_q3, .inl (w9_c3, 600, .inl (fun _ => 0))), (w9_q4, .inl (w9_c4, 600, .inl (fun _ => 0))), (w9_q5, .inl (w9_c5, 600, .inl (fun _ => 0))), (q11, .inr (10, [.ref w11_q1, .ref w11_q2, .ref w11_q3, .ref w11_q4, .int 0, .ref w11_q5, .ref w11_q6, .int 0])), (w11_q1, .inl (w11_c1, 200, .inl (fun _ => 0))), (w11_q2, .inl (w11_c2, 200, .inr (.inl (fun _ => 0)))), (w11_q3, .inl (w11_c3, 200, .inl (fun _ => 0))), (w11_q4, .inl (w11_c4, 200, .inl (fun _ => 0))), (w11_q5, .inl (w11_c5, 201, .inl (fun _ => 0))), (w11_q6, .inl (w11_c6, 201, .inl (fun _ => 0))), (q13, .inr (6, [.ref q1, .ref q7, .ref q9, .ref q5, .ref q3, .ref w7_q15, .int 0])), (q7, .inr (4, [.int 0, .ref w7_q1, .ref w7_q2, .ref w7_q3, .ref w7_q4, .ref w7_q5, .ref w7_q6, .ref w7_q7, .ref w7_q8, .ref w7_q9, .ref w7_q10, .ref w7_q11, .int 0, .ref w7_q12, .ref w7_q13, .ref w7_q14, .ref w7_q15])), (q15, .inr (7, [.ref q7, .ref q9, .ref q3, .ref w15_q1])), (w15_q1, .inl (w15_c1, 16, .inl (fun _ => 0))), (q17, .inr (8, [.ref q7, .ref q9, .ref q5, .ref q3, .ref w17_q1, .ref w17_q2, .ref w17_q3, .int 0, .ref w17_q4, .ref w17_q5, .ref w17_q6, .int 0, .ref w17_q7, .ref w17_q8, .int 0, .int 0])), (w17_q1, .inl (w17_c1, 216, .inl (fun _ => 0))), (w17_q2, .inl (w17_c2, 216, .inl (fun _ => 0))), (w17_q3, .inl (w17_c3, 216, .inl (fun _ => 0))), (w17_q4, .inl (w17_c4, 200, .inl (fun _ => 0))), (w17_q5, .inl (w17_c5, 200, .inl (fun _ => 0))), (w17_q6, .inl (w17_c6, 200, .inl (fun _ => 0))), (w17_q7, .inl (w17_c7, 200, .inr (.inl (fun _ => 0)))), (w17_q8, .inl (w17_c8, 200, .inl (fun _ => 0))), (q19, .inr (9, [.ref q7, .ref w19_q1, .ref w19_q3, .ref w19_q5, .ref w19_q7, .ref w19_q8, .ref w19_q9, .int 0, .int 0])), (w19_q1, .inr (10, [.ref w19_w1_q1, .ref w19_w1_q2, .ref w19_w1_q3, .ref w19_w1_q4, .int 0, .ref w19_w1_q5, .ref w19_w1_q6, .int 0])), (w19_w1_q1, .inl (w19_w1_c1, 200, .inl (fun _ => 0))), (w19_w1_q2, .inl (w19_w1_c2, 200, .inr (.inl (fun _ => 0)))), (w19_w1_q3, .inl (w19_w1_c3, 200, .inl (fun _ => 0))), (w19_w1_q4, .inl (w19_w1_c4, 200, .inl (fun _ => 0))), (w19_w1_q5, .inl (w19_w1_c5, 201, .inl (fun _ => 0))), (w19_w1_q6, .inl (w19_w1_c6, 201, .inl (fun _ => 0))), (w19_q3, .inr (10, [.ref w19_w3_q1, .ref w19_w3_q2, .ref w19_w3_q3, .ref w19_w3_q4, .int 0, .ref w19_w3_q5, .ref w19_w3_q6, .int 0])), (w19_w3_q1, .inl (w19_w3_c1, 200, .inl (fun _ => 0))), (w19_w3_q2, .inl (w19_w3_c2, 200, .inr (.inl (fun _ => 0)))), (w19_w3_q3, .inl (w19_w3_c3, 200, .inl (fun _ => 0))), (w19_w3_q4, .inl (w19_w3_c4, 200, .inl (fun _ => 0))), (w19_w3_q5, .inl (w19_w3_c5, 201, .inl (fun _ => 0))), (w19_w3_q6, .inl (w19_w3_c6, 201, .inl (fun _ => 0))), (w19_q5, .inr (10, [.ref w19_w5_q1, .ref w19_w5_q2, .ref w19_w5_q3, .ref w19_w5_q4, .int 0, .ref w19_w5_q5, .ref w19_w5_q6, .int 0])), (w19_w5_q1, .inl (w19_w5_c1, 200, .inl (fun _ => 0))), (w19_w5_q2, .inl (w19_w5_c2, 200, .inr (.inl (fun _ => 0)))), (w19_w5_q3, .inl (w19_w5_c3, 200, .inl (fun _ => 0))), (w19_w5_q4, .inl (w19_w5_c4, 200, .inl (fun _ => 0))), (w19_w5_q5, .inl (w19_w5_c5, 201, .inl (fun _ => 0))), (w19_w5_q6, .inl (w19_w5_c6, 201, .inl (fun _ => 0))), (w19_q7, .inl (w19_c7, 4, .inl (fun _ => 0))), (w19_q8, .inl (w19_c8, 200, .inl (fun _ => 0))), (w19_q9, .inl (w19_c9, 200, .inl (fun _ => 0))), (q21, .inr (11, [.ref w21_q1, .int 0])), (w21_q1, .inl (w21_c1, 2400, .inl (fun _ => 0)))]) C (i_Li_init (h := q23)) km_Li_init mCI_29 rfl mCI_169 [92] [0, 1, 2, 3, 4, 5, 6, 7, 8, 9, 10, 11, 12, 13, 14, 15, 16, 17, 18, 19, 20, 21, 22, 23, 24, 25, 26, 27, 28, 29, 30, 31, 32, 33, 34, 35, 36, 37, 38, 39, 40, 41, 42, 43, 44, 45, 46, 47, 48, 49, 50, 51, 52, 53, 54, 55, 56, 57, 58, 59, 60, 61, 62, 63, 64, 65, 66, 67, 68, 69, 70, 71, 72, 73, 74, 75, 76, 77, 78, 79, 80, 81, 82, 83, 84, 85, 86, 87, 88, 89, 90, 91] rfl rfl rfl rfl rfl (by decide) rfl (rmN_of (Nat.le_of_ble_eq_true rfl) (Nat.le_of_ble_eq_true rfl)) ⟨Nat.le_of_ble_eq_true rfl, Nat.le_of_ble_eq_true rfl⟩ rfl (Nat.le_of_ble_eq_true rfl) d_Q_init_182 (fun w t hwt => ?_)
  obtain ⟨w23_q1, w23_c1, rfl, rfl⟩ := hwt
  refine y_ws (ws' := [(h, .inr (0, [.ref q1, .ref q3, .ref q5, .ref q7, .ref q9, .ref q11, .ref q13, .ref q15, .ref q17, .ref q19, .ref q21, .null])), (q1, .inr (1, [.ref w1_q1, .int 0, .ref w1_q2, .ref w1_q3, .ref w1_q4, .int 0, .int 0])), (w1_q1, .inl (w1_c1, 1200, .inl (fun _ => 0))), (w1_q2, .inl (w1_c2, 1201, .inl (fun _ => 0))), (w1_q3, .inl (w1_c3, 1201, .inr (.inl (fun _ => 0)))), (w1_q4, .inl (w1_c4, 1201, .inl (fun _ => 0))), (q3, .inr (2, [.int 0, .int 0, .ref w3_q1, .ref w3_q3])), (w3_q1, .inr (11, [.ref w3_w1_q1, .int 0])), (w3_w1_q1, .inl (w3_w1_c1, 2400, .inl (fun _ => 0))), (w3_q3, .inr (11, [.ref w3_w3_q1, .int 0])), (w3_w3_q1, .inl (w3_w3_c1, 2400, .inl (fun _ => 0))), (q5, .inr (3, [.ref w5_q1, .ref w5_q2, .ref w5_q3, .ref w5_q4, .ref w5_q5, .ref w5_q6, .int (1 : Int32), .int (1 : Int32), .int 0, .int 0, .int 0])), (w5_q1, .inl (w5_c1, 1713, .inl (fun _ => 0))), (w5_q2, .inl (w5_c2, 1713, .inl (fun _ => 0))), (w5_q3, .inl (w5_c3, 1713, .inl (upd (fun _ => 0) 0 (-1 : Int32)))), (w5_q4, .inl (w5_c4, 1713, .inl (fun _ => 0))), (w5_q5, .inl (w5_c5, 1713, .inl (fun _ => 0))), (w5_q6, .inl (w5_c6, 3434, .inl (fun _ => 0))), (w7_q1, .inl (w7_c1, 16, .inl (fun _ => 0))), (w7_q2, .inl (w7_c2, 16, .inr (.inl (fun _ => 0)))), (w7_q3, .inl (w7_c3, 16, .inl (fun _ => 0))), (w7_q4, .inl (w7_c4, 16, .inl (fun _ => 0))), (w7_q5, .inl (w7_c5, 48, .inr (.inl (fun _ => 0)))), (w7_q6, .inl (w7_c6, 16, .inl (fun _ => 0))), (w7_q7, .inl (w7_c7, 16, .inl (fun _ => 0))), (w7_q8, .inl (w7_c8, 16, .inl (fun _ => 0))), (w7_q9, .inl (w7_c9, 16, .inl (fun _ => 0))), (w7_q10, .inl (w7_c10, 16, .inl (fun _ => 0))), (w7_q11, .inl (w7_c11, 16, .inl (fun _ => 0))), (w7_q12, .inl (w7_c12, 16, .inl (fun _ => 0))), (w7_q13, .inl (w7_c13, 48, .inl (fun _ => 0))), (w7_q14, .inl (w7_c14, 16, .inl (fun _ => 0))), (w7_q15, .inr (10, [.ref w7_w15_q1, .ref w7_w15_q2, .ref w7_w15_q3, .ref w7_w15_q4, .int 0, .ref w7_w15_q5, .ref w7_w15_q6, .int 0])), (w7_w15_q1, .inl (w7_w15_c1, 200, .inl (fun _ => 0))), (w7_w15_q2, .inl (w7_w15_c2, 200, .inr (.inl (fun _ => 0)))), (w7_w15_q3, .inl (w7_w15_c3, 200, .inl (fun _ => 0))), (w7_w15_q4, .inl (w7_w15_c4, 200, .inl (fun _ => 0))), (w7_w15_q5, .inl (w7_w15_c5, 201, .inl (fun _ => 0))), (w7_w15_q6, .inl (w7_w15_c6, 201, .inl (fun _ => 0))), (q9, .inr (5, [.ref w9_q1, .ref w9_q2, .ref w9_q3, .ref w9_q4, .ref w9_q5, .int 0])), (w9_q1, .inl (w9_c1, 600, .inl (fun _ => 0))), (w9_q2, .inl (w9_c2, 600, .inr (.inl (fun _ => 0)))), (w9_q3, .inl (w9_c3, 600, .inl (fun _ => 0))), (w9_q4, .inl (w9_c4, 600, .inl (fun _ => 0))), (w9_q5, .inl (w9_c5, 600, .inl (fun _ => 0))), (q11, .inr (10, [.ref w11_q1, .ref w11_q2, .ref w11_q3, .ref w11_q4, .int 0, .ref w11_q5, .ref w11_q6, .int 0])), (w11_q1, .inl (w11_c1, 200, .inl (fun _ => 0))), (w11_q2, .inl (w11_c2, 200, .inr (.inl (fun _ => 0)))), (w11_q3, .inl (w11_c3, 200, .inl (fun _ => 0))), (w11_q4, .inl (w11_c4, 200, .inl (fun _ => 0))), (w11_q5, .inl (w11_c5, 201, .inl (fun _ => 0))), (w11_q6, .inl (w11_c6, 201, .inl (fun _ => 0))), (q13, .inr (6, [.ref q1, .ref q7, .ref q9, .ref q5, .ref q3, .ref w7_q15, .int 0])), (q7, .inr (4, [.int 0, .ref w7_q1, .ref w7_q2, .ref w7_q3, .ref w7_q4, .ref w7_q5, .ref w7_q6, .ref w7_q7, .ref w7_q8, .ref w7_q9, .ref w7_q10, .ref w7_q11, .int 0, .ref w7_q12, .ref w7_q13, .ref w7_q14, .ref w7_q15])), (q15, .inr (7, [.ref q7, .ref q9, .ref q3, .ref w15_q1])), (w15_q1, .inl (w15_c1, 16, .inl (fun _ => 0))), (q17, .inr (8, [.ref q7, .ref q9, .ref q5, .ref q3, .ref w17_q1, .ref w17_q2, .ref w17_q3, .int 0, .ref w17_q4, .ref w17_q5, .ref w17_q6, .int 0, .ref w17_q7, .ref w17_q8, .int 0, .int 0])), (w17_q1, .inl (w17_c1, 216, .inl (fun _ => 0))), (w17_q2, .inl (w17_c2, 216, .inl (fun _ => 0))), (w17_q3, .inl (w17_c3, 216, .inl (fun _ => 0))), (w17_q4, .inl (w17_c4, 200, .inl (fun _ => 0))), (w17_q5, .inl (w17_c5, 200, .inl (fun _ => 0))), (w17_q6, .inl (w17_c6, 200, .inl (fun _ => 0))), (w17_q7, .inl (w17_c7, 200, .inr (.inl (fun _ => 0)))), (w17_q8, .inl (w17_c8, 200, .inl (fun _ => 0))), (q19, .inr (9, [.ref q7, .ref w19_q1, .ref w19_q3, .ref w19_q5, .ref w19_q7, .ref w19_q8, .ref w19_q9, .int 0, .int 0])), (w19_q1, .inr (10, [.ref w19_w1_q1, .ref w19_w1_q2, .ref w19_w1_q3, .ref w19_w1_q4, .int 0, .ref w19_w1_q5, .ref w19_w1_q6, .int 0])), (w19_w1_q1, .inl (w19_w1_c1, 200, .inl (fun _ => 0))), (w19_w1_q2, .inl (w19_w1_c2, 200, .inr (.inl (fun _ => 0)))), (w19_w1_q3, .inl (w19_w1_c3, 200, .inl (fun _ => 0))), (w19_w1_q4, .inl (w19_w1_c4, 200, .inl (fun _ => 0))), (w19_w1_q5, .inl (w19_w1_c5, 201, .inl (fun _ => 0))), (w19_w1_q6, .inl (w19_w1_c6, 201, .inl (fun _ => 0))), (w19_q3, .inr (10, [.ref w19_w3_q1, .ref w19_w3_q2, .ref w19_w3_q3, .ref w19_w3_q4, .int 0, .ref w19_w3_q5, .ref w19_w3_q6, .int 0])), (w19_w3_q1, .inl (w19_w3_c1, 200, .inl (fun _ => 0))), (w19_w3_q2, .inl (w19_w3_c2, 200, .inr (.inl (fun _ => 0)))), (w19_w3_q3, .inl (w19_w3_c3, 200, .inl (fun _ => 0))), (w19_w3_q4, .inl (w19_w3_c4, 200, .inl (fun _ => 0))), (w19_w3_q5, .inl (w19_w3_c5, 201, .inl (fun _ => 0))), (w19_w3_q6, .inl (w19_w3_c6, 201, .inl (fun _ => 0))), (w19_q5, .inr (10, [.ref w19_w5_q1, .ref w19_w5_q2, .ref w19_w5_q3, .ref w19_w5_q4, .int 0, .ref w19_w5_q5, .ref w19_w5_q6, .int 0])), (w19_w5_q1, .inl (w19_w5_c1, 200, .inl (fun _ => 0))), (w19_w5_q2, .inl (w19_w5_c2, 200, .inr (.inl (fun _ => 0)))), (w19_w5_q3, .inl (w19_w5_c3, 200, .inl (fun _ => 0))), (w19_w5_q4, .inl (w19_w5_c4, 200, .inl (fun _ => 0))), (w19_w5_q5, .inl (w19_w5_c5, 201, .inl (fun _ => 0))), (w19_w5_q6, .inl (w19_w5_c6, 201, .inl (fun _ => 0))), (w19_q7, .inl (w19_c7, 4, .inl (fun _ => 0))), (w19_q8, .inl (w19_c8, 200, .inl (fun _ => 0))), (w19_q9, .inl (w19_c9, 200, .inl (fun _ => 0))), (q21, .inr (11, [.ref w21_q1, .int 0])), (w21_q1, .inl (w21_c1, 2400, .inl (fun _ => 0))), (q23, .inr (11, [.ref w23_q1, .int 0])), (w23_q1, .inl (w23_c1, 2400, .inl (fun _ => 0)))]) (tys' := [(w1_c1, .int), (w1_c2, .int), (w1_c3, .long), (w1_c4, .int), (w3_w1_c1, .byte), (w3_w3_c1, .byte), (w5_c1, .int), (w5_c2, .int), (w5_c3, .int), (w5_c4, .int), (w5_c5, .int), (w5_c6, .int), (w7_c1, .int), (w7_c2, .long), (w7_c3, .int), (w7_c4, .int), (w7_c5, .long), (w7_c6, .int), (w7_c7, .int), (w7_c8, .int), (w7_c9, .int), (w7_c10, .int), (w7_c11, .int), (w7_c12, .int), (w7_c13, .int), (w7_c14, .int), (w7_w15_c1, .int), (w7_w15_c2, .long), (w7_w15_c3, .int), (w7_w15_c4, .int), (w7_w15_c5, .int), (w7_w15_c6, .int), (w9_c1, .int), (w9_c2, .long), (w9_c3, .int), (w9_c4, .int), (w9_c5, .int), (w11_c1, .int), (w11_c2, .long), (w11_c3, .int), (w11_c4, .int), (w11_c5, .int), (w11_c6, .int), (w15_c1, .int), (w17_c1, .int), (w17_c2, .int), (w17_c3, .int), (w17_c4, .int), (w17_c5, .int), (w17_c6, .int), (w17_c7, .long), (w17_c8, .int), (w19_w1_c1, .int), (w19_w1_c2, .long), (w19_w1_c3, .int), (w19_w1_c4, .int), (w19_w1_c5, .int), (w19_w1_c6, .int), (w19_w3_c1, .int), (w19_w3_c2, .long), (w19_w3_c3, .int), (w19_w3_c4, .int), (w19_w3_c5, .int), (w19_w3_c6, .int), (w19_w5_c1, .int), (w19_w5_c2, .long), (w19_w5_c3, .int), (w19_w5_c4, .int), (w19_w5_c5, .int), (w19_w5_c6, .int), (w19_c7, .int), (w19_c8, .int), (w19_c9, .int), (w21_c1, .byte), (w23_c1, .byte)]) rfl rfl ?_
  refine y_put (pc := 185) (q0 := 0) (v := .ref q23) (ty := .object "KindRounds$Line") (ws' := [(h, .inr (0, [.ref q1, .ref q3, .ref q5, .ref q7, .ref q9, .ref q11, .ref q13, .ref q15, .ref q17, .ref q19, .ref q21, .ref q23])), (q1, .inr (1, [.ref w1_q1, .int 0, .ref w1_q2, .ref w1_q3, .ref w1_q4, .int 0, .int 0])), (w1_q1, .inl (w1_c1, 1200, .inl (fun _ => 0))), (w1_q2, .inl (w1_c2, 1201, .inl (fun _ => 0))), (w1_q3, .inl (w1_c3, 1201, .inr (.inl (fun _ => 0)))), (w1_q4, .inl (w1_c4, 1201, .inl (fun _ => 0))), (q3, .inr (2, [.int 0, .int 0, .ref w3_q1, .ref w3_q3])), (w3_q1, .inr (11, [.ref w3_w1_q1, .int 0])), (w3_w1_q1, .inl (w3_w1_c1, 2400, .inl (fun _ => 0))), (w3_q3, .inr (11, [.ref w3_w3_q1, .int 0])), (w3_w3_q1, .inl (w3_w3_c1, 2400, .inl (fun _ => 0))), (q5, .inr (3, [.ref w5_q1, .ref w5_q2, .ref w5_q3, .ref w5_q4, .ref w5_q5, .ref w5_q6, .int (1 : Int32), .int (1 : Int32), .int 0, .int 0, .int 0])), (w5_q1, .inl (w5_c1, 1713, .inl (fun _ => 0))), (w5_q2, .inl (w5_c2, 1713, .inl (fun _ => 0))), (w5_q3, .inl (w5_c3, 1713, .inl (upd (fun _ => 0) 0 (-1 : Int32)))), (w5_q4, .inl (w5_c4, 1713, .inl (fun _ => 0))), (w5_q5, .inl (w5_c5, 1713, .inl (fun _ => 0))), (w5_q6, .inl (w5_c6, 3434, .inl (fun _ => 0))), (w7_q1, .inl (w7_c1, 16, .inl (fun _ => 0))), (w7_q2, .inl (w7_c2, 16, .inr (.inl (fun _ => 0)))), (w7_q3, .inl (w7_c3, 16, .inl (fun _ => 0))), (w7_q4, .inl (w7_c4, 16, .inl (fun _ => 0))), (w7_q5, .inl (w7_c5, 48, .inr (.inl (fun _ => 0)))), (w7_q6, .inl (w7_c6, 16, .inl (fun _ => 0))), (w7_q7, .inl (w7_c7, 16, .inl (fun _ => 0))), (w7_q8, .inl (w7_c8, 16, .inl (fun _ => 0))), (w7_q9, .inl (w7_c9, 16, .inl (fun _ => 0))), (w7_q10, .inl (w7_c10, 16, .inl (fun _ => 0))), (w7_q11, .inl (w7_c11, 16, .inl (fun _ => 0))), (w7_q12, .inl (w7_c12, 16, .inl (fun _ => 0))), (w7_q13, .inl (w7_c13, 48, .inl (fun _ => 0))), (w7_q14, .inl (w7_c14, 16, .inl (fun _ => 0))), (w7_q15, .inr (10, [.ref w7_w15_q1, .ref w7_w15_q2, .ref w7_w15_q3, .ref w7_w15_q4, .int 0, .ref w7_w15_q5, .ref w7_w15_q6, .int 0])), (w7_w15_q1, .inl (w7_w15_c1, 200, .inl (fun _ => 0))), (w7_w15_q2, .inl (w7_w15_c2, 200, .inr (.inl (fun _ => 0)))), (w7_w15_q3, .inl (w7_w15_c3, 200, .inl (fun _ => 0))), (w7_w15_q4, .inl (w7_w15_c4, 200, .inl (fun _ => 0))), (w7_w15_q5, .inl (w7_w15_c5, 201, .inl (fun _ => 0))), (w7_w15_q6, .inl (w7_w15_c6, 201, .inl (fun _ => 0))), (q9, .inr (5, [.ref w9_q1, .ref w9_q2, .ref w9_q3, .ref w9_q4, .ref w9_q5, .int 0])), (w9_q1, .inl (w9_c1, 600, .inl (fun _ => 0))), (w9_q2, .inl (w9_c2, 600, .inr (.inl (fun _ => 0)))), (w9_q3, .inl (w9_c3, 600, .inl (fun _ => 0))), (w9_q4, .inl (w9_c4, 600, .inl (fun _ => 0))), (w9_q5, .inl (w9_c5, 600, .inl (fun _ => 0))), (q11, .inr (10, [.ref w11_q1, .ref w11_q2, .ref w11_q3, .ref w11_q4, .int 0, .ref w11_q5, .ref w11_q6, .int 0])), (w11_q1, .inl (w11_c1, 200, .inl (fun _ => 0))), (w11_q2, .inl (w11_c2, 200, .inr (.inl (fun _ => 0)))), (w11_q3, .inl (w11_c3, 200, .inl (fun _ => 0))), (w11_q4, .inl (w11_c4, 200, .inl (fun _ => 0))), (w11_q5, .inl (w11_c5, 201, .inl (fun _ => 0))), (w11_q6, .inl (w11_c6, 201, .inl (fun _ => 0))), (q13, .inr (6, [.ref q1, .ref q7, .ref q9, .ref q5, .ref q3, .ref w7_q15, .int 0])), (q7, .inr (4, [.int 0, .ref w7_q1, .ref w7_q2, .ref w7_q3, .ref w7_q4, .ref w7_q5, .ref w7_q6, .ref w7_q7, .ref w7_q8, .ref w7_q9, .ref w7_q10, .ref w7_q11, .int 0, .ref w7_q12, .ref w7_q13, .ref w7_q14, .ref w7_q15])), (q15, .inr (7, [.ref q7, .ref q9, .ref q3, .ref w15_q1])), (w15_q1, .inl (w15_c1, 16, .inl (fun _ => 0))), (q17, .inr (8, [.ref q7, .ref q9, .ref q5, .ref q3, .ref w17_q1, .ref w17_q2, .ref w17_q3, .int 0, .ref w17_q4, .ref w17_q5, .ref w17_q6, .int 0, .ref w17_q7, .ref w17_q8, .int 0, .int 0])), (w17_q1, .inl (w17_c1, 216, .inl (fun _ => 0))), (w17_q2, .inl (w17_c2, 216, .inl (fun _ => 0))), (w17_q3, .inl (w17_c3, 216, .inl (fun _ => 0))), (w17_q4, .inl (w17_c4, 200, .inl (fun _ => 0))), (w17_q5, .inl (w17_c5, 200, .inl (fun _ => 0))), (w17_q6, .inl (w17_c6, 200, .inl (fun _ => 0))), (w17_q7, .inl (w17_c7, 200, .inr (.inl (fun _ => 0)))), (w17_q8, .inl (w17_c8, 200, .inl (fun _ => 0))), (q19, .inr (9, [.ref q7, .ref w19_q1, .ref w19_q3, .ref w19_q5, .ref w19_q7, .ref w19_q8, .ref w19_q9, .int 0, .int 0])), (w19_q1, .inr (10, [.ref w19_w1_q1, .ref w19_w1_q2, .ref w19_w1_q3, .ref w19_w1_q4, .int 0, .ref w19_w1_q5, .ref w19_w1_q6, .int 0])), (w19_w1_q1, .inl (w19_w1_c1, 200, .inl (fun _ => 0))), (w19_w1_q2, .inl (w19_w1_c2, 200, .inr (.inl (fun _ => 0)))), (w19_w1_q3, .inl (w19_w1_c3, 200, .inl (fun _ => 0))), (w19_w1_q4, .inl (w19_w1_c4, 200, .inl (fun _ => 0))), (w19_w1_q5, .inl (w19_w1_c5, 201, .inl (fun _ => 0))), (w19_w1_q6, .inl (w19_w1_c6, 201, .inl (fun _ => 0))), (w19_q3, .inr (10, [.ref w19_w3_q1, .ref w19_w3_q2, .ref w19_w3_q3, .ref w19_w3_q4, .int 0, .ref w19_w3_q5, .ref w19_w3_q6, .int 0])), (w19_w3_q1, .inl (w19_w3_c1, 200, .inl (fun _ => 0))), (w19_w3_q2, .inl (w19_w3_c2, 200, .inr (.inl (fun _ => 0)))), (w19_w3_q3, .inl (w19_w3_c3, 200, .inl (fun _ => 0))), (w19_w3_q4, .inl (w19_w3_c4, 200, .inl (fun _ => 0))), (w19_w3_q5, .inl (w19_w3_c5, 201, .inl (fun _ => 0))), (w19_w3_q6, .inl (w19_w3_c6, 201, .inl (fun _ => 0))), (w19_q5, .inr (10, [.ref w19_w5_q1, .ref w19_w5_q2, .ref w19_w5_q3, .ref w19_w5_q4, .int 0, .ref w19_w5_q5, .ref w19_w5_q6, .int 0])), (w19_w5_q1, .inl (w19_w5_c1, 200, .inl (fun _ => 0))), (w19_w5_q2, .inl (w19_w5_c2, 200, .inr (.inl (fun _ => 0)))), (w19_w5_q3, .inl (w19_w5_c3, 200, .inl (fun _ => 0))), (w19_w5_q4, .inl (w19_w5_c4, 200, .inl (fun _ => 0))), (w19_w5_q5, .inl (w19_w5_c5, 201, .inl (fun _ => 0))), (w19_w5_q6, .inl (w19_w5_c6, 201, .inl (fun _ => 0))), (w19_q7, .inl (w19_c7, 4, .inl (fun _ => 0))), (w19_q8, .inl (w19_c8, 200, .inl (fun _ => 0))), (w19_q9, .inl (w19_c9, 200, .inl (fun _ => 0))), (q21, .inr (11, [.ref w21_q1, .int 0])), (w21_q1, .inl (w21_c1, 2400, .inl (fun _ => 0))), (q23, .inr (11, [.ref w23_q1, .int 0])), (w23_q1, .inl (w23_c1, 2400, .inl (fun _ => 0)))]) C 11 mCI_171 i_Q t_Q t_Q_ok n_Q rfl rfl (Nat.le_of_ble_eq_true rfl) rfl rfl rfl rfl rfl (Nat.le_of_ble_eq_true rfl) rfl d_Q_init_185 ?_
  refine y_perm (ws' := wdC (fun k => [h, q1, q3, q5, q7, q9, q13, q15, q17, q19, w7_q15, q11, w19_q1, w19_q3, w19_q5, w3_q1, w3_q3, q21, q23, w1_q1, w1_q2, w1_q3, w1_q4, w5_q1, w5_q2, w5_q3, w5_q4, w5_q5, w5_q6, w7_q1, w7_q2, w7_q3, w7_q4, w7_q5, w7_q6, w7_q7, w7_q8, w7_q9, w7_q10, w7_q11, w7_q12, w7_q13, w7_q14, w9_q1, w9_q2, w9_q3, w9_q4, w9_q5, w15_q1, w17_q1, w17_q2, w17_q3, w17_q4, w17_q5, w17_q6, w17_q7, w17_q8, w19_q7, w19_q8, w19_q9, w7_w15_q1, w7_w15_q2, w7_w15_q3, w7_w15_q4, w7_w15_q5, w7_w15_q6, w11_q1, w11_q2, w11_q3, w11_q4, w11_q5, w11_q6, w19_w1_q1, w19_w1_q2, w19_w1_q3, w19_w1_q4, w19_w1_q5, w19_w1_q6, w19_w3_q1, w19_w3_q2, w19_w3_q3, w19_w3_q4, w19_w3_q5, w19_w3_q6, w19_w5_q1, w19_w5_q2, w19_w5_q3, w19_w5_q4, w19_w5_q5, w19_w5_q6, w3_w1_q1, w3_w3_q1, w21_q1, w23_q1].getD k 0) (fun k => [w1_c1, w1_c1, w1_c1, w1_c1, w1_c1, w1_c1, w1_c1, w1_c1, w1_c1, w1_c1, w1_c1, w1_c1, w1_c1, w1_c1, w1_c1, w1_c1, w1_c1, w1_c1, w1_c1, w1_c1, w1_c2, w1_c3, w1_c4, w5_c1, w5_c2, w5_c3, w5_c4, w5_c5, w5_c6, w7_c1, w7_c2, w7_c3, w7_c4, w7_c5, w7_c6, w7_c7, w7_c8, w7_c9, w7_c10, w7_c11, w7_c12, w7_c13, w7_c14, w9_c1, w9_c2, w9_c3, w9_c4, w9_c5, w15_c1, w17_c1, w17_c2, w17_c3, w17_c4, w17_c5, w17_c6, w17_c7, w17_c8, w19_c7, w19_c8, w19_c9, w7_w15_c1, w7_w15_c2, w7_w15_c3, w7_w15_c4, w7_w15_c5, w7_w15_c6, w11_c1, w11_c2, w11_c3, w11_c4, w11_c5, w11_c6, w19_w1_c1, w19_w1_c2, w19_w1_c3, w19_w1_c4, w19_w1_c5, w19_w1_c6, w19_w3_c1, w19_w3_c2, w19_w3_c3, w19_w3_c4, w19_w3_c5, w19_w3_c6, w19_w5_c1, w19_w5_c2, w19_w5_c3, w19_w5_c4, w19_w5_c5, w19_w5_c6, w3_w1_c1, w3_w3_c1, w21_c1, w23_c1].getD k w1_c1) σC0) (tys' := tysC (fun k => [w1_c1, w1_c1, w1_c1, w1_c1, w1_c1, w1_c1, w1_c1, w1_c1, w1_c1, w1_c1, w1_c1, w1_c1, w1_c1, w1_c1, w1_c1, w1_c1, w1_c1, w1_c1, w1_c1, w1_c1, w1_c2, w1_c3, w1_c4, w5_c1, w5_c2, w5_c3, w5_c4, w5_c5, w5_c6, w7_c1, w7_c2, w7_c3, w7_c4, w7_c5, w7_c6, w7_c7, w7_c8, w7_c9, w7_c10, w7_c11, w7_c12, w7_c13, w7_c14, w9_c1, w9_c2, w9_c3, w9_c4, w9_c5, w15_c1, w17_c1, w17_c2, w17_c3, w17_c4, w17_c5, w17_c6, w17_c7, w17_c8, w19_c7, w19_c8, w19_c9, w7_w15_c1, w7_w15_c2, w7_w15_c3, w7_w15_c4, w7_w15_c5, w7_w15_c6, w11_c1, w11_c2, w11_c3, w11_c4, w11_c5, w11_c6, w19_w1_c1, w19_w1_c2, w19_w1_c3, w19_w1_c4, w19_w1_c5, w19_w1_c6, w19_w3_c1, w19_w3_c2, w19_w3_c3, w19_w3_c4, w19_w3_c5, w19_w3_c6, w19_w5_c1, w19_w5_c2, w19_w5_c3, w19_w5_c4, w19_w5_c5, w19_w5_c6, w3_w1_c1, w3_w3_c1, w21_c1, w23_c1].getD k w1_c1)) [0, 1, 6, 11, 53, 39, 52, 54, 56, 65, 32, 45, 66, 73, 80, 7, 9, 90, 92, 2, 3, 4, 5, 12, 13, 14, 15, 16, 17, 18, 19, 20, 21, 22, 23, 24, 25, 26, 27, 28, 29, 30, 31, 40, 41, 42, 43, 44, 55, 57, 58, 59, 60, 61, 62, 63, 64, 87, 88, 89, 33, 34, 35, 36, 37, 38, 46, 47, 48, 49, 50, 51, 67, 68, 69, 70, 71, 72, 74, 75, 76, 77, 78, 79, 81, 82, 83, 84, 85, 86, 8, 10, 91, 93] [0, 1, 2, 3, 6, 7, 8, 9, 10, 11, 12, 13, 14, 15, 16, 17, 18, 19, 20, 21, 22, 23, 24, 25, 32, 33, 34, 35, 36, 43, 44, 45, 46, 47, 48, 49, 50, 51, 70, 71, 72, 26, 27, 28, 29, 30, 31, 37, 38, 39, 40, 41, 42, 52, 53, 54, 55, 56, 57, 58, 59, 60, 61, 62, 63, 64, 65, 66, 67, 68, 69, 4, 5, 73, 74] rfl rfl (by decide) rfl ?_
  refine y_ret (pc := 188) C hr ?_ ?_ ?_ d_Q_init_188
  · exact Nat.le_of_ble_eq_true rfl
  · exact Nat.le_of_ble_eq_true rfl
  · exact ⟨(fun k => [h, q1, q3, q5, q7, q9, q13, q15, q17, q19, w7_q15, q11, w19_q1, w19_q3, w19_q5, w3_q1, w3_q3, q21, q23, w1_q1, w1_q2, w1_q3, w1_q4, w5_q1, w5_q2, w5_q3, w5_q4, w5_q5, w5_q6, w7_q1, w7_q2, w7_q3, w7_q4, w7_q5, w7_q6, w7_q7, w7_q8, w7_q9, w7_q10, w7_q11, w7_q12, w7_q13, w7_q14, w9_q1, w9_q2, w9_q3, w9_q4, w9_q5, w15_q1, w17_q1, w17_q2, w17_q3, w17_q4, w17_q5, w17_q6, w17_q7, w17_q8, w19_q7, w19_q8, w19_q9, w7_w15_q1, w7_w15_q2, w7_w15_q3, w7_w15_q4, w7_w15_q5, w7_w15_q6, w11_q1, w11_q2, w11_q3, w11_q4, w11_q5, w11_q6, w19_w1_q1, w19_w1_q2, w19_w1_q3, w19_w1_q4, w19_w1_q5, w19_w1_q6, w19_w3_q1, w19_w3_q2, w19_w3_q3, w19_w3_q4, w19_w3_q5, w19_w3_q6, w19_w5_q1, w19_w5_q2, w19_w5_q3, w19_w5_q4, w19_w5_q5, w19_w5_q6, w3_w1_q1, w3_w3_q1, w21_q1, w23_q1].getD k 0), (fun k => [w1_c1, w1_c1, w1_c1, w1_c1, w1_c1, w1_c1, w1_c1, w1_c1, w1_c1, w1_c1, w1_c1, w1_c1, w1_c1, w1_c1, w1_c1, w1_c1, w1_c1, w1_c1, w1_c1, w1_c1, w1_c2, w1_c3, w1_c4, w5_c1, w5_c2, w5_c3, w5_c4, w5_c5, w5_c6, w7_c1, w7_c2, w7_c3, w7_c4, w7_c5, w7_c6, w7_c7, w7_c8, w7_c9, w7_c10, w7_c11, w7_c12, w7_c13, w7_c14, w9_c1, w9_c2, w9_c3, w9_c4, w9_c5, w15_c1, w17_c1, w17_c2, w17_c3, w17_c4, w17_c5, w17_c6, w17_c7, w17_c8, w19_c7, w19_c8, w19_c9, w7_w15_c1, w7_w15_c2, w7_w15_c3, w7_w15_c4, w7_w15_c5, w7_w15_c6, w11_c1, w11_c2, w11_c3, w11_c4, w11_c5, w11_c6, w19_w1_c1, w19_w1_c2, w19_w1_c3, w19_w1_c4, w19_w1_c5, w19_w1_c6, w19_w3_c1, w19_w3_c2, w19_w3_c3, w19_w3_c4, w19_w3_c5, w19_w3_c6, w19_w5_c1, w19_w5_c2, w19_w5_c3, w19_w5_c4, w19_w5_c5, w19_w5_c6, w3_w1_c1, w3_w3_c1, w21_c1, w23_c1].getD k w1_c1), rfl, rfl, rfl⟩
