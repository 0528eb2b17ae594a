/-! A judgement over abstract states: Z says that the machine comes to Q from every heap that holds the picture 'wd σ', with the listed locals and operands. Own text; it stands on the kit's rows. -/
abbrev zS : Type := (Nat → Int32) × (Nat → Nat → Int32) × (Nat → Int64) × (Nat → Nat → Int64) × (Nat → Nat) × (Nat → Int32) × (Nat → Nat → Int32) × (Nat → Nat → Int64)
def gi (σ : zS) (k : Nat) : Int32 := σ.1 k
def ga (σ : zS) (k : Nat) : Nat → Int32 := σ.2.1 k
def gl (σ : zS) (k : Nat) : Int64 := σ.2.2.1 k
def gb (σ : zS) (k : Nat) : Nat → Int64 := σ.2.2.2.1 k
def gr (σ : zS) (k : Nat) : Nat := σ.2.2.2.2.1 k
def mi (σ : zS) (k : Nat) : Int32 := σ.2.2.2.2.2.1 k
def ma (σ : zS) (k : Nat) : Nat → Int32 := σ.2.2.2.2.2.2.1 k
def mb (σ : zS) (k : Nat) : Nat → Int64 := σ.2.2.2.2.2.2.2 k
def fu {α : Type} (f : Nat → α) (k : Nat) (v : α) : Nat → α := fun j => if j = k then v else f j
def si (σ : zS) (k : Nat) (v : Int32) : zS := (fu σ.1 k v, σ.2)
def sA (σ : zS) (k : Nat) (f : Nat → Int32) : zS := (σ.1, fu σ.2.1 k f, σ.2.2)
def sa (σ : zS) (k i : Nat) (v : Int32) : zS := sA σ k (upd (ga σ k) i v)
def sl (σ : zS) (k : Nat) (v : Int64) : zS := (σ.1, σ.2.1, fu σ.2.2.1 k v, σ.2.2.2)
def sB (σ : zS) (k : Nat) (f : Nat → Int64) : zS := (σ.1, σ.2.1, σ.2.2.1, fu σ.2.2.2.1 k f, σ.2.2.2.2)
def sb (σ : zS) (k i : Nat) (v : Int64) : zS := sB σ k (vp_updL (gb σ k) i v)
def sr (σ : zS) (k : Nat) (v : Nat) : zS := (σ.1, σ.2.1, σ.2.2.1, σ.2.2.2.1, fu σ.2.2.2.2.1 k v, σ.2.2.2.2.2)
def ti (σ : zS) (k : Nat) (v : Int32) : zS := (σ.1, σ.2.1, σ.2.2.1, σ.2.2.2.1, σ.2.2.2.2.1, fu σ.2.2.2.2.2.1 k v, σ.2.2.2.2.2.2)
def tA (σ : zS) (k : Nat) (f : Nat → Int32) : zS := (σ.1, σ.2.1, σ.2.2.1, σ.2.2.2.1, σ.2.2.2.2.1, σ.2.2.2.2.2.1, fu σ.2.2.2.2.2.2.1 k f, σ.2.2.2.2.2.2.2)
def ta (σ : zS) (k i : Nat) (v : Int32) : zS := tA σ k (upd (ma σ k) i v)
def tB (σ : zS) (k : Nat) (f : Nat → Int64) : zS := (σ.1, σ.2.1, σ.2.2.1, σ.2.2.2.1, σ.2.2.2.2.1, σ.2.2.2.2.2.1, σ.2.2.2.2.2.2.1, fu σ.2.2.2.2.2.2.2 k f)
def tb (σ : zS) (k i : Nat) (v : Int64) : zS := tB σ k (vp_updL (mb σ k) i v)
def isB (x : Int32) : Bool := decide (x = 0) || decide (x = 1)
theorem isB_or {x : Int32} (h : isB x = true) : x = 0 ∨ x = 1 := by simpa [isB] using h
theorem isB_n {x : Int32} (h : isB x = true) : narrow .boolean (.int x) = .int x := by rcases isB_or h with rfl | rfl <;> decide
theorem isB_f {x : Int32} (h : isB x = true) : fits .boolean (.int x) = true := by rcases isB_or h with rfl | rfl <;> decide
theorem isB_v {x : Int32} (h : isB x = true) : vp_nar .boolean x = x := by rcases isB_or h with rfl | rfl <;> decide
theorem ii {x : Int32} {n : Int} {v : Int32} (h : Int32.ofInt n = v) : x + Int32.ofInt n = x + v := by rw [h]
def cpB (f : Nat → Int32) (sp n : Nat) : Bool := (List.range n).all (fun i => fits .byte (.int (f (sp + i))))
theorem cpB_f {f : Nat → Int32} {sp n : Nat} (h : cpB f sp n = true) : ∀ i, i < n → fits .byte (.int (f (sp + i))) = true := fun i hi => List.all_eq_true.mp h i (List.mem_range.mpr hi)
def cpG (sp dp n : Int32) (n0 n1 : Nat) : Bool := decide (¬ sp < 0) && (decide (¬ dp < 0) && (decide (¬ n < 0) && (decide (sp.toNatClampNeg + n.toNatClampNeg ≤ n0) && decide (dp.toNatClampNeg + n.toNatClampNeg ≤ n1))))
theorem cpG_s {sp dp n : Int32} {n0 n1 : Nat} (h : cpG sp dp n n0 n1 = true) : ¬ sp < 0 ∧ ¬ dp < 0 ∧ ¬ n < 0 ∧ sp.toNatClampNeg + n.toNatClampNeg ≤ n0 ∧ dp.toNatClampNeg + n.toNatClampNeg ≤ n1 := by
  simp only [cpG, Bool.and_eq_true, decide_eq_true_eq] at h
  exact h
def inb (i : Int32) (n : Nat) : Bool := !(decide (i < 0) || decide (n ≤ i.toNatClampNeg))
theorem inb_in {i : Int32} {n : Nat} (h : inb i n = true) : vp_in i n := by
  unfold inb at h
  unfold vp_in
  intro hc
  rcases hc with hc | hc <;> simp [hc] at h
def gd {β : Type} (b : Bool) (o : Option β) : Option β := if b = true then o else none
theorem gd_s {β : Type} {b : Bool} {o : Option β} {x : β} (h : gd b o = some x) : b = true ∧ o = some x := by
  unfold gd at h
  split at h
  · exact ⟨by assumption, h⟩
  · cases h
theorem gd_t {β : Type} {b : Bool} {o : Option β} (h : b = true) : gd b o = o := by unfold gd; rw [if_pos h]
def bi {α β : Type} (o : Option (α × zS)) (k : α → zS → Option β) : Option β := match o with
  | none => none
  | some q => k q.1 q.2
theorem bi_s {α β : Type} {o : Option (α × zS)} {k : α → zS → Option β} {x : β} (h : bi o k = some x) : ∃ r σ, o = some (r, σ) ∧ k r σ = some x := by
  cases o with
  | none => cases h
  | some q => exact ⟨q.1, q.2, rfl, h⟩
def bv {β : Type} (o : Option zS) (k : zS → Option β) : Option β := match o with
  | none => none
  | some q => k q
theorem bv_s {β : Type} {o : Option zS} {k : zS → Option β} {x : β} (h : bv o k = some x) : ∃ σ, o = some σ ∧ k σ = some x := by
  cases o with
  | none => cases h
  | some q => exact ⟨q, rfl, h⟩
def lw_good : List Cond := lw_tbl.filter goodWord
theorem good_in {w : Cond} (h : w ∈ lw_tbl) (g : goodWord w = true) : w ∈ lw_good := List.mem_filter.mpr ⟨h, g⟩
theorem good_all : ∀ w ∈ lw_good, (w.onTables && w.keeps) = true ∨ ∃ ty, w = .arrayClass ty := fun _ h => good_of_word (List.mem_filter.mp h).2
def isNest : Cond → Bool
  | .fieldLinkNest .. => true
  | .methodLinkNest .. => true
  | _ => false
def lw_nest : List Cond := lw_tbl.filter isNest
theorem nest_in {w : Cond} (h : w ∈ lw_tbl) (g : isNest w = true) : w ∈ lw_nest := List.mem_filter.mpr ⟨h, g⟩
def nK (U : State) : Prop := ∀ w ∈ lw_nest, va_Nw w U
theorem nK_warm {s U : State} (hW : s.WarmedH U.vm) (h : nK s) : nK U := fun w hw => by
  have hg := (List.mem_filter.mp hw).2
  have h1 := h w hw
  cases w <;> first | exact va_Nw.warmF hW h1 | exact va_Nw.warmM hW h1 | exact absurd hg (by simp [isNest])
def xP (A : Nat → Prop) (X : State → Prop) : Prop := ∀ (s U : State) (locs : List Loc), X s → va_S A s.heap U.heap locs → s.WarmedH U.vm → X U
section ZL
variable {wd : zS → va_W} {D : va_G} {cl : List vw_C} {tys : List (ClassId × FieldType)} {A : Nat → Prop} {X : State → Prop}
variable {p : Program} {l : Launch} {e : Env} {R : Room} {s : State} {m : MethodId} {args : Array Value} {below : List Frame} {meth : Method} {c : Code} {cc : ByteArray} {own : String} {nL : Nat} {Q : State → Prop} {pc : Nat} {lv lv' : List (Nat × Value)} {st rest : List Value} {σ σ' : zS}
def zC (wd : zS → va_W) (D : va_G) (cl : List vw_C) (tys : List (ClassId × FieldType)) (A : Nat → Prop) (X : State → Prop) (p : Program) (s : State) (m : MethodId) (args : Array Value) (meth : Method) (c : Code) (cc : ByteArray) (own : String) (nL : Nat) : Prop :=
  p.tables.exec = Jvm.exec ∧ c.code = cc ∧ c.maxLocals = nL ∧ s.vm.findClass own = some m.cls ∧ (∀ w ∈ lw_good, w.before args s = true) ∧ va_K D cl tys s ∧ meth.locks = false ∧ (∀ σ, va_D A (wd σ)) ∧ nK s ∧ X s ∧ xP A X
def Z (wd : zS → va_W) (D : va_G) (cl : List vw_C) (A : Nat → Prop) (p : Program) (l : Launch) (e : Env) (R : Room) (s : State) (m : MethodId) (args : Array Value) (below : List Frame) (meth : Method) (c : Code) (nL : Nat) (Q : State → Prop) (pc : Nat) (lv : List (Nat × Value)) (st : List Value) (σ : zS) : Prop :=
  ∀ (H : Heap) (locs : List Loc) (ls : Array Slot), va_P D cl (wd σ) H → va_S A s.heap H locs → lv_has ls nL lv → W p l e R s m args below meth c H locs 0 0 Q (F0 m pc ls st)
theorem z_iconst (C : zC wd D cl tys A X p s m args meth c cc own nL) {n : Int} {v : Int32} (hd : decode cc pc = .ok (.iconst n, 1)) (hv : Int32.ofInt n = v) (k : Z wd D cl A p l e R s m args below meth c nL Q (pc + 1) lv (.int v :: st) σ) : Z wd D cl A p l e R s m args below meth c nL Q pc lv st σ :=
  fun H locs ls hP hS hl => lv_iconst C.1 C.2.1 hd hv (k H locs ls hP hS hl)
theorem z_bipush (C : zC wd D cl tys A X p s m args meth c cc own nL) {n : Int} {v : Int32} (hd : decode cc pc = .ok (.bipush n, 2)) (hv : (Int8.ofInt n).toInt32 = v) (k : Z wd D cl A p l e R s m args below meth c nL Q (pc + 2) lv (.int v :: st) σ) : Z wd D cl A p l e R s m args below meth c nL Q pc lv st σ :=
  fun H locs ls hP hS hl => lv_bipush C.1 C.2.1 hd hv (k H locs ls hP hS hl)
theorem z_sipush (C : zC wd D cl tys A X p s m args meth c cc own nL) {n : Int} {v : Int32} (hd : decode cc pc = .ok (.sipush n, 3)) (hv : (Int16.ofInt n).toInt32 = v) (k : Z wd D cl A p l e R s m args below meth c nL Q (pc + 3) lv (.int v :: st) σ) : Z wd D cl A p l e R s m args below meth c nL Q pc lv st σ :=
  fun H locs ls hP hS hl => lv_sipush C.1 C.2.1 hd hv (k H locs ls hP hS hl)
theorem z_lconst (C : zC wd D cl tys A X p s m args meth c cc own nL) {n : Fin 2} {v : Int64} (hd : decode cc pc = .ok (.lconst n, 1)) (hv : Int64.ofNat (n : Nat) = v) (k : Z wd D cl A p l e R s m args below meth c nL Q (pc + 1) lv (.long v :: st) σ) : Z wd D cl A p l e R s m args below meth c nL Q pc lv st σ :=
  fun H locs ls hP hS hl => lv_lconst C.1 C.2.1 hd hv (k H locs ls hP hS hl)
theorem z_ldc (C : zC wd D cl tys A X p s m args meth c cc own nL) {index : Nat} {v : Int32} (hw : Cond.constant own index v ∈ lw_good) (hd : decode cc pc = .ok (.ldc index, 2)) (k : Z wd D cl A p l e R s m args below meth c nL Q (pc + 2) lv (.int v :: st) σ) : Z wd D cl A p l e R s m args below meth c nL Q pc lv st σ :=
  fun H locs ls hP hS hl => lv_ldc C.1 C.2.1 C.2.2.2.1 (C.2.2.2.2.1 _ hw) hd (k H locs ls hP hS hl)
theorem z_ldc2 (C : zC wd D cl tys A X p s m args meth c cc own nL) {index : Nat} {v : Int64} (hw : Cond.constantLong own index v ∈ lw_good) (hd : decode cc pc = .ok (.ldc2_w index, 3)) (k : Z wd D cl A p l e R s m args below meth c nL Q (pc + 3) lv (.long v :: st) σ) : Z wd D cl A p l e R s m args below meth c nL Q pc lv st σ :=
  fun H locs ls hP hS hl => lv_ldc2 C.1 C.2.1 C.2.2.2.1 (C.2.2.2.2.1 _ hw) hd (k H locs ls hP hS hl)
theorem z_iload_n (C : zC wd D cl tys A X p s m args meth c cc own nL) {k0 : Fin 4} {i : Nat} {x : Int32} (hd : decode cc pc = .ok (.iload_n k0, 1)) (hi : (k0 : Nat) = i) (j : Nat) (hj : lv[j]? = some (i, .int x)) (k : Z wd D cl A p l e R s m args below meth c nL Q (pc + 1) lv (.int x :: st) σ) : Z wd D cl A p l e R s m args below meth c nL Q pc lv st σ :=
  fun H locs ls hP hS hl => lv_iload_n C.1 C.2.1 hd hi (lv_at hl j hj) (k H locs ls hP hS hl)
theorem z_iload (C : zC wd D cl tys A X p s m args meth c cc own nL) {i : Nat} {x : Int32} (hd : decode cc pc = .ok (.iload i, 2)) (j : Nat) (hj : lv[j]? = some (i, .int x)) (k : Z wd D cl A p l e R s m args below meth c nL Q (pc + 2) lv (.int x :: st) σ) : Z wd D cl A p l e R s m args below meth c nL Q pc lv st σ :=
  fun H locs ls hP hS hl => lv_iload C.1 C.2.1 hd (lv_at hl j hj) (k H locs ls hP hS hl)
theorem z_lload_n (C : zC wd D cl tys A X p s m args meth c cc own nL) {k0 : Fin 4} {i : Nat} {x : Int64} (hd : decode cc pc = .ok (.lload_n k0, 1)) (hi : (k0 : Nat) = i) (j : Nat) (hj : lv[j]? = some (i, .long x)) (k : Z wd D cl A p l e R s m args below meth c nL Q (pc + 1) lv (.long x :: st) σ) : Z wd D cl A p l e R s m args below meth c nL Q pc lv st σ :=
  fun H locs ls hP hS hl => lv_lload_n C.1 C.2.1 hd hi (lv_at hl j hj) (k H locs ls hP hS hl)
theorem z_lload (C : zC wd D cl tys A X p s m args meth c cc own nL) {i : Nat} {x : Int64} (hd : decode cc pc = .ok (.lload i, 2)) (j : Nat) (hj : lv[j]? = some (i, .long x)) (k : Z wd D cl A p l e R s m args below meth c nL Q (pc + 2) lv (.long x :: st) σ) : Z wd D cl A p l e R s m args below meth c nL Q pc lv st σ :=
  fun H locs ls hP hS hl => lv_lload C.1 C.2.1 hd (lv_at hl j hj) (k H locs ls hP hS hl)
theorem z_aload_n (C : zC wd D cl tys A X p s m args meth c cc own nL) {k0 : Fin 4} {i : Nat} {x : Nat} (hd : decode cc pc = .ok (.aload_n k0, 1)) (hi : (k0 : Nat) = i) (j : Nat) (hj : lv[j]? = some (i, .ref x)) (k : Z wd D cl A p l e R s m args below meth c nL Q (pc + 1) lv (.ref x :: st) σ) : Z wd D cl A p l e R s m args below meth c nL Q pc lv st σ :=
  fun H locs ls hP hS hl => lv_aload_n C.1 C.2.1 hd hi (lv_at hl j hj) (k H locs ls hP hS hl)
theorem z_aload (C : zC wd D cl tys A X p s m args meth c cc own nL) {i : Nat} {x : Nat} (hd : decode cc pc = .ok (.aload i, 2)) (j : Nat) (hj : lv[j]? = some (i, .ref x)) (k : Z wd D cl A p l e R s m args below meth c nL Q (pc + 2) lv (.ref x :: st) σ) : Z wd D cl A p l e R s m args below meth c nL Q pc lv st σ :=
  fun H locs ls hP hS hl => lv_aload C.1 C.2.1 hd (lv_at hl j hj) (k H locs ls hP hS hl)
abbrev z_st1 (i : Nat) (v : Value) (lv : List (Nat × Value)) : List (Nat × Value) := (i, v) :: lv.filter (fun q => !(q.1 == i) && !(q.1 + 1 == i && q.2.category == 2))
abbrev z_st2 (i : Nat) (v : Value) (lv : List (Nat × Value)) : List (Nat × Value) := (i, v) :: lv.filter (fun q => !(q.1 == i) && (!(q.1 == i + 1) && !(q.1 + 1 == i && q.2.category == 2)))
theorem z_istore_n (C : zC wd D cl tys A X p s m args meth c cc own nL) {k0 : Fin 4} {i : Nat} {x : Int32} (hd : decode cc pc = .ok (.istore_n k0, 1)) (hi : (k0 : Nat) = i) (hn : i < nL) (ks : List Nat) (hl' : lv_pick (z_st1 i (.int x) lv) ks = lv') (k : Z wd D cl A p l e R s m args below meth c nL Q (pc + 1) lv' st σ) : Z wd D cl A p l e R s m args below meth c nL Q pc lv (.int x :: st) σ :=
  fun H locs ls hP hS hl => lv_istore_n C.1 C.2.1 hd hi hl hn rfl (fun ls' h' => k H locs ls' hP hS (lv_sub h' ks hl'))
theorem z_istore (C : zC wd D cl tys A X p s m args meth c cc own nL) {i : Nat} {x : Int32} (hd : decode cc pc = .ok (.istore i, 2)) (hn : i < nL) (ks : List Nat) (hl' : lv_pick (z_st1 i (.int x) lv) ks = lv') (k : Z wd D cl A p l e R s m args below meth c nL Q (pc + 2) lv' st σ) : Z wd D cl A p l e R s m args below meth c nL Q pc lv (.int x :: st) σ :=
  fun H locs ls hP hS hl => lv_istore C.1 C.2.1 hd hl hn rfl (fun ls' h' => k H locs ls' hP hS (lv_sub h' ks hl'))
theorem z_astore_n (C : zC wd D cl tys A X p s m args meth c cc own nL) {k0 : Fin 4} {i : Nat} {x : Nat} (hd : decode cc pc = .ok (.astore_n k0, 1)) (hi : (k0 : Nat) = i) (hn : i < nL) (ks : List Nat) (hl' : lv_pick (z_st1 i (.ref x) lv) ks = lv') (k : Z wd D cl A p l e R s m args below meth c nL Q (pc + 1) lv' st σ) : Z wd D cl A p l e R s m args below meth c nL Q pc lv (.ref x :: st) σ :=
  fun H locs ls hP hS hl => lv_astore_n C.1 C.2.1 hd hi hl hn rfl (fun ls' h' => k H locs ls' hP hS (lv_sub h' ks hl'))
theorem z_astore (C : zC wd D cl tys A X p s m args meth c cc own nL) {i : Nat} {x : Nat} (hd : decode cc pc = .ok (.astore i, 2)) (hn : i < nL) (ks : List Nat) (hl' : lv_pick (z_st1 i (.ref x) lv) ks = lv') (k : Z wd D cl A p l e R s m args below meth c nL Q (pc + 2) lv' st σ) : Z wd D cl A p l e R s m args below meth c nL Q pc lv (.ref x :: st) σ :=
  fun H locs ls hP hS hl => lv_astore C.1 C.2.1 hd hl hn rfl (fun ls' h' => k H locs ls' hP hS (lv_sub h' ks hl'))
theorem z_lstore_n (C : zC wd D cl tys A X p s m args meth c cc own nL) {k0 : Fin 4} {i : Nat} {x : Int64} (hd : decode cc pc = .ok (.lstore_n k0, 1)) (hi : (k0 : Nat) = i) (hn : i + 1 < nL) (ks : List Nat) (hl' : lv_pick (z_st2 i (.long x) lv) ks = lv') (k : Z wd D cl A p l e R s m args below meth c nL Q (pc + 1) lv' st σ) : Z wd D cl A p l e R s m args below meth c nL Q pc lv (.long x :: st) σ :=
  fun H locs ls hP hS hl => lv_lstore_n C.1 C.2.1 hd hi hl hn rfl (fun ls' h' => k H locs ls' hP hS (lv_sub h' ks hl'))
theorem z_lstore (C : zC wd D cl tys A X p s m args meth c cc own nL) {i : Nat} {x : Int64} (hd : decode cc pc = .ok (.lstore i, 2)) (hn : i + 1 < nL) (ks : List Nat) (hl' : lv_pick (z_st2 i (.long x) lv) ks = lv') (k : Z wd D cl A p l e R s m args below meth c nL Q (pc + 2) lv' st σ) : Z wd D cl A p l e R s m args below meth c nL Q pc lv (.long x :: st) σ :=
  fun H locs ls hP hS hl => lv_lstore C.1 C.2.1 hd hl hn rfl (fun ls' h' => k H locs ls' hP hS (lv_sub h' ks hl'))
theorem z_iinc (C : zC wd D cl tys A X p s m args meth c cc own nL) {i : Nat} {n : Int} {x v : Int32} (hd : decode cc pc = .ok (.iinc i n, 3)) (j : Nat) (hj : lv[j]? = some (i, .int x)) (hv : x + Int32.ofInt n = v) (hn : i < nL) (ks : List Nat) (hl' : lv_pick (z_st1 i (.int v) lv) ks = lv') (k : Z wd D cl A p l e R s m args below meth c nL Q (pc + 3) lv' st σ) : Z wd D cl A p l e R s m args below meth c nL Q pc lv st σ :=
  fun H locs ls hP hS hl => lv_iinc C.1 C.2.1 hd hl hj hv hn rfl (fun ls' h' => k H locs ls' hP hS (lv_sub h' ks hl'))
/-- the locals that are still needed, in a given order -/
theorem z_lv (ks : List Nat) (h : lv_pick lv ks = lv') (k : Z wd D cl A p l e R s m args below meth c nL Q pc lv' st σ) : Z wd D cl A p l e R s m args below meth c nL Q pc lv st σ :=
  fun H locs ls hP hS hl => k H locs ls hP hS (lv_sub hl ks h)
theorem z_iadd (C : zC wd D cl tys A X p s m args meth c cc own nL) {x y : Int32} (hd : decode cc pc = .ok (.iadd, 1)) (k : Z wd D cl A p l e R s m args below meth c nL Q (pc + 1) lv (.int (x + y) :: st) σ) : Z wd D cl A p l e R s m args below meth c nL Q pc lv (.int y :: .int x :: st) σ :=
  fun H locs ls hP hS hl => lv_iadd C.1 C.2.1 hd (k H locs ls hP hS hl)
theorem z_isub (C : zC wd D cl tys A X p s m args meth c cc own nL) {x y : Int32} (hd : decode cc pc = .ok (.isub, 1)) (k : Z wd D cl A p l e R s m args below meth c nL Q (pc + 1) lv (.int (x - y) :: st) σ) : Z wd D cl A p l e R s m args below meth c nL Q pc lv (.int y :: .int x :: st) σ :=
  fun H locs ls hP hS hl => lv_isub C.1 C.2.1 hd (k H locs ls hP hS hl)
theorem z_imul (C : zC wd D cl tys A X p s m args meth c cc own nL) {x y : Int32} (hd : decode cc pc = .ok (.imul, 1)) (k : Z wd D cl A p l e R s m args below meth c nL Q (pc + 1) lv (.int (x * y) :: st) σ) : Z wd D cl A p l e R s m args below meth c nL Q pc lv (.int y :: .int x :: st) σ :=
  fun H locs ls hP hS hl => lv_imul C.1 C.2.1 hd (k H locs ls hP hS hl)
theorem z_iand (C : zC wd D cl tys A X p s m args meth c cc own nL) {x y : Int32} (hd : decode cc pc = .ok (.iand, 1)) (k : Z wd D cl A p l e R s m args below meth c nL Q (pc + 1) lv (.int (x &&& y) :: st) σ) : Z wd D cl A p l e R s m args below meth c nL Q pc lv (.int y :: .int x :: st) σ :=
  fun H locs ls hP hS hl => lv_iand C.1 C.2.1 hd (k H locs ls hP hS hl)
theorem z_ior (C : zC wd D cl tys A X p s m args meth c cc own nL) {x y : Int32} (hd : decode cc pc = .ok (.ior, 1)) (k : Z wd D cl A p l e R s m args below meth c nL Q (pc + 1) lv (.int (x ||| y) :: st) σ) : Z wd D cl A p l e R s m args below meth c nL Q pc lv (.int y :: .int x :: st) σ :=
  fun H locs ls hP hS hl => lv_ior C.1 C.2.1 hd (k H locs ls hP hS hl)
theorem z_ixor (C : zC wd D cl tys A X p s m args meth c cc own nL) {x y : Int32} (hd : decode cc pc = .ok (.ixor, 1)) (k : Z wd D cl A p l e R s m args below meth c nL Q (pc + 1) lv (.int (x ^^^ y) :: st) σ) : Z wd D cl A p l e R s m args below meth c nL Q pc lv (.int y :: .int x :: st) σ :=
  fun H locs ls hP hS hl => lv_ixor C.1 C.2.1 hd (k H locs ls hP hS hl)
theorem z_ishl (C : zC wd D cl tys A X p s m args meth c cc own nL) {x y : Int32} (hd : decode cc pc = .ok (.ishl, 1)) (k : Z wd D cl A p l e R s m args below meth c nL Q (pc + 1) lv (.int (x <<< (y &&& 31)) :: st) σ) : Z wd D cl A p l e R s m args below meth c nL Q pc lv (.int y :: .int x :: st) σ :=
  fun H locs ls hP hS hl => lv_ishl C.1 C.2.1 hd (k H locs ls hP hS hl)
theorem z_ishr (C : zC wd D cl tys A X p s m args meth c cc own nL) {x y : Int32} (hd : decode cc pc = .ok (.ishr, 1)) (k : Z wd D cl A p l e R s m args below meth c nL Q (pc + 1) lv (.int (x >>> (y &&& 31)) :: st) σ) : Z wd D cl A p l e R s m args below meth c nL Q pc lv (.int y :: .int x :: st) σ :=
  fun H locs ls hP hS hl => lv_ishr C.1 C.2.1 hd (k H locs ls hP hS hl)
theorem z_idiv (C : zC wd D cl tys A X p s m args meth c cc own nL) {x y : Int32} (hd : decode cc pc = .ok (.idiv, 1)) (hne : ¬ y = 0) (k : Z wd D cl A p l e R s m args below meth c nL Q (pc + 1) lv (.int (x / y) :: st) σ) : Z wd D cl A p l e R s m args below meth c nL Q pc lv (.int y :: .int x :: st) σ :=
  fun H locs ls hP hS hl => lv_idiv C.1 C.2.1 hd hne (k H locs ls hP hS hl)
theorem z_irem (C : zC wd D cl tys A X p s m args meth c cc own nL) {x y : Int32} (hd : decode cc pc = .ok (.irem, 1)) (hne : ¬ y = 0) (k : Z wd D cl A p l e R s m args below meth c nL Q (pc + 1) lv (.int (x - x / y * y) :: st) σ) : Z wd D cl A p l e R s m args below meth c nL Q pc lv (.int y :: .int x :: st) σ :=
  fun H locs ls hP hS hl => lv_irem C.1 C.2.1 hd hne (k H locs ls hP hS hl)
theorem z_ineg (C : zC wd D cl tys A X p s m args meth c cc own nL) {x : Int32} (hd : decode cc pc = .ok (.ineg, 1)) (k : Z wd D cl A p l e R s m args below meth c nL Q (pc + 1) lv (.int (-x) :: st) σ) : Z wd D cl A p l e R s m args below meth c nL Q pc lv (.int x :: st) σ :=
  fun H locs ls hP hS hl => lv_ineg C.1 C.2.1 hd (k H locs ls hP hS hl)
theorem z_ladd (C : zC wd D cl tys A X p s m args meth c cc own nL) {x y : Int64} (hd : decode cc pc = .ok (.ladd, 1)) (k : Z wd D cl A p l e R s m args below meth c nL Q (pc + 1) lv (.long (x + y) :: st) σ) : Z wd D cl A p l e R s m args below meth c nL Q pc lv (.long y :: .long x :: st) σ :=
  fun H locs ls hP hS hl => lv_ladd C.1 C.2.1 hd (k H locs ls hP hS hl)
theorem z_land (C : zC wd D cl tys A X p s m args meth c cc own nL) {x y : Int64} (hd : decode cc pc = .ok (.land, 1)) (k : Z wd D cl A p l e R s m args below meth c nL Q (pc + 1) lv (.long (x &&& y) :: st) σ) : Z wd D cl A p l e R s m args below meth c nL Q pc lv (.long y :: .long x :: st) σ :=
  fun H locs ls hP hS hl => lv_land C.1 C.2.1 hd (k H locs ls hP hS hl)
theorem z_lor (C : zC wd D cl tys A X p s m args meth c cc own nL) {x y : Int64} (hd : decode cc pc = .ok (.lor, 1)) (k : Z wd D cl A p l e R s m args below meth c nL Q (pc + 1) lv (.long (x ||| y) :: st) σ) : Z wd D cl A p l e R s m args below meth c nL Q pc lv (.long y :: .long x :: st) σ :=
  fun H locs ls hP hS hl => lv_lor C.1 C.2.1 hd (k H locs ls hP hS hl)
theorem z_i2b (C : zC wd D cl tys A X p s m args meth c cc own nL) {x : Int32} (hd : decode cc pc = .ok (.i2b, 1)) (k : Z wd D cl A p l e R s m args below meth c nL Q (pc + 1) lv (.int x.toInt8.toInt32 :: st) σ) : Z wd D cl A p l e R s m args below meth c nL Q pc lv (.int x :: st) σ :=
  fun H locs ls hP hS hl => lv_i2b C.1 C.2.1 hd rfl (k H locs ls hP hS hl)
theorem z_i2c (C : zC wd D cl tys A X p s m args meth c cc own nL) {x : Int32} (hd : decode cc pc = .ok (.i2c, 1)) (k : Z wd D cl A p l e R s m args below meth c nL Q (pc + 1) lv (.int (x.toUInt32 % 65536).toInt32 :: st) σ) : Z wd D cl A p l e R s m args below meth c nL Q pc lv (.int x :: st) σ :=
  fun H locs ls hP hS hl => lv_i2c C.1 C.2.1 hd rfl (k H locs ls hP hS hl)
theorem z_iushr (C : zC wd D cl tys A X p s m args meth c cc own nL) {x y : Int32} (hd : decode cc pc = .ok (.iushr, 1)) (k : Z wd D cl A p l e R s m args below meth c nL Q (pc + 1) lv (.int (x.toUInt32 >>> (y.toUInt32 &&& Int32.toUInt32 31)).toInt32 :: st) σ) : Z wd D cl A p l e R s m args below meth c nL Q pc lv (.int y :: .int x :: st) σ :=
  fun H locs ls hP hS hl => lv_iushr C.1 C.2.1 hd rfl (k H locs ls hP hS hl)
theorem z_lushr (C : zC wd D cl tys A X p s m args meth c cc own nL) {x : Int64} {y : Int32} (hd : decode cc pc = .ok (.lushr, 1)) (k : Z wd D cl A p l e R s m args below meth c nL Q (pc + 1) lv (.long (x.toUInt64 >>> (y.toInt64.toUInt64 &&& Int64.toUInt64 63)).toInt64 :: st) σ) : Z wd D cl A p l e R s m args below meth c nL Q pc lv (.int y :: .long x :: st) σ :=
  fun H locs ls hP hS hl => lv_lushr C.1 C.2.1 hd rfl (k H locs ls hP hS hl)
theorem z_lshl (C : zC wd D cl tys A X p s m args meth c cc own nL) {x : Int64} {y : Int32} (hd : decode cc pc = .ok (.lshl, 1)) (k : Z wd D cl A p l e R s m args below meth c nL Q (pc + 1) lv (.long (x <<< (y.toInt64 &&& 63)) :: st) σ) : Z wd D cl A p l e R s m args below meth c nL Q pc lv (.int y :: .long x :: st) σ :=
  fun H locs ls hP hS hl => lv_lshl C.1 C.2.1 hd rfl (k H locs ls hP hS hl)
theorem z_lcmp (C : zC wd D cl tys A X p s m args meth c cc own nL) {x y : Int64} (hd : decode cc pc = .ok (.lcmp, 1)) (k : Z wd D cl A p l e R s m args below meth c nL Q (pc + 1) lv (.int (lg_cmp x y) :: st) σ) : Z wd D cl A p l e R s m args below meth c nL Q pc lv (.long y :: .long x :: st) σ :=
  fun H locs ls hP hS hl => W.lcmp C.1 C.2.1 hd (k H locs ls hP hS hl)
theorem z_i2l (C : zC wd D cl tys A X p s m args meth c cc own nL) {x : Int32} (hd : decode cc pc = .ok (.i2l, 1)) (k : Z wd D cl A p l e R s m args below meth c nL Q (pc + 1) lv (.long x.toInt64 :: st) σ) : Z wd D cl A p l e R s m args below meth c nL Q pc lv (.int x :: st) σ :=
  fun H locs ls hP hS hl => lv_i2l C.1 C.2.1 hd (by rfl) (k H locs ls hP hS hl)
theorem z_l2i (C : zC wd D cl tys A X p s m args meth c cc own nL) {x : Int64} (hd : decode cc pc = .ok (.l2i, 1)) (k : Z wd D cl A p l e R s m args below meth c nL Q (pc + 1) lv (.int x.toInt32 :: st) σ) : Z wd D cl A p l e R s m args below meth c nL Q pc lv (.long x :: st) σ :=
  fun H locs ls hP hS hl => lv_l2i C.1 C.2.1 hd (by rfl) (k H locs ls hP hS hl)
theorem z_dup (C : zC wd D cl tys A X p s m args meth c cc own nL) {v : Value} (hd : decode cc pc = .ok (.dup, 1)) (hc : v.category = 1) (k : Z wd D cl A p l e R s m args below meth c nL Q (pc + 1) lv (v :: v :: st) σ) : Z wd D cl A p l e R s m args below meth c nL Q pc lv (v :: st) σ :=
  fun H locs ls hP hS hl => lv_dup C.1 C.2.1 hd hc (k H locs ls hP hS hl)
theorem z_pop (C : zC wd D cl tys A X p s m args meth c cc own nL) {v : Value} (hd : decode cc pc = .ok (.pop, 1)) (hc : v.category = 1) (k : Z wd D cl A p l e R s m args below meth c nL Q (pc + 1) lv st σ) : Z wd D cl A p l e R s m args below meth c nL Q pc lv (v :: st) σ :=
  fun H locs ls hP hS hl => lv_pop C.1 C.2.1 hd hc (k H locs ls hP hS hl)
theorem z_dup2 (C : zC wd D cl tys A X p s m args meth c cc own nL) {v w : Value} (hd : decode cc pc = .ok (.dup2, 1)) (hv : v.category = 1) (hw : w.category = 1) (k : Z wd D cl A p l e R s m args below meth c nL Q (pc + 1) lv (v :: w :: v :: w :: st) σ) : Z wd D cl A p l e R s m args below meth c nL Q pc lv (v :: w :: st) σ :=
  fun H locs ls hP hS hl => lv_dup2_11 C.1 C.2.1 hd hv hw (k H locs ls hP hS hl)
theorem z_if_eq (C : zC wd D cl tys A X p s m args meth c cc own nL) {x : Int32} {off : Int} {tgt : Nat} (hd : decode cc pc = .ok (.ifCond .eq off, 3)) (ht : (pc : Int) + off = (tgt : Int)) (kt : x = 0 → Z wd D cl A p l e R s m args below meth c nL Q tgt lv st σ) (kf : ¬ x = 0 → Z wd D cl A p l e R s m args below meth c nL Q (pc + 3) lv st σ) : Z wd D cl A p l e R s m args below meth c nL Q pc lv (.int x :: st) σ :=
  fun H locs ls hP hS hl => lv_if_eq C.1 C.2.1 hd ht (fun h => kt h H locs ls hP hS hl) (fun h => kf h H locs ls hP hS hl)
theorem z_if_ne (C : zC wd D cl tys A X p s m args meth c cc own nL) {x : Int32} {off : Int} {tgt : Nat} (hd : decode cc pc = .ok (.ifCond .ne off, 3)) (ht : (pc : Int) + off = (tgt : Int)) (kt : ¬ x = 0 → Z wd D cl A p l e R s m args below meth c nL Q tgt lv st σ) (kf : x = 0 → Z wd D cl A p l e R s m args below meth c nL Q (pc + 3) lv st σ) : Z wd D cl A p l e R s m args below meth c nL Q pc lv (.int x :: st) σ :=
  fun H locs ls hP hS hl => lv_if_ne C.1 C.2.1 hd ht (fun h => kt h H locs ls hP hS hl) (fun h => kf h H locs ls hP hS hl)
theorem z_if_lt (C : zC wd D cl tys A X p s m args meth c cc own nL) {x : Int32} {off : Int} {tgt : Nat} (hd : decode cc pc = .ok (.ifCond .lt off, 3)) (ht : (pc : Int) + off = (tgt : Int)) (kt : x < 0 → Z wd D cl A p l e R s m args below meth c nL Q tgt lv st σ) (kf : ¬ x < 0 → Z wd D cl A p l e R s m args below meth c nL Q (pc + 3) lv st σ) : Z wd D cl A p l e R s m args below meth c nL Q pc lv (.int x :: st) σ :=
  fun H locs ls hP hS hl => lv_if_lt C.1 C.2.1 hd ht (fun h => kt h H locs ls hP hS hl) (fun h => kf h H locs ls hP hS hl)
theorem z_if_ge (C : zC wd D cl tys A X p s m args meth c cc own nL) {x : Int32} {off : Int} {tgt : Nat} (hd : decode cc pc = .ok (.ifCond .ge off, 3)) (ht : (pc : Int) + off = (tgt : Int)) (kt : 0 ≤ x → Z wd D cl A p l e R s m args below meth c nL Q tgt lv st σ) (kf : ¬ 0 ≤ x → Z wd D cl A p l e R s m args below meth c nL Q (pc + 3) lv st σ) : Z wd D cl A p l e R s m args below meth c nL Q pc lv (.int x :: st) σ :=
  fun H locs ls hP hS hl => lv_if_ge C.1 C.2.1 hd ht (fun h => kt h H locs ls hP hS hl) (fun h => kf h H locs ls hP hS hl)
theorem z_if_gt (C : zC wd D cl tys A X p s m args meth c cc own nL) {x : Int32} {off : Int} {tgt : Nat} (hd : decode cc pc = .ok (.ifCond .gt off, 3)) (ht : (pc : Int) + off = (tgt : Int)) (kt : 0 < x → Z wd D cl A p l e R s m args below meth c nL Q tgt lv st σ) (kf : ¬ 0 < x → Z wd D cl A p l e R s m args below meth c nL Q (pc + 3) lv st σ) : Z wd D cl A p l e R s m args below meth c nL Q pc lv (.int x :: st) σ :=
  fun H locs ls hP hS hl => lv_if_gt C.1 C.2.1 hd ht (fun h => kt h H locs ls hP hS hl) (fun h => kf h H locs ls hP hS hl)
theorem z_if_le (C : zC wd D cl tys A X p s m args meth c cc own nL) {x : Int32} {off : Int} {tgt : Nat} (hd : decode cc pc = .ok (.ifCond .le off, 3)) (ht : (pc : Int) + off = (tgt : Int)) (kt : x ≤ 0 → Z wd D cl A p l e R s m args below meth c nL Q tgt lv st σ) (kf : ¬ x ≤ 0 → Z wd D cl A p l e R s m args below meth c nL Q (pc + 3) lv st σ) : Z wd D cl A p l e R s m args below meth c nL Q pc lv (.int x :: st) σ :=
  fun H locs ls hP hS hl => lv_if_le C.1 C.2.1 hd ht (fun h => kt h H locs ls hP hS hl) (fun h => kf h H locs ls hP hS hl)
theorem z_icmp_eq (C : zC wd D cl tys A X p s m args meth c cc own nL) {x y : Int32} {off : Int} {tgt : Nat} (hd : decode cc pc = .ok (.if_icmp .eq off, 3)) (ht : (pc : Int) + off = (tgt : Int)) (kt : x = y → Z wd D cl A p l e R s m args below meth c nL Q tgt lv st σ) (kf : ¬ x = y → Z wd D cl A p l e R s m args below meth c nL Q (pc + 3) lv st σ) : Z wd D cl A p l e R s m args below meth c nL Q pc lv (.int y :: .int x :: st) σ :=
  fun H locs ls hP hS hl => lv_icmp_eq C.1 C.2.1 hd ht (fun h => kt h H locs ls hP hS hl) (fun h => kf h H locs ls hP hS hl)
theorem z_icmp_ne (C : zC wd D cl tys A X p s m args meth c cc own nL) {x y : Int32} {off : Int} {tgt : Nat} (hd : decode cc pc = .ok (.if_icmp .ne off, 3)) (ht : (pc : Int) + off = (tgt : Int)) (kt : ¬ x = y → Z wd D cl A p l e R s m args below meth c nL Q tgt lv st σ) (kf : x = y → Z wd D cl A p l e R s m args below meth c nL Q (pc + 3) lv st σ) : Z wd D cl A p l e R s m args below meth c nL Q pc lv (.int y :: .int x :: st) σ :=
  fun H locs ls hP hS hl => lv_icmp_ne C.1 C.2.1 hd ht (fun h => kt h H locs ls hP hS hl) (fun h => kf h H locs ls hP hS hl)
theorem z_icmp_lt (C : zC wd D cl tys A X p s m args meth c cc own nL) {x y : Int32} {off : Int} {tgt : Nat} (hd : decode cc pc = .ok (.if_icmp .lt off, 3)) (ht : (pc : Int) + off = (tgt : Int)) (kt : x < y → Z wd D cl A p l e R s m args below meth c nL Q tgt lv st σ) (kf : ¬ x < y → Z wd D cl A p l e R s m args below meth c nL Q (pc + 3) lv st σ) : Z wd D cl A p l e R s m args below meth c nL Q pc lv (.int y :: .int x :: st) σ :=
  fun H locs ls hP hS hl => lv_icmp_lt C.1 C.2.1 hd ht (fun h => kt h H locs ls hP hS hl) (fun h => kf h H locs ls hP hS hl)
theorem z_icmp_ge (C : zC wd D cl tys A X p s m args meth c cc own nL) {x y : Int32} {off : Int} {tgt : Nat} (hd : decode cc pc = .ok (.if_icmp .ge off, 3)) (ht : (pc : Int) + off = (tgt : Int)) (kt : y ≤ x → Z wd D cl A p l e R s m args below meth c nL Q tgt lv st σ) (kf : ¬ y ≤ x → Z wd D cl A p l e R s m args below meth c nL Q (pc + 3) lv st σ) : Z wd D cl A p l e R s m args below meth c nL Q pc lv (.int y :: .int x :: st) σ :=
  fun H locs ls hP hS hl => lv_icmp_ge C.1 C.2.1 hd ht (fun h => kt h H locs ls hP hS hl) (fun h => kf h H locs ls hP hS hl)
theorem z_icmp_gt (C : zC wd D cl tys A X p s m args meth c cc own nL) {x y : Int32} {off : Int} {tgt : Nat} (hd : decode cc pc = .ok (.if_icmp .gt off, 3)) (ht : (pc : Int) + off = (tgt : Int)) (kt : y < x → Z wd D cl A p l e R s m args below meth c nL Q tgt lv st σ) (kf : ¬ y < x → Z wd D cl A p l e R s m args below meth c nL Q (pc + 3) lv st σ) : Z wd D cl A p l e R s m args below meth c nL Q pc lv (.int y :: .int x :: st) σ :=
  fun H locs ls hP hS hl => lv_icmp_gt C.1 C.2.1 hd ht (fun h => kt h H locs ls hP hS hl) (fun h => kf h H locs ls hP hS hl)
theorem z_icmp_le (C : zC wd D cl tys A X p s m args meth c cc own nL) {x y : Int32} {off : Int} {tgt : Nat} (hd : decode cc pc = .ok (.if_icmp .le off, 3)) (ht : (pc : Int) + off = (tgt : Int)) (kt : x ≤ y → Z wd D cl A p l e R s m args below meth c nL Q tgt lv st σ) (kf : ¬ x ≤ y → Z wd D cl A p l e R s m args below meth c nL Q (pc + 3) lv st σ) : Z wd D cl A p l e R s m args below meth c nL Q pc lv (.int y :: .int x :: st) σ :=
  fun H locs ls hP hS hl => lv_icmp_le C.1 C.2.1 hd ht (fun h => kt h H locs ls hP hS hl) (fun h => kf h H locs ls hP hS hl)
theorem z_goto (C : zC wd D cl tys A X p s m args meth c cc own nL) {off : Int} {tgt : Nat} (hd : decode cc pc = .ok (.goto off, 3)) (ht : (pc : Int) + off = (tgt : Int)) (k : Z wd D cl A p l e R s m args below meth c nL Q tgt lv st σ) : Z wd D cl A p l e R s m args below meth c nL Q pc lv st σ :=
  fun H locs ls hP hS hl => lv_goto C.1 C.2.1 hd ht (k H locs ls hP hS hl)
theorem z_tableOut (C : zC wd D cl tys A X p s m args meth c cc own nL) {dflt lo hi : Int} {offs : Array Int} {len : Nat} {x : Int32} {tgt : Nat} (hd : decode cc pc = .ok (.tableswitch dflt lo hi offs, len)) (h : x.toInt < lo ∨ hi < x.toInt) (ht : (pc : Int) + dflt = (tgt : Int)) (k : Z wd D cl A p l e R s m args below meth c nL Q tgt lv st σ) : Z wd D cl A p l e R s m args below meth c nL Q pc lv (.int x :: st) σ :=
  fun H locs ls hP hS hl => lv_tableOut C.1 C.2.1 hd h ht (k H locs ls hP hS hl)
theorem z_tableIn (C : zC wd D cl tys A X p s m args meth c cc own nL) {dflt lo hi : Int} {offs : Array Int} {len : Nat} {x : Int32} {off : Int} {tgt : Nat} (hd : decode cc pc = .ok (.tableswitch dflt lo hi offs, len)) (h1 : ¬ x.toInt < lo) (h2 : ¬ hi < x.toInt) (ho : offs[(x.toInt - lo).toNat]? = some off) (ht : (pc : Int) + off = (tgt : Int)) (k : Z wd D cl A p l e R s m args below meth c nL Q tgt lv st σ) : Z wd D cl A p l e R s m args below meth c nL Q pc lv (.int x :: st) σ :=
  fun H locs ls hP hS hl => lv_tableIn C.1 C.2.1 hd h1 h2 ho ht (k H locs ls hP hS hl)
theorem z_get (C : zC wd D cl tys A X p s m args meth c cc own nL) (k0 : Nat) {ref C' : String} {T : u_T} {N ci index q0 a : Nat} {fs : List Value} {v : Value} (hw : Cond.fieldLink own index ref (T k0).2.1 (T k0).2.2.1 ∈ lw_good) (hin : ∀ w ∈ u_ws C' T N, w ∈ lw_good) (hc : cl[ci]? = some (C', T, N)) (he : (wd σ)[q0]? = some (a, .inr (ci, fs))) (hk : k0 < N) (href : (T k0).1 = ref) (hv : fs[k0]? = some v) (hd : decode cc pc = .ok (.getfield index, 3)) (k : Z wd D cl A p l e R s m args below meth c nL Q (pc + 3) lv (v :: st) σ) : Z wd D cl A p l e R s m args below meth c nL Q pc lv (.ref a :: st) σ :=
  fun H locs ls hP hS hl => va_get (D := D) C.1 C.2.1 C.2.2.2.2.1 hin C.2.2.2.1 C.2.2.2.2.2.1 hP q0 he hc k0 hk (C.2.2.2.2.1 _ hw) (fun x h => by rw [← href]; exact h) hv hd (k H locs ls hP hS hl)
theorem z_getN (C : zC wd D cl tys A X p s m args meth c cc own nL) (k0 : Nat) {ref C' : String} {T : u_T} {N ci index q0 a : Nat} {fs : List Value} {v : Value} {host : String} (hw : Cond.fieldLinkNest own index ref (T k0).2.1 (T k0).2.2.1 host ∈ lw_nest) (hin : ∀ w ∈ u_ws C' T N, w ∈ lw_good) (hc : cl[ci]? = some (C', T, N)) (he : (wd σ)[q0]? = some (a, .inr (ci, fs))) (hk : k0 < N) (href : (T k0).1 = ref) (hv : fs[k0]? = some v) (hd : decode cc pc = .ok (.getfield index, 3)) (k : Z wd D cl A p l e R s m args below meth c nL Q (pc + 3) lv (v :: st) σ) : Z wd D cl A p l e R s m args below meth c nL Q pc lv (.ref a :: st) σ :=
  fun H locs ls hP hS hl => va_getN (D := D) C.1 C.2.1 C.2.2.2.2.1 hin C.2.2.2.1 C.2.2.2.2.2.1 hP q0 he hc k0 hk (va_Nw.use rfl (C.2.2.2.2.2.2.2.2.1 _ hw)) (fun x h => by rw [← href]; exact h) hv hd (k H locs ls hP hS hl)
theorem z_put (C : zC wd D cl tys A X p s m args meth c cc own nL) (k0 : Nat) {ref C' : String} {T : u_T} {N ci index q0 a : Nat} {fs : List Value} {v : Value} {ty : FieldType} (hw : Cond.fieldLink own index ref (T k0).2.1 (T k0).2.2.1 ∈ lw_good) (hin : ∀ w ∈ u_ws C' T N, w ∈ lw_good) (ty0 : Nat → FieldType) (hty : ∀ k, k < N → parseFieldDescriptor (T k).2.2.1 = some (ty0 k)) (hnm : ∀ a, a < N → ∀ b, b < N → a ≠ b → (T a).2.1 ≠ (T b).2.1) (hc : cl[ci]? = some (C', T, N)) (he : (wd σ)[q0]? = some (a, .inr (ci, fs))) (hk : k0 < N) (href : (T k0).1 = ref) (hfin : (T k0).2.2.2 = false) (hty2 : parseFieldDescriptor (T k0).2.2.1 = some ty) (hn : narrow ty v = v) (hfit : fits ty v = true) (hl0 : k0 < fs.length) (hset : (wd σ).set q0 (a, .inr (ci, fs.set k0 v)) = wd σ') (hd : decode cc pc = .ok (.putfield index, 3)) (k : Z wd D cl A p l e R s m args below meth c nL Q (pc + 3) lv st σ') : Z wd D cl A p l e R s m args below meth c nL Q pc lv (v :: .ref a :: st) σ :=
  fun H locs ls hP hS hl => va_put (D := D) C.1 C.2.1 C.2.2.2.2.1 hin ty0 hty hnm C.2.2.2.1 C.2.2.2.2.2.1 hP (C.2.2.2.2.2.2.2.1 σ) hS q0 he hc k0 hk (C.2.2.2.2.1 _ hw) (fun x h => by rw [← href]; exact h) hfin hty2 hn hfit hl0 hd (fun H1 locs1 hP1 hD1 hS1 => k H1 locs1 ls (by rw [← hset]; exact hP1) hS1 hl)
theorem z_putN (C : zC wd D cl tys A X p s m args meth c cc own nL) (k0 : Nat) {ref C' : String} {T : u_T} {N ci index q0 a : Nat} {fs : List Value} {v : Value} {host : String} {ty : FieldType} (hw : Cond.fieldLinkNest own index ref (T k0).2.1 (T k0).2.2.1 host ∈ lw_nest) (hin : ∀ w ∈ u_ws C' T N, w ∈ lw_good) (ty0 : Nat → FieldType) (hty : ∀ k, k < N → parseFieldDescriptor (T k).2.2.1 = some (ty0 k)) (hnm : ∀ a, a < N → ∀ b, b < N → a ≠ b → (T a).2.1 ≠ (T b).2.1) (hc : cl[ci]? = some (C', T, N)) (he : (wd σ)[q0]? = some (a, .inr (ci, fs))) (hk : k0 < N) (href : (T k0).1 = ref) (hfin : (T k0).2.2.2 = false) (hty2 : parseFieldDescriptor (T k0).2.2.1 = some ty) (hn : narrow ty v = v) (hfit : fits ty v = true) (hl0 : k0 < fs.length) (hset : (wd σ).set q0 (a, .inr (ci, fs.set k0 v)) = wd σ') (hd : decode cc pc = .ok (.putfield index, 3)) (k : Z wd D cl A p l e R s m args below meth c nL Q (pc + 3) lv st σ') : Z wd D cl A p l e R s m args below meth c nL Q pc lv (v :: .ref a :: st) σ :=
  fun H locs ls hP hS hl => va_putN (D := D) C.1 C.2.1 C.2.2.2.2.1 hin ty0 hty hnm C.2.2.2.1 C.2.2.2.2.2.1 hP (C.2.2.2.2.2.2.2.1 σ) hS q0 he hc k0 hk (va_Nw.use rfl (C.2.2.2.2.2.2.2.2.1 _ hw)) (fun x h => by rw [← href]; exact h) hfin hty2 hn hfit hl0 hd (fun H1 locs1 hP1 hD1 hS1 => k H1 locs1 ls (by rw [← hset]; exact hP1) hS1 hl)
theorem z_iald (C : zC wd D cl tys A X p s m args meth c cc own nL) {q0 t0 a n : Nat} {cA : ClassId} {f : Nat → Int32} {i : Int32} (he : (wd σ)[q0]? = some (a, .inl (cA, n, .inl f))) (ht : tys[t0]? = some (cA, .int)) (hin : inb i n = true) (hd : decode cc pc = .ok (.iaload, 1)) (k : Z wd D cl A p l e R s m args below meth c nL Q (pc + 1) lv (.int (f i.toNatClampNeg) :: st) σ) : Z wd D cl A p l e R s m args below meth c nL Q pc lv (.int i :: .ref a :: st) σ :=
  fun H locs ls hP hS hl => va_iald C.1 C.2.1 C.2.2.2.2.2.1 hP q0 t0 he ht (inb_in hin) hd (k H locs ls hP hS hl)
theorem z_bald (C : zC wd D cl tys A X p s m args meth c cc own nL) {q0 t0 a n : Nat} {cA : ClassId} {f : Nat → Int32} {i : Int32} (he : (wd σ)[q0]? = some (a, .inl (cA, n, .inl f))) (ht : tys[t0]? = some (cA, .byte)) (hin : inb i n = true) (hd : decode cc pc = .ok (.baload, 1)) (k : Z wd D cl A p l e R s m args below meth c nL Q (pc + 1) lv (.int (f i.toNatClampNeg) :: st) σ) : Z wd D cl A p l e R s m args below meth c nL Q pc lv (.int i :: .ref a :: st) σ :=
  fun H locs ls hP hS hl => va_bald C.1 C.2.1 C.2.2.2.2.2.1 hP q0 t0 he ht (inb_in hin) hd (k H locs ls hP hS hl)
theorem z_zald (C : zC wd D cl tys A X p s m args meth c cc own nL) {q0 t0 a n : Nat} {cA : ClassId} {f : Nat → Int32} {i : Int32} (he : (wd σ)[q0]? = some (a, .inl (cA, n, .inl f))) (ht : tys[t0]? = some (cA, .boolean)) (hin : inb i n = true) (hd : decode cc pc = .ok (.baload, 1)) (k : Z wd D cl A p l e R s m args below meth c nL Q (pc + 1) lv (.int (f i.toNatClampNeg) :: st) σ) : Z wd D cl A p l e R s m args below meth c nL Q pc lv (.int i :: .ref a :: st) σ :=
  fun H locs ls hP hS hl => va_zald C.1 C.2.1 C.2.2.2.2.2.1 hP q0 t0 he ht (inb_in hin) hd (k H locs ls hP hS hl)
theorem z_lald (C : zC wd D cl tys A X p s m args meth c cc own nL) {q0 t0 a n : Nat} {cA : ClassId} {f : Nat → Int64} {i : Int32} (he : (wd σ)[q0]? = some (a, .inl (cA, n, .inr (.inl f)))) (ht : tys[t0]? = some (cA, .long)) (hin : inb i n = true) (hd : decode cc pc = .ok (.laload, 1)) (k : Z wd D cl A p l e R s m args below meth c nL Q (pc + 1) lv (.long (f i.toNatClampNeg) :: st) σ) : Z wd D cl A p l e R s m args below meth c nL Q pc lv (.int i :: .ref a :: st) σ :=
  fun H locs ls hP hS hl => va_lald C.1 C.2.1 C.2.2.2.2.2.1 hP q0 t0 he ht (inb_in hin) hd (k H locs ls hP hS hl)
theorem z_iast (C : zC wd D cl tys A X p s m args meth c cc own nL) {q0 t0 a n : Nat} {cA : ClassId} {f : Nat → Int32} {i : Int32} {x : Int32} (he : (wd σ)[q0]? = some (a, .inl (cA, n, .inl f))) (ht : tys[t0]? = some (cA, .int)) (hin : inb i n = true) (hset : (wd σ).set q0 (a, .inl (cA, n, .inl (upd f i.toNatClampNeg x))) = wd σ') (hd : decode cc pc = .ok (.iastore, 1)) (k : Z wd D cl A p l e R s m args below meth c nL Q (pc + 1) lv st σ') : Z wd D cl A p l e R s m args below meth c nL Q pc lv (.int x :: .int i :: .ref a :: st) σ :=
  fun H locs ls hP hS hl => va_iast C.1 C.2.1 C.2.2.2.2.2.1 hP (C.2.2.2.2.2.2.2.1 σ) hS q0 t0 he ht (inb_in hin) hd (fun H1 locs1 hP1 hD1 hS1 => k H1 locs1 ls (by rw [← hset]; exact hP1) hS1 hl)
theorem z_bast (C : zC wd D cl tys A X p s m args meth c cc own nL) {q0 t0 a n : Nat} {cA : ClassId} {f : Nat → Int32} {i : Int32} {x : Int32} (he : (wd σ)[q0]? = some (a, .inl (cA, n, .inl f))) (ht : tys[t0]? = some (cA, .byte)) (hin : inb i n = true) (hset : (wd σ).set q0 (a, .inl (cA, n, .inl (upd f i.toNatClampNeg (vp_nar .byte x)))) = wd σ') (hd : decode cc pc = .ok (.bastore, 1)) (k : Z wd D cl A p l e R s m args below meth c nL Q (pc + 1) lv st σ') : Z wd D cl A p l e R s m args below meth c nL Q pc lv (.int x :: .int i :: .ref a :: st) σ :=
  fun H locs ls hP hS hl => va_bast C.1 C.2.1 C.2.2.2.2.2.1 hP (C.2.2.2.2.2.2.2.1 σ) hS q0 t0 he ht (inb_in hin) hd (fun H1 locs1 hP1 hD1 hS1 => k H1 locs1 ls (by rw [← hset]; exact hP1) hS1 hl)
theorem z_zast (C : zC wd D cl tys A X p s m args meth c cc own nL) {q0 t0 a n : Nat} {cA : ClassId} {f : Nat → Int32} {i : Int32} {x : Int32} (he : (wd σ)[q0]? = some (a, .inl (cA, n, .inl f))) (ht : tys[t0]? = some (cA, .boolean)) (hin : inb i n = true) (hset : (wd σ).set q0 (a, .inl (cA, n, .inl (upd f i.toNatClampNeg (vp_nar .boolean x)))) = wd σ') (hd : decode cc pc = .ok (.bastore, 1)) (k : Z wd D cl A p l e R s m args below meth c nL Q (pc + 1) lv st σ') : Z wd D cl A p l e R s m args below meth c nL Q pc lv (.int x :: .int i :: .ref a :: st) σ :=
  fun H locs ls hP hS hl => va_zast C.1 C.2.1 C.2.2.2.2.2.1 hP (C.2.2.2.2.2.2.2.1 σ) hS q0 t0 he ht (inb_in hin) hd (fun H1 locs1 hP1 hD1 hS1 => k H1 locs1 ls (by rw [← hset]; exact hP1) hS1 hl)
theorem z_last (C : zC wd D cl tys A X p s m args meth c cc own nL) {q0 t0 a n : Nat} {cA : ClassId} {f : Nat → Int64} {i : Int32} {x : Int64} (he : (wd σ)[q0]? = some (a, .inl (cA, n, .inr (.inl f)))) (ht : tys[t0]? = some (cA, .long)) (hin : inb i n = true) (hset : (wd σ).set q0 (a, .inl (cA, n, .inr (.inl (vp_updL f i.toNatClampNeg x)))) = wd σ') (hd : decode cc pc = .ok (.lastore, 1)) (k : Z wd D cl A p l e R s m args below meth c nL Q (pc + 1) lv st σ') : Z wd D cl A p l e R s m args below meth c nL Q pc lv (.long x :: .int i :: .ref a :: st) σ :=
  fun H locs ls hP hS hl => va_last C.1 C.2.1 C.2.2.2.2.2.1 hP (C.2.2.2.2.2.2.2.1 σ) hS q0 t0 he ht (inb_in hin) hd (fun H1 locs1 hP1 hD1 hS1 => k H1 locs1 ls (by rw [← hset]; exact hP1) hS1 hl)
theorem z_alen (C : zC wd D cl tys A X p s m args meth c cc own nL) {q0 t0 a : Nat} {cA : ClassId} {x : vp_A} {ty : FieldType} {v : Int32} (he : (wd σ)[q0]? = some (a, .inl (cA, x))) (ht : tys[t0]? = some (cA, ty)) (hv : Int32.ofNat x.1 = v) (hd : decode cc pc = .ok (.arraylength, 1)) (k : Z wd D cl A p l e R s m args below meth c nL Q (pc + 1) lv (.int v :: st) σ) : Z wd D cl A p l e R s m args below meth c nL Q pc lv (.ref a :: st) σ :=
  fun H locs ls hP hS hl => va_alen C.1 C.2.1 C.2.2.2.2.2.1 hP q0 t0 he ht hv hd (k H locs ls hP hS hl)
end ZL
