/-! The state of a world, and what the mirrors of methods speak of. Own text. -/
abbrev zS : Type := (Nat → Int32) × (Nat → Nat → Int32) × (Nat → Int64) × (Nat → Nat → Int64) × (Nat → Nat) × (Nat → Int32) × (Nat → Nat → Int32) × (Nat → Nat → Int64)
def gi (σ : zS) (k : Nat) : Int32 := σ.1 k
def ga (σ : zS) (k : Nat) : Nat → Int32 := σ.2.1 k
def gl (σ : zS) (k : Nat) : Int64 := σ.2.2.1 k
def gb (σ : zS) (k : Nat) : Nat → Int64 := σ.2.2.2.1 k
def gr (σ : zS) (k : Nat) : Nat := σ.2.2.2.2.1 k
def mi (σ : zS) (k : Nat) : Int32 := σ.2.2.2.2.2.1 k
def ma (σ : zS) (k : Nat) : Nat → Int32 := σ.2.2.2.2.2.2.1 k
def mb (σ : zS) (k : Nat) : Nat → Int64 := σ.2.2.2.2.2.2.2 k
def fu {α : Type} (f : Nat → α) (k : Nat) (v : α) : Nat → α := fun j => if j = k then v else f j
def si (σ : zS) (k : Nat) (v : Int32) : zS := (fu σ.1 k v, σ.2)
def sA (σ : zS) (k : Nat) (f : Nat → Int32) : zS := (σ.1, fu σ.2.1 k f, σ.2.2)
def sa (σ : zS) (k i : Nat) (v : Int32) : zS := sA σ k (upd (ga σ k) i v)
def sl (σ : zS) (k : Nat) (v : Int64) : zS := (σ.1, σ.2.1, fu σ.2.2.1 k v, σ.2.2.2)
def sB (σ : zS) (k : Nat) (f : Nat → Int64) : zS := (σ.1, σ.2.1, σ.2.2.1, fu σ.2.2.2.1 k f, σ.2.2.2.2)
def sb (σ : zS) (k i : Nat) (v : Int64) : zS := sB σ k (vp_updL (gb σ k) i v)
def sr (σ : zS) (k : Nat) (v : Nat) : zS := (σ.1, σ.2.1, σ.2.2.1, σ.2.2.2.1, fu σ.2.2.2.2.1 k v, σ.2.2.2.2.2)
def ti (σ : zS) (k : Nat) (v : Int32) : zS := (σ.1, σ.2.1, σ.2.2.1, σ.2.2.2.1, σ.2.2.2.2.1, fu σ.2.2.2.2.2.1 k v, σ.2.2.2.2.2.2)
def tA (σ : zS) (k : Nat) (f : Nat → Int32) : zS := (σ.1, σ.2.1, σ.2.2.1, σ.2.2.2.1, σ.2.2.2.2.1, σ.2.2.2.2.2.1, fu σ.2.2.2.2.2.2.1 k f, σ.2.2.2.2.2.2.2)
def ta (σ : zS) (k i : Nat) (v : Int32) : zS := tA σ k (upd (ma σ k) i v)
def tB (σ : zS) (k : Nat) (f : Nat → Int64) : zS := (σ.1, σ.2.1, σ.2.2.1, σ.2.2.2.1, σ.2.2.2.2.1, σ.2.2.2.2.2.1, σ.2.2.2.2.2.2.1, fu σ.2.2.2.2.2.2.2 k f)
def tb (σ : zS) (k i : Nat) (v : Int64) : zS := tB σ k (vp_updL (mb σ k) i v)
def isB (x : Int32) : Bool := decide (x = 0) || decide (x = 1)
theorem isB_or {x : Int32} (h : isB x = true) : x = 0 ∨ x = 1 := by simpa [isB] using h
theorem isB_n {x : Int32} (h : isB x = true) : narrow .boolean (.int x) = .int x := by rcases isB_or h with rfl | rfl <;> decide
theorem isB_f {x : Int32} (h : isB x = true) : fits .boolean (.int x) = true := by rcases isB_or h with rfl | rfl <;> decide
theorem isB_v {x : Int32} (h : isB x = true) : vp_nar .boolean x = x := by rcases isB_or h with rfl | rfl <;> decide
theorem ii {x : Int32} {n : Int} {v : Int32} (h : Int32.ofInt n = v) : x + Int32.ofInt n = x + v := by rw [h]
def cpB (f : Nat → Int32) (sp n : Nat) : Bool := (List.range n).all (fun i => fits .byte (.int (f (sp + i))))
theorem cpB_f {f : Nat → Int32} {sp n : Nat} (h : cpB f sp n = true) : ∀ i, i < n → fits .byte (.int (f (sp + i))) = true := fun i hi => List.all_eq_true.mp h i (List.mem_range.mpr hi)
def cpG (sp dp n : Int32) (n0 n1 : Nat) : Bool := decide (¬ sp < 0) && (decide (¬ dp < 0) && (decide (¬ n < 0) && (decide (sp.toNatClampNeg + n.toNatClampNeg ≤ n0) && decide (dp.toNatClampNeg + n.toNatClampNeg ≤ n1))))
theorem cpG_s {sp dp n : Int32} {n0 n1 : Nat} (h : cpG sp dp n n0 n1 = true) : ¬ sp < 0 ∧ ¬ dp < 0 ∧ ¬ n < 0 ∧ sp.toNatClampNeg + n.toNatClampNeg ≤ n0 ∧ dp.toNatClampNeg + n.toNatClampNeg ≤ n1 := by
  simp only [cpG, Bool.and_eq_true, decide_eq_true_eq] at h
  exact h
def inb (i : Int32) (n : Nat) : Bool := !(decide (i < 0) || decide (n ≤ i.toNatClampNeg))
theorem inb_in {i : Int32} {n : Nat} (h : inb i n = true) : vp_in i n := by
  unfold inb at h
  unfold vp_in
  intro hc
  rcases hc with hc | hc <;> simp [hc] at h
def gd {β : Type} (b : Bool) (o : Option β) : Option β := if b = true then o else none
theorem gd_s {β : Type} {b : Bool} {o : Option β} {x : β} (h : gd b o = some x) : b = true ∧ o = some x := by
  unfold gd at h
  split at h
  · exact ⟨by assumption, h⟩
  · cases h
theorem gd_t {β : Type} {b : Bool} {o : Option β} (h : b = true) : gd b o = o := by unfold gd; rw [if_pos h]
def bi {α β : Type} (o : Option (α × zS)) (k : α → zS → Option β) : Option β := match o with
  | none => none
  | some q => k q.1 q.2
theorem bi_s {α β : Type} {o : Option (α × zS)} {k : α → zS → Option β} {x : β} (h : bi o k = some x) : ∃ r σ, o = some (r, σ) ∧ k r σ = some x := by
  cases o with
  | none => cases h
  | some q => exact ⟨q.1, q.2, rfl, h⟩
def bv {β : Type} (o : Option zS) (k : zS → Option β) : Option β := match o with
  | none => none
  | some q => k q
theorem bv_s {β : Type} {o : Option zS} {k : zS → Option β} {x : β} (h : bv o k = some x) : ∃ σ, o = some σ ∧ k σ = some x := by
  cases o with
  | none => cases h
  | some q => exact ⟨q, rfl, h⟩
def sgB : List Int32 := [61, 124, 40, 41, 91, 93, 123, 125, 59, 44, 42]
def rA (x j : Nat) : Nat := 60 + 6 * (x - 10) + j
def isRow (x : Nat) : Bool := decide (10 ≤ x) && decide (x < 15)
theorem isRow_or {x : Nat} (h : isRow x = true) : x = 10 ∨ x = 11 ∨ x = 12 ∨ x = 13 ∨ x = 14 := by
  simp only [isRow, Bool.and_eq_true, decide_eq_true_eq] at h
  omega
def lA (x : Nat) : Nat := 90 + (x - 15)
def isLine (x : Nat) : Bool := decide (15 ≤ x) && decide (x < 19)
theorem isLine_or {x : Nat} (h : isLine x = true) : x = 15 ∨ x = 16 ∨ x = 17 ∨ x = 18 := by
  simp only [isLine, Bool.and_eq_true, decide_eq_true_eq] at h
  omega
def isMa (x : Nat) : Bool := decide (x = 26)
theorem isMa_or {x : Nat} (h : isMa x = true) : x = 26 := by
  simp only [isMa, Bool.or_eq_true, decide_eq_true_eq] at h
  omega
def isMk (x : Nat) : Bool := decide (x = 38) || decide (x = 48)
theorem isMk_or {x : Nat} (h : isMk x = true) : x = 38 ∨ x = 48 := by
  simp only [isMk, Bool.or_eq_true, decide_eq_true_eq] at h
  omega
def isNd (x : Nat) : Bool := decide (x = 46) || decide (x = 47)
theorem isNd_or {x : Nat} (h : isNd x = true) : x = 46 ∨ x = 47 := by
  simp only [isNd, Bool.or_eq_true, decide_eq_true_eq] at h
  omega
def isUp (x : Nat) : Bool := decide (x = 29) || decide (x = 30) || decide (x = 58)
theorem isUp_or {x : Nat} (h : isUp x = true) : x = 29 ∨ x = 30 ∨ x = 58 := by
  simp only [isUp, Bool.or_eq_true, decide_eq_true_eq] at h
  omega
def isPt (x : Nat) : Bool := decide (x = 59) || decide (x = 61)
theorem isPt_or {x : Nat} (h : isPt x = true) : x = 59 ∨ x = 61 := by
  simp only [isPt, Bool.or_eq_true, decide_eq_true_eq] at h
  omega
