/-! Types as trees, the class's rows of them, the reference's nodes. Own text. -/
abbrev TE : Type := Lean.Data.AC.Expr
def lf (b : Nat) (v : Int64) (p : Nat) : Nat := (v.toBitVec.toNat * 2048 + p) * 2 + b
def lfB (c : Nat) : Nat := c % 2
def lfN (c : Nat) : Int64 := Int64.ofBitVec (BitVec.ofNat 64 (c / 4096))
def lfP (c : Nat) : Nat := c / 2 % 2048
theorem lf_B {b p : Nat} {v : Int64} (hb : b < 2) : lfB (lf b v p) = b := by unfold lfB lf; omega
theorem lf_P {b p : Nat} {v : Int64} (hb : b < 2) (hp : p < 2048) : lfP (lf b v p) = p := by unfold lfP lf; omega
theorem lf_N {b p : Nat} {v : Int64} (hb : b < 2) (hp : p < 2048) : lfN (lf b v p) = v := by
  have : lf b v p / 4096 = v.toBitVec.toNat := by unfold lf; omega
  unfold lfN
  rw [this, BitVec.ofNat_toNat, BitVec.setWidth_eq]
  rfl
def tO (f a : TE) : TE := .op (.op (.var 0) f) a
def tR (l r : TE) : TE := .op (.op (.var 1) l) r
def tI (p : Nat) (t : TE) : TE := .op (.op (.var 2) (.var p)) t
def tW (p : Nat) (t : TE) : TE := .op (.op (.var 3) (.var p)) t
abbrev QE : Type := Int32 × Int64 × Nat × Nat
/-- the first entry of a type's row: sort, name, count, spot -/
def hdT : TE → QE
  | .var c => (if lfB c = 0 then 2 else 3, lfN c, 0, lfP c)
  | .op (.op (.var 0) f) _ => ((hdT f).1, (hdT f).2.1, (hdT f).2.2.1 + 1, (hdT f).2.2.2)
  | .op (.op (.var 1) l) _ => (45, 0, 2, (hdT l).2.2.2)
  | .op (.op (.var 2) (.var p)) _ => (91, 0, 1, p)
  | .op (.op (.var 3) (.var p)) t => ((hdT t).1, (hdT t).2.1, (hdT t).2.2.1, p)
  | _ => (0, 0, 0, 0)
/-- the entries behind it -/
def tlT : TE → List QE
  | .var _ => []
  | .op (.op (.var 0) f) a => tlT f ++ hdT a :: tlT a
  | .op (.op (.var 1) l) r => hdT l :: (tlT l ++ hdT r :: tlT r)
  | .op (.op (.var 2) (.var _)) t => hdT t :: tlT t
  | .op (.op (.var 3) (.var _)) t => tlT t
  | _ => []
def plT (t : TE) : Nat := (hdT t).2.2.2
def lnT (t : TE) : Nat := (tlT t).length + 1
def valN : List Nat → Nat → Nat
  | [], a => a
  | b :: l, a => valN l (a * 256 + b)
/-- a leaf's name is one that may be written -/
def gdc (c : Nat) : Prop := ∃ h l, l.length < 8 ∧ (∀ b, b ∈ h :: l → (48 ≤ b ∧ b ≤ 57) ∨ (65 ≤ b ∧ b ≤ 90) ∨ (97 ≤ b ∧ b ≤ 122)) ∧ (lfB c = 0 → 65 ≤ h ∧ h ≤ 90) ∧ (lfB c ≠ 0 → 97 ≤ h ∧ h ≤ 122) ∧ lfN c = lN (valN (h :: l) 0)
def okT : TE → Prop
  | .var c => lfP c < 1200 ∧ gdc c
  | .op (.op (.var 0) f) a => okT f ∧ okT a
  | .op (.op (.var 1) l) r => okT l ∧ okT r
  | .op (.op (.var 2) (.var _)) t => okT t
  | .op (.op (.var 3) (.var _)) t => okT t
  | _ => False
def isR : TE → Bool
  | .op (.op (.var 1) _) _ => true
  | _ => false
theorem tE_ind {P : TE → Prop} (h0 : ∀ c, lfP c < 1200 → P (.var c)) (h1 : ∀ f a, okT f → okT a → P f → P a → P (tO f a)) (h2 : ∀ l r, okT l → okT r → P l → P r → P (tR l r)) (h3 : ∀ p t, okT t → P t → P (tI p t)) (h4 : ∀ p t, okT t → P t → P (tW p t)) : ∀ t, okT t → P t
  | .var c, h => h0 c h.1
  | .op (.op (.var 0) f) a, h => h1 f a h.1 h.2 (tE_ind h0 h1 h2 h3 h4 f h.1) (tE_ind h0 h1 h2 h3 h4 a h.2)
  | .op (.op (.var 1) l) r, h => h2 l r h.1 h.2 (tE_ind h0 h1 h2 h3 h4 l h.1) (tE_ind h0 h1 h2 h3 h4 r h.2)
  | .op (.op (.var 2) (.var p)) t, h => h3 p t h (tE_ind h0 h1 h2 h3 h4 t h)
  | .op (.op (.var 3) (.var p)) t, h => h4 p t h (tE_ind h0 h1 h2 h3 h4 t h)
theorem tT : (∀ c, hdT (.var c) = (if lfB c = 0 then 2 else 3, lfN c, 0, lfP c) ∧ tlT (.var c) = []) ∧ (∀ f a, hdT (tO f a) = ((hdT f).1, (hdT f).2.1, (hdT f).2.2.1 + 1, (hdT f).2.2.2) ∧ tlT (tO f a) = tlT f ++ hdT a :: tlT a) ∧ (∀ l r, hdT (tR l r) = (45, 0, 2, (hdT l).2.2.2) ∧ tlT (tR l r) = hdT l :: (tlT l ++ hdT r :: tlT r)) ∧ (∀ p t, hdT (tI p t) = (91, 0, 1, p) ∧ tlT (tI p t) = hdT t :: tlT t) ∧ (∀ p t, hdT (tW p t) = ((hdT t).1, (hdT t).2.1, (hdT t).2.2.1, p) ∧ tlT (tW p t) = tlT t) :=
  ⟨fun _ => ⟨rfl, rfl⟩, fun _ _ => ⟨rfl, rfl⟩, fun _ _ => ⟨rfl, rfl⟩, fun _ _ => ⟨rfl, rfl⟩, fun _ _ => ⟨rfl, rfl⟩⟩
/-- rows of the class -/
def rw1 (σ : zS) (X i : Nat) (e : QE) : Prop := ma σ (rA X 0) i = e.1 ∧ mb σ (rA X 1) i = e.2.1 ∧ ma σ (rA X 2) i = nI e.2.2.1 ∧ ma σ (rA X 3) i = nI e.2.2.2
def rwL (σ : zS) (X : Nat) : Nat → List QE → Prop
  | _, [] => True
  | i, e :: l => rw1 σ X i e ∧ rwL σ X (i + 1) l
theorem rwL_app (σ : zS) (X : Nat) : ∀ (l1 l2 : List QE) (i : Nat), rwL σ X i (l1 ++ l2) ↔ rwL σ X i l1 ∧ rwL σ X (i + l1.length) l2 := by
  intro l1
  induction l1 with
  | nil => intro l2 i; simp [rwL]
  | cons e l ih =>
    intro l2 i
    simp only [List.cons_append, rwL, List.length_cons, ih, and_assoc]
    rw [show i + 1 + l.length = i + (l.length + 1) by omega]
theorem rwL_fr {σ σ' : zS} {X : Nat} : ∀ (l : List QE) (i : Nat), (∀ j, i ≤ j → j < i + l.length → ma σ' (rA X 0) j = ma σ (rA X 0) j ∧ mb σ' (rA X 1) j = mb σ (rA X 1) j ∧ ma σ' (rA X 2) j = ma σ (rA X 2) j ∧ ma σ' (rA X 3) j = ma σ (rA X 3) j) → rwL σ X i l → rwL σ' X i l := by
  intro l
  induction l with
  | nil => intro i _ _; trivial
  | cons e l ih =>
    intro i h g
    obtain ⟨a1, a2, a3, a4⟩ := h i (Nat.le_refl _) (by simp only [List.length_cons]; omega)
    obtain ⟨⟨b1, b2, b3, b4⟩, b5⟩ := g
    exact ⟨⟨a1.trans b1, a2.trans b2, a3.trans b3, a4.trans b4⟩, ih (i + 1) (fun j j1 j2 => h j (by omega) (by simp only [List.length_cons]; omega)) b5⟩
/-- nodes of the reference, with the acts that they come with -/
abbrev AE : Type := Nat × Nat × Nat
def nd (τ : zS) (pr me : Int32) (lo hi : Nat) : TE → Nat → List AE → Prop
  | .var c, n, As => lo ≤ n ∧ n < hi ∧ ga τ 2 n = nI (lfB c) ∧ gb τ 3 n = lfN c ∧ ga τ 4 n = pr ∧ ga τ 5 n = me ∧ As = []
  | .op (.op (.var 0) f) a, n, As => lo ≤ n ∧ n < hi ∧ ga τ 2 n = 2 ∧ ∃ n1 n2 A1 A2, ga τ 4 n = nI n1 ∧ ga τ 5 n = nI n2 ∧ nd τ pr me lo hi f n1 A1 ∧ nd τ pr me lo hi a n2 A2 ∧ As = A1 ++ A2 ++ [(0, n, plT a)]
  | .op (.op (.var 1) l) r, n, As => lo ≤ n ∧ n < hi ∧ ga τ 2 n = 4 ∧ ∃ n1 n2 A1 A2, ga τ 4 n = nI n1 ∧ ga τ 5 n = nI n2 ∧ nd τ pr me lo hi l n1 A1 ∧ nd τ pr me lo hi r n2 A2 ∧ As = A1 ++ [(1, n1, plT l)] ++ A2 ++ (if isR r = true then [] else [(1, n2, plT r)])
  | .op (.op (.var 2) (.var _)) t, n, As => lo ≤ n ∧ n < hi ∧ ga τ 2 n = 3 ∧ ∃ n1 A1, ga τ 4 n = nI n1 ∧ nd τ pr me lo hi t n1 A1 ∧ As = A1 ++ [(1, n1, plT t)]
  | .op (.op (.var 3) (.var _)) t, n, As => nd τ pr me lo hi t n As
  | _, _, _ => False
theorem nd_mono {τ τ' : zS} {pr me : Int32} {lo hi lo' hi' : Nat} (h1 : lo' ≤ lo) (h2 : hi ≤ hi') (hf : ∀ i, lo ≤ i → i < hi → ga τ' 2 i = ga τ 2 i ∧ gb τ' 3 i = gb τ 3 i ∧ ga τ' 4 i = ga τ 4 i ∧ ga τ' 5 i = ga τ 5 i) : ∀ (t : TE) (n : Nat) (As : List AE), nd τ pr me lo hi t n As → nd τ' pr me lo' hi' t n As
  | .var c, n, As, h => by
    obtain ⟨a1, a2, a3, a4, a5, a6, a7⟩ := h
    obtain ⟨b1, b2, b3, b4⟩ := hf n a1 a2
    exact ⟨by omega, by omega, b1.trans a3, b2.trans a4, b3.trans a5, b4.trans a6, a7⟩
  | .op (.op (.var 0) f) a, n, As, h => by
    obtain ⟨a1, a2, a3, n1, n2, A1, A2, a4, a5, a6, a7, a8⟩ := h
    obtain ⟨b1, b2, b3, b4⟩ := hf n a1 a2
    exact ⟨by omega, by omega, b1.trans a3, n1, n2, A1, A2, b3.trans a4, b4.trans a5, nd_mono h1 h2 hf f n1 A1 a6, nd_mono h1 h2 hf a n2 A2 a7, a8⟩
  | .op (.op (.var 1) l) r, n, As, h => by
    obtain ⟨a1, a2, a3, n1, n2, A1, A2, a4, a5, a6, a7, a8⟩ := h
    obtain ⟨b1, b2, b3, b4⟩ := hf n a1 a2
    exact ⟨by omega, by omega, b1.trans a3, n1, n2, A1, A2, b3.trans a4, b4.trans a5, nd_mono h1 h2 hf l n1 A1 a6, nd_mono h1 h2 hf r n2 A2 a7, a8⟩
  | .op (.op (.var 2) (.var _)) t, n, As, h => by
    obtain ⟨a1, a2, a3, n1, A1, a4, a5, a6⟩ := h
    obtain ⟨b1, b2, b3, b4⟩ := hf n a1 a2
    exact ⟨by omega, by omega, b1.trans a3, n1, A1, b3.trans a4, nd_mono h1 h2 hf t n1 A1 a5, a6⟩
  | .op (.op (.var 3) (.var _)) t, n, As, h => nd_mono h1 h2 hf t n As h
/-- acts of the reference -/
def acL (τ : zS) : Nat → List AE → Prop
  | _, [] => True
  | i, e :: l => (ga τ 7 i = nI e.1 ∧ ga τ 8 i = nI e.2.1 ∧ ga τ 9 i = nI e.2.2) ∧ acL τ (i + 1) l
theorem acL_app (τ : zS) : ∀ (l1 l2 : List AE) (i : Nat), acL τ i (l1 ++ l2) ↔ acL τ i l1 ∧ acL τ (i + l1.length) l2 := by
  intro l1
  induction l1 with
  | nil => intro l2 i; simp [acL]
  | cons e l ih =>
    intro l2 i
    simp only [List.cons_append, acL, List.length_cons, ih, and_assoc]
    rw [show i + 1 + l.length = i + (l.length + 1) by omega]
theorem acL_fr {τ τ' : zS} : ∀ (l : List AE) (i : Nat), (∀ j, i ≤ j → j < i + l.length → ga τ' 7 j = ga τ 7 j ∧ ga τ' 8 j = ga τ 8 j ∧ ga τ' 9 j = ga τ 9 j) → acL τ i l → acL τ' i l := by
  intro l
  induction l with
  | nil => intro i _ _; trivial
  | cons e l ih =>
    intro i h g
    obtain ⟨a1, a2, a3⟩ := h i (Nat.le_refl _) (by simp only [List.length_cons]; omega)
    obtain ⟨⟨b1, b2, b3⟩, b5⟩ := g
    exact ⟨⟨a1.trans b1, a2.trans b2, a3.trans b3⟩, ih (i + 1) (fun j j1 j2 => h j (by omega) (by simp only [List.length_cons]; omega)) b5⟩
