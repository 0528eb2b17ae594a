/-! Names looked up. Own text. -/
theorem lgc (x y : Int64) : lg_cmp x y = 0 ↔ x = y := by
  unfold lg_cmp
  constructor
  · intro h
    by_cases a : x > y
    · rw [if_pos a] at h; exact absurd h (by decide)
    · rw [if_neg a] at h
      by_cases b : x = y
      · exact b
      · rw [if_neg b] at h; exact absurd h (by decide)
  · intro h
    subst h
    rw [if_neg (by intro z; exact absurd z (Int64.lt_irrefl)), if_pos rfl]
/-- declarations as names are looked up in them -/
def dcN (σ τ : zS) (D : Nat) : Prop := gi σ 400 = nI D ∧ gi τ 52 = nI D ∧ D ≤ 16 ∧ ∀ i, i < D → ∃ so q, so ≤ 2 ∧ q ≤ 3 ∧ ga σ 29 i = nI so ∧ ga τ 33 i = nI so ∧ gb τ 34 i = gb σ 30 i ∧ ga τ 35 i = ga σ 31 i ∧ ga σ 32 i = nI q ∧ ga τ 36 i = nI q ∧ ∀ j, j < q → gb τ 37 (3 * i + j) = gb σ 33 (3 * i + j)
theorem dcN_of {σ τ : zS} {D : Nat} (h : DC σ τ D) : dcN σ τ D := by
  obtain ⟨a1, a2, a3, a4⟩ := h
  refine ⟨a1, a2, a3, fun i hi => ?_⟩
  obtain ⟨so, q, it, b1, b2, b3, b4, b5, b6, b7, b8, b9, b10, _⟩ := a4 i hi
  exact ⟨so, q, b1, b2, b4, b5, b6, b7, b8, b9, b10⟩
/-- the first data or type of a name, from i on -/
def fTy (σ : zS) (v : Int64) : Nat → Nat → Int32
  | 0, _ => -1
  | d + 1, i => if gb σ 30 i = v ∧ ga σ 29 i ≠ 2 then nI i else fTy σ v d (i + 1)
def fDe (σ : zS) (v : Int64) : Nat → Nat → Int32
  | 0, _ => -1
  | d + 1, i => if gb σ 30 i = v then nI i else fDe σ v d (i + 1)
def fPa (σ : zS) (o : Nat) (v : Int64) : Nat → Nat → Int32
  | 0, _ => -1
  | d + 1, j => if gb σ 33 (3 * o + j) = v then nI j else fPa σ o v d (j + 1)
theorem fTy_rng (σ : zS) (v : Int64) : ∀ d i, fTy σ v d i = -1 ∨ ∃ j, i ≤ j ∧ j < i + d ∧ fTy σ v d i = nI j ∧ gb σ 30 j = v ∧ ga σ 29 j ≠ 2 := by
  intro d
  induction d with
  | zero => intro i; exact Or.inl rfl
  | succ d ih =>
    intro i
    rw [fTy]
    split
    · rename_i h
      exact Or.inr ⟨i, by omega, by omega, rfl, h.1, h.2⟩
    · rcases ih (i + 1) with h | ⟨j, h1, h2, h3⟩
      · exact Or.inl h
      · exact Or.inr ⟨j, by omega, by omega, h3⟩
theorem fDe_rng (σ : zS) (v : Int64) : ∀ d i, fDe σ v d i = -1 ∨ ∃ j, i ≤ j ∧ j < i + d ∧ fDe σ v d i = nI j ∧ gb σ 30 j = v := by
  intro d
  induction d with
  | zero => intro i; exact Or.inl rfl
  | succ d ih =>
    intro i
    rw [fDe]
    split
    · rename_i h
      exact Or.inr ⟨i, by omega, by omega, rfl, h⟩
    · rcases ih (i + 1) with h | ⟨j, h1, h2, h3⟩
      · exact Or.inl h
      · exact Or.inr ⟨j, by omega, by omega, h3⟩
theorem fPa_rng (σ : zS) (o : Nat) (v : Int64) : ∀ d i, fPa σ o v d i = -1 ∨ ∃ j, i ≤ j ∧ j < i + d ∧ fPa σ o v d i = nI j ∧ gb σ 33 (3 * o + j) = v := by
  intro d
  induction d with
  | zero => intro i; exact Or.inl rfl
  | succ d ih =>
    intro i
    rw [fPa]
    split
    · rename_i h
      exact Or.inr ⟨i, by omega, by omega, rfl, h⟩
    · rcases ih (i + 1) with h | ⟨j, h1, h2, h3⟩
      · exact Or.inl h
      · exact Or.inr ⟨j, by omega, by omega, h3⟩
section N
variable {F : Nat} {σ τ : zS} {D : Nat}
theorem findT_loop (h : dcN σ τ D) (v : Int64) : ∀ (d m i : Nat), i + d = D → d < m → Te_findType_2 F m σ v (nI i) = some (fTy σ v d i, σ) ∧ Md_typeOf_2 F m τ v (nI i) = some (fTy σ v d i, τ) := by
  obtain ⟨h1, h2, h3, h4⟩ := h
  intro d
  induction d with
  | zero =>
    intro m i hi hm
    obtain ⟨m, rfl⟩ : ∃ m', m = m' + 1 := ⟨m - 1, by omega⟩
    rw [Te_findType_2, Te_findType_b2, h1, if_pos (nI_le (by omega) (by omega)), Md_typeOf_2, Md_typeOf_b2, h2, if_pos (nI_le (by omega) (by omega))]
    exact ⟨rfl, rfl⟩
  | succ d ih =>
    intro m i hi hm
    obtain ⟨m, rfl⟩ : ∃ m', m = m' + 1 := ⟨m - 1, by omega⟩
    obtain ⟨i1, i2⟩ := ih m (i + 1) (by omega) (by omega)
    obtain ⟨so, q, b1, b2, b3, b4, b5, b6, b7, b8, b9⟩ := h4 i (by omega)
    rw [Te_findType_2, Te_findType_b2, h1, if_neg (nI_ge (by omega) (by omega)), gd_t (inb_nI (by omega) (by omega)), nI_clamp (by omega), Te_findType_33, nI_1, i1, Md_typeOf_2, Md_typeOf_b2, h2, if_neg (nI_ge (by omega) (by omega)), gd_t (inb_nI (by omega) (by omega)), nI_clamp (by omega), Md_typeOf_33, nI_1, i2, b5, b4, b3, fTy, b3]
    by_cases c1 : gb σ 30 i = v
    · have l1 := (lgc _ _).mpr c1
      by_cases c2 : so = 2
      · subst c2
        have hz : ¬ (gb σ 30 i = v ∧ nI 2 ≠ 2) := fun z => z.2 rfl
        refine ⟨?_, ?_⟩
        · rw [if_pos l1, if_pos (show nI 2 = (2 : Int32) from rfl), if_neg hz]
        · rw [if_pos l1, if_pos (show (2 : Int32) ≤ nI 2 by decide), if_neg hz]
      · have n2 : ¬ nI so = (2 : Int32) := fun z => c2 ((nI_eq (a := so) (b := 2) (by omega) (by omega)).mp z)
        have hz : gb σ 30 i = v ∧ nI so ≠ 2 := ⟨c1, n2⟩
        refine ⟨?_, ?_⟩
        · rw [if_pos l1, if_neg n2, if_pos hz]
        · rw [if_pos l1, if_neg (show ¬ (2 : Int32) ≤ nI so from nI_ge (b := 2) (by omega) (by omega)), if_pos hz]
    · have l1 : ¬ lg_cmp (gb σ 30 i) v = 0 := fun z => c1 ((lgc _ _).mp z)
      have hz : ¬ (gb σ 30 i = v ∧ nI so ≠ 2) := fun z => c1 z.1
      refine ⟨?_, ?_⟩
      · rw [if_neg l1, if_neg hz]
      · rw [if_neg l1, if_neg hz]
theorem findT (hF : 1300 ≤ F) (h : dcN σ τ D) (v : Int64) : Te_findType F σ v = some (fTy σ v D 0, σ) ∧ Md_typeOf F τ v = some (fTy σ v D 0, τ) := findT_loop h v D F 0 (by omega) (by have := h.2.2.1; omega)
theorem findD_loop (h : dcN σ τ D) (v : Int64) : ∀ (d m i : Nat), i + d = D → d < m → Te_findDeclared_2 F m σ v (nI i) = some (fDe σ v d i, σ) ∧ Md_declOf_2 F m τ v (nI i) = some (fDe σ v d i, τ) := by
  obtain ⟨h1, h2, h3, h4⟩ := h
  intro d
  induction d with
  | zero =>
    intro m i hi hm
    obtain ⟨m, rfl⟩ : ∃ m', m = m' + 1 := ⟨m - 1, by omega⟩
    rw [Te_findDeclared_2, Te_findDeclared_b2, h1, if_pos (nI_le (by omega) (by omega)), Md_declOf_2, Md_declOf_b2, h2, if_pos (nI_le (by omega) (by omega))]
    exact ⟨rfl, rfl⟩
  | succ d ih =>
    intro m i hi hm
    obtain ⟨m, rfl⟩ : ∃ m', m = m' + 1 := ⟨m - 1, by omega⟩
    obtain ⟨i1, i2⟩ := ih m (i + 1) (by omega) (by omega)
    obtain ⟨so, q, b1, b2, b3, b4, b5, b6, b7, b8, b9⟩ := h4 i (by omega)
    rw [Te_findDeclared_2, Te_findDeclared_b2, h1, if_neg (nI_ge (by omega) (by omega)), gd_t (inb_nI (by omega) (by omega)), nI_clamp (by omega), nI_1, i1, Md_declOf_2, Md_declOf_b2, h2, if_neg (nI_ge (by omega) (by omega)), gd_t (inb_nI (by omega) (by omega)), nI_clamp (by omega), nI_1, i2, b5, fDe]
    by_cases c1 : gb σ 30 i = v
    · have l1 := (lgc _ _).mpr c1
      exact ⟨by rw [if_pos l1, if_pos c1], by rw [if_pos l1, if_pos c1]⟩
    · have l1 : ¬ lg_cmp (gb σ 30 i) v = 0 := fun z => c1 ((lgc _ _).mp z)
      exact ⟨by rw [if_neg l1, if_neg c1], by rw [if_neg l1, if_neg c1]⟩
theorem findD (hF : 1300 ≤ F) (h : dcN σ τ D) (v : Int64) : Te_findDeclared F σ v = some (fDe σ v D 0, σ) ∧ Md_declOf F τ v = some (fDe σ v D 0, τ) := findD_loop h v D F 0 (by omega) (by have := h.2.2.1; omega)
theorem findP_loop (h : dcN σ τ D) {o q : Nat} (ho : o < D) (hq : ga σ 32 o = nI q) (hq3 : q ≤ 3) (v : Int64) : ∀ (d m j : Nat), j + d = q → d < m → Te_findParam_3 F m σ (nI o) v (nI j) = some (fPa σ o v d j, σ) ∧ Md_isParam_3 F m τ (nI o) v (nI j) = some (if fPa σ o v d j = -1 then 0 else 1, τ) := by
  obtain ⟨h1, h2, h3, h4⟩ := h
  obtain ⟨so, q', b1, b2, b3, b4, b5, b6, b7, b8, b9⟩ := h4 o ho
  have eq : q' = q := by
    rw [hq] at b7
    exact ((nI_eq (a := q) (b := q') (by omega) (by omega)).mp b7).symm
  subst eq
  have co : (nI o).toNatClampNeg = o := nI_clamp (by omega)
  intro d
  induction d with
  | zero =>
    intro m j hj hm
    obtain ⟨m, rfl⟩ : ∃ m', m = m' + 1 := ⟨m - 1, by omega⟩
    rw [Te_findParam_3, Te_findParam_b3, gd_t (inb_nI (by omega) (by omega)), co, hq, if_pos (nI_le (by omega) (by omega)), Md_isParam_3, Md_isParam_b3, gd_t (inb_nI (by omega) (by omega)), co, b8, if_pos (nI_le (by omega) (by omega))]
    exact ⟨rfl, rfl⟩
  | succ d ih =>
    intro m j hj hm
    obtain ⟨m, rfl⟩ : ∃ m', m = m' + 1 := ⟨m - 1, by omega⟩
    obtain ⟨i1, i2⟩ := ih m (j + 1) (by omega) (by omega)
    have e3 : nI o * (3 : Int32) + nI j = nI (3 * o + j) := by
      rw [show (3 : Int32) = nI 3 from rfl, pk_mul, nI_add]
      congr 1
      omega
    have e3' : (3 : Int32) * nI o + nI j = nI (3 * o + j) := by
      rw [show (3 : Int32) = nI 3 from rfl, pk_mul, nI_add]
    rw [Te_findParam_3, Te_findParam_b3, gd_t (inb_nI (by omega) (by omega)), co, hq, if_neg (nI_ge (by omega) (by omega)), e3, gd_t (inb_nI (by omega) (by omega)), nI_clamp (by omega), nI_1, i1, Md_isParam_3, Md_isParam_b3, gd_t (inb_nI (by omega) (by omega)), co, b8, if_neg (nI_ge (by omega) (by omega)), e3', gd_t (inb_nI (by omega) (by omega)), nI_clamp (by omega), nI_1, i2, b9 j (by omega), fPa]
    by_cases c1 : gb σ 33 (3 * o + j) = v
    · have l1 := (lgc _ _).mpr c1
      exact ⟨by rw [if_pos l1, if_pos c1], by rw [if_pos l1, if_pos c1, if_neg (nI_m1 j (by omega))]⟩
    · have l1 : ¬ lg_cmp (gb σ 33 (3 * o + j)) v = 0 := fun z => c1 ((lgc _ _).mp z)
      exact ⟨by rw [if_neg l1, if_neg c1], by rw [if_neg l1, if_neg c1]⟩
theorem findP (hF : 1300 ≤ F) (h : dcN σ τ D) {o q : Nat} (ho : o < D) (hq : ga σ 32 o = nI q) (hq3 : q ≤ 3) (v : Int64) : Te_findParam F σ (nI o) v = some (fPa σ o v q 0, σ) ∧ Md_isParam F τ (nI o) v = some (if fPa σ o v q 0 = -1 then 0 else 1, τ) := findP_loop h ho hq hq3 v q F 0 (by omega) (by omega)
end N
