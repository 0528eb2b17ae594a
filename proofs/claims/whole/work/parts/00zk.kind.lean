/-! Kinds that are told: their trees in both stores; what reads them. Own text. -/
/-- a told kind in the class's store: the star is .var 0, an arrow .op -/
def kdC (σ : zS) (lo hi : Nat) : TE → Nat → Prop
  | .var 0, k => k = 0
  | .op a b, k => lo ≤ k ∧ k < hi ∧ ga σ 25 k = -1 ∧ ∃ x y, ga σ 23 k = nI x ∧ ga σ 24 k = nI y ∧ kdC σ lo hi a x ∧ kdC σ lo hi b y
  | _, _ => False
/-- and in the reference's -/
def kdM (τ : zS) (lo hi : Nat) : TE → Nat → Prop
  | .var 0, k => k = 0
  | .op a b, k => lo ≤ k ∧ k < hi ∧ ga τ 26 k = 2 ∧ ga τ 29 k = nI k ∧ ∃ x y, ga τ 27 k = nI x ∧ ga τ 28 k = nI y ∧ kdM τ lo hi a x ∧ kdM τ lo hi b y
  | _, _ => False
theorem kdC_mono {σ σ' : zS} {lo hi lo' hi' : Nat} (h1 : lo' ≤ lo) (h2 : hi ≤ hi') (hf : ∀ i, lo ≤ i → i < hi → ga σ' 23 i = ga σ 23 i ∧ ga σ' 24 i = ga σ 24 i ∧ ga σ' 25 i = ga σ 25 i) : ∀ (t : TE) (k : Nat), kdC σ lo hi t k → kdC σ' lo' hi' t k
  | .var 0, _, h => h
  | .op a b, k, h => by
    obtain ⟨a1, a2, a3, x, y, a4, a5, a6, a7⟩ := h
    obtain ⟨b1, b2, b3⟩ := hf k a1 a2
    exact ⟨by omega, by omega, b3.trans a3, x, y, b1.trans a4, b2.trans a5, kdC_mono h1 h2 hf a x a6, kdC_mono h1 h2 hf b y a7⟩
theorem kdM_mono {τ τ' : zS} {lo hi lo' hi' : Nat} (h1 : lo' ≤ lo) (h2 : hi ≤ hi') (hf : ∀ i, lo ≤ i → i < hi → ga τ' 26 i = ga τ 26 i ∧ ga τ' 27 i = ga τ 27 i ∧ ga τ' 28 i = ga τ 28 i ∧ ga τ' 29 i = ga τ 29 i) : ∀ (t : TE) (k : Nat), kdM τ lo hi t k → kdM τ' lo' hi' t k
  | .var 0, _, h => h
  | .op a b, k, h => by
    obtain ⟨a1, a2, a3, a3', x, y, a4, a5, a6, a7⟩ := h
    obtain ⟨b1, b2, b3, b4⟩ := hf k a1 a2
    exact ⟨by omega, by omega, b1.trans a3, b4.trans a3', x, y, b2.trans a4, b3.trans a5, kdM_mono h1 h2 hf a x a6, kdM_mono h1 h2 hf b y a7⟩
theorem kdC_lt {σ : zS} {lo hi : Nat} : ∀ (t : TE) (k : Nat), kdC σ lo hi t k → k = 0 ∨ (lo ≤ k ∧ k < hi)
  | .var 0, _, h => Or.inl h
  | .op _ _, _, h => Or.inr ⟨h.1, h.2.1⟩
theorem kdM_lt {τ : zS} {lo hi : Nat} : ∀ (t : TE) (k : Nat), kdM τ lo hi t k → k = 0 ∨ (lo ≤ k ∧ k < hi)
  | .var 0, _, h => Or.inl h
  | .op _ _, _, h => Or.inr ⟨h.1, h.2.1⟩
/-- what the class's reader of kinds leaves alone: the store below S, but for the right side of la -/
def frKC (S : Nat) (la : Int32) (σ σ' : zS) : Prop :=
  (∀ j, j ≠ 106 → j ≠ 306 → j ≠ 200 → j ≠ 201 → gi σ' j = gi σ j) ∧ (∀ j i, (j = 23 ∨ j = 25 → i < S) → (j = 24 → i < S ∧ nI i ≠ la) → ga σ' j i = ga σ j i) ∧ (∀ j, gl σ' j = gl σ j) ∧ (∀ j, gb σ' j = gb σ j) ∧ (∀ j, gr σ' j = gr σ j) ∧ (∀ j, mi σ' j = mi σ j) ∧ (∀ j, ma σ' j = ma σ j) ∧ (∀ j, mb σ' j = mb σ j)
theorem frKC_rfl (S : Nat) (la : Int32) (σ : zS) : frKC S la σ σ := ⟨fun _ _ _ _ _ => rfl, fun _ _ _ _ => rfl, fun _ => rfl, fun _ => rfl, fun _ => rfl, fun _ => rfl, fun _ => rfl, fun _ => rfl⟩
theorem frKC_tr {S S' : Nat} {la la' : Int32} {σ σ1 σ2 : zS} (h1 : frKC S la σ σ1) (h2 : frKC S' la' σ1 σ2) (hS : S ≤ S') (hla : ∀ i, i < S → nI i ≠ la → nI i ≠ la') : frKC S la σ σ2 := by
  obtain ⟨a1, a2, a3, a4, a5, a6, a7, a8⟩ := h1
  obtain ⟨b1, b2, b3, b4, b5, b6, b7, b8⟩ := h2
  exact ⟨fun j j1 j2 j3 j4 => (b1 j j1 j2 j3 j4).trans (a1 j j1 j2 j3 j4), fun j i g1 g2 => (b2 j i (fun z => Nat.lt_of_lt_of_le (g1 z) hS) (fun z => ⟨Nat.lt_of_lt_of_le (g2 z).1 hS, hla i (g2 z).1 (g2 z).2⟩)).trans (a2 j i g1 g2), fun j => (b3 j).trans (a3 j), fun j => (b4 j).trans (a4 j), fun j => (b5 j).trans (a5 j), fun j => (b6 j).trans (a6 j), fun j => (b7 j).trans (a7 j), fun j => (b8 j).trans (a8 j)⟩
theorem cS_frK {B : Nat → Int32} {n c X k k' M s S : Nat} {la : Int32} {σ σ' : zS} (h : cS B n c X σ k M s) (fr : frKC S la σ σ') (h106 : gi σ' 106 = nI k') (hk : k' ≤ c) (h200 : gi σ' 200 = 0) : cS B n c X σ' k' M s := by
  obtain ⟨h1, h2, h3, h4, h5, h6, h7, h8⟩ := h
  obtain ⟨a1, a2, a3, a4, a5, a6, a7, a8⟩ := fr
  refine ⟨h106, hk, (a1 105 (by decide) (by decide) (by decide) (by decide)).trans h3, ?_, (a5 605).trans h5, (a6 _).trans h6, (a1 505 (by decide) (by decide) (by decide) (by decide)).trans h7, h200⟩
  intro i hi
  rw [a2 20 i (by omega) (by omega), a4 21, a2 22 i (by omega) (by omega)]
  exact h4 i hi
def exK (j : Nat) : Prop := j = 3 ∨ j = 4 ∨ j = 5 ∨ j = 7 ∨ j = 8 ∨ j = 9 ∨ j = 18 ∨ j = 42 ∨ j = 48
def okK (Lv R : Nat) (q : Int32) (j i : Nat) : Prop := (j = 26 ∨ j = 27 ∨ j = 29 → i < R) ∧ (j = 28 → i < R ∧ nI i ≠ q) ∧ (j = 31 ∨ j = 32 → i < Lv)
def frK (Lv R : Nat) (q : Int32) (τ τ' : zS) : Prop :=
  (∀ j, ¬ exK j → gi τ' j = gi τ j) ∧ (∀ j i, okK Lv R q j i → ga τ' j i = ga τ j i) ∧ (∀ j, j ≠ 6 → gl τ' j = gl τ j) ∧ (∀ j, gb τ' j = gb τ j) ∧ (gi τ 8 ≠ 0 → gi τ' 8 = gi τ 8 ∧ gi τ' 9 = gi τ 9) ∧ (gi τ' 8 = 0 → gi τ' 9 = gi τ 9)
theorem frK_rfl (Lv R : Nat) (q : Int32) (τ : zS) : frK Lv R q τ τ := ⟨fun _ _ => rfl, fun _ _ _ => rfl, fun _ _ => rfl, fun _ => rfl, fun _ => ⟨rfl, rfl⟩, fun _ => rfl⟩
theorem frK_tr {Lv R Lv' R' : Nat} {q q' : Int32} {τ τ1 τ2 : zS} (h1 : frK Lv R q τ τ1) (h2 : frK Lv' R' q' τ1 τ2) (hL : Lv ≤ Lv') (hR : R ≤ R') (hq : ∀ i, i < R → nI i ≠ q → nI i ≠ q') : frK Lv R q τ τ2 := by
  obtain ⟨a1, a2, a3, a4, a5, a6⟩ := h1
  obtain ⟨b1, b2, b3, b4, b5, b6⟩ := h2
  refine ⟨fun j hj => (b1 j hj).trans (a1 j hj), fun j i h => (b2 j i ?_).trans (a2 j i h), fun j hj => (b3 j hj).trans (a3 j hj), fun j => (b4 j).trans (a4 j), ?_, ?_⟩
  · obtain ⟨c1, c2, c3⟩ := h
    exact ⟨fun z => Nat.lt_of_lt_of_le (c1 z) hR, fun z => ⟨Nat.lt_of_lt_of_le (c2 z).1 hR, hq i (c2 z).1 (c2 z).2⟩, fun z => Nat.lt_of_lt_of_le (c3 z) hL⟩
  · intro z
    obtain ⟨e1, e2⟩ := a5 z
    obtain ⟨f1, f2⟩ := b5 (by rw [e1]; exact z)
    exact ⟨f1.trans e1, f2.trans e2⟩
  · intro z
    have q : gi τ1 8 = 0 := by
      rcases Decidable.em (gi τ1 8 = 0) with q | q
      · exact q
      · have := (b5 q).1
        rw [z] at this
        exact absurd this.symm q
    exact (b6 z).trans (a6 q)
theorem frK_N {τ τ' : zS} (Lv R : Nat) (q : Int32) (h8 : gi τ 8 = 0) (h : frN τ τ') : frK Lv R q τ τ' := by
  obtain ⟨h1, h2, h3, h4, h5⟩ := h
  refine ⟨fun j hj => ?_, fun j i _ => by rw [h2 j], h3, fun j => by rw [h4 j], fun z => absurd h8 z, h5⟩
  unfold exK at hj
  exact h1 j (by omega) (by omega) (by omega) (by omega) (by omega) (by omega)
theorem frK_X {τ τ' : zS} (Lv R : Nat) (q : Int32) (h : frX τ τ') : frK Lv R q τ τ' := by
  obtain ⟨h1, h2, h3, h4⟩ := h
  refine ⟨fun j hj => ?_, fun j i _ => by rw [h2 j], fun j _ => h3 j, fun j => by rw [h4 j], fun z => ⟨h1 8 (by decide) (by decide) (by decide), h1 9 (by decide) (by decide) (by decide)⟩, fun _ => h1 9 (by decide) (by decide) (by decide)⟩
  unfold exK at hj
  exact h1 j (by omega) (by omega) (by omega)
/-- the reference while it reads a kind -/
def mK (B : Nat → Int32) (n : Nat) (τ : zS) (k R L : Nat) : Prop :=
  ga τ 1 = B ∧ gi τ 2 = nI n ∧ curT B n k τ ∧ gi τ 48 = nI R ∧ gi τ 42 = nI L ∧ gi τ 18 = nI L ∧ gi τ 49 = 0
section PK
variable {F : Nat} {B : Nat → Int32} {n : Nat} {τ : zS} {k R L : Nat}
theorem k_flt (h : mK B n τ k R L) (hs : tkS B n k ≠ 0) : gi τ 8 = 0 ∧ gi τ 3 = nI (lxE B n (k + 1)) ∧ gi τ 5 = nI (tkP B n k) ∧ gi τ 4 = tokM (tkS B n k) := ⟨(h.2.2.1.2.2.2.1 hs).1, (h.2.2.1.2.2.2.1 hs).2, h.2.2.1.1, h.2.2.1.2.1⟩
theorem k_sign (hB : byt B n) (hcu : curT B n k τ) (hs : tkS B n k ≠ 0) {y : Nat} (hy : y < 256) (h8 : 7 < y) : (tkS B n k = nI y → Md_isSign F τ (sgM (nI y)) = some (1, τ)) ∧ (tkS B n k ≠ nI y → Md_isSign F τ (sgM (nI y)) = some (0, τ)) := by
  have f1 := (hcu.2.2.2.1 hs).1
  have f4 := hcu.2.1
  obtain ⟨b, hb, eb⟩ := tkS_rng (k := k) hB
  have t4 : ∀ b, b < 256 → 7 < b → tokM (nI b) = 4 := by decide +kernel
  constructor
  · intro e
    have c4 : tokM (tkS B n k) = 4 := by rw [e]; exact t4 y hy h8
    have c7 := hcu.2.2.2.2.2 c4
    rw [Md_isSign, if_pos f1, f4, if_pos c4, c7, e, if_pos rfl]
    rfl
  · intro e
    rw [Md_isSign, if_pos f1, f4]
    by_cases c4 : tokM (tkS B n k) = 4
    · have c7 := hcu.2.2.2.2.2 c4
      rw [if_pos c4, c7, eb, if_neg (fun z => e (by rw [eb]; exact sg_inj hb hy z))]
      rfl
    · rw [if_neg c4]
      rfl
/-- what addPart(z) does at level L, R kinds before and R' behind it -/
def apR (τ τ' : zS) (L z R R' : Nat) : Prop :=
  (ga τ 31 L = -1 ∧ R' = R ∧ ga τ' 31 L = nI z ∧ ga τ' 32 L = ga τ 32 L) ∨
  (∃ w, w < 4000 ∧ ga τ 31 L = nI w ∧ ga τ 32 L = -1 ∧ R' = R + 1 ∧ ga τ' 26 R = 2 ∧ ga τ' 27 R = nI w ∧ ga τ' 28 R = nI z ∧ ga τ' 29 R = nI R ∧ ga τ' 31 L = nI R ∧ ga τ' 32 L = nI R) ∨
  (∃ w q, w < 4000 ∧ q < R ∧ ga τ 31 L = nI w ∧ ga τ 32 L = nI q ∧ R' = R + 1 ∧ ga τ' 26 R = 2 ∧ ga τ' 27 R = ga τ 28 q ∧ ga τ' 28 R = nI z ∧ ga τ' 29 R = nI R ∧ ga τ' 28 q = nI R ∧ ga τ' 31 L = nI w ∧ ga τ' 32 L = nI R)
/-- the level's state as addPart() takes it -/
def lvK (τ : zS) (L R : Nat) : Prop := (ga τ 31 L = -1 ∧ ga τ 32 L = -1) ∨ (∃ w, w < 4000 ∧ ga τ 31 L = nI w ∧ ga τ 32 L = -1) ∨ (∃ w q, w < 4000 ∧ q < R ∧ ga τ 31 L = nI w ∧ ga τ 32 L = nI q)
theorem m_newK {τ : zS} {R : Nat} (h48 : gi τ 48 = nI R) (hR : R < 4000) (x l r : Int32) : Md_newKind F τ x l r = some (nI R, si (sa (sa (sa (sa τ 26 R x) 27 R l) 28 R r) 29 R (nI R)) 48 (nI (R + 1))) := by
  rw [Md_newKind, h48, gd_t (inb_nI hR (by omega)), nI_clamp (by omega), nI_pm, nI_1]
theorem k_addP (h48 : gi τ 48 = nI R) (h42 : gi τ 42 = nI L) (hL : L < 12) (hR : R < 3999) (hv : lvK τ L R) (z : Nat) : ∃ τ' R', Md_addPart F τ (nI z) = some τ' ∧ apR τ τ' L z R R' ∧ R ≤ R' ∧ R' ≤ R + 1 ∧ gi τ' 48 = nI R' ∧ (∀ j, j ≠ 48 → gi τ' j = gi τ j) ∧ (∀ j, gl τ' j = gl τ j) ∧ frK L R (ga τ 32 L) τ τ' := by
  have hin : inb (gi τ 42) 12 = true := by rw [h42]; exact inb_nI hL (by omega)
  have hcl : (gi τ 42).toNatClampNeg = L := by rw [h42, nI_clamp (by omega)]
  rcases hv with ⟨q, _⟩ | ⟨w, hw, q1, q2⟩ | ⟨w, q, hw, hq, q1, q2⟩
  · refine ⟨sa τ 31 L (nI z), R, ?_, Or.inl ⟨q, rfl, by simp [at_sa], by simp [zs]⟩, Nat.le_refl _, by omega, by simp [zs, h48], fun j _ => by simp [zs], fun j => by simp [zs], fun j _ => by simp [zs], fun j i hji => ?_, fun j _ => by simp [zs], fun j => by simp [zs], fun _ => ⟨by simp [zs], by simp [zs]⟩, fun _ => by simp [zs]⟩
    · rw [Md_addPart, gd_t hin, hcl, q, if_neg (by decide)]
    · unfold okK at hji
      simp only [at_sa]
      rw [if_neg (by omega)]
  · have e42 : gi (si (sa (sa (sa (sa τ 26 R 2) 27 R (nI w)) 28 R (nI z)) 29 R (nI R)) 48 (nI (R + 1))) 42 = nI L := by simp [zs, h42]
    have f42 : gi (sa (si (sa (sa (sa (sa τ 26 R 2) 27 R (nI w)) 28 R (nI z)) 29 R (nI R)) 48 (nI (R + 1))) 31 L (nI R)) 42 = nI L := by simp [zs, h42]
    refine ⟨sa (sa (si (sa (sa (sa (sa τ 26 R 2) 27 R (nI w)) 28 R (nI z)) 29 R (nI R)) 48 (nI (R + 1))) 31 L (nI R)) 32 L (nI R), R + 1, ?_, Or.inr (Or.inl ⟨w, hw, q1, q2, rfl, by simp [at_sa, at_si], by simp [at_sa, at_si], by simp [at_sa, at_si], by simp [at_sa, at_si], by simp [at_sa, at_si], by simp [at_sa, at_si]⟩), by omega, by omega, by simp [zs], fun j hj => by simp [zs, hj], fun j => by simp [zs], fun j hj => ?_, fun j i hji => ?_, fun j _ => by simp [zs], fun j => by simp [zs], fun _ => ⟨by simp [zs], by simp [zs]⟩, fun _ => by simp [zs]⟩
    · rw [Md_addPart, gd_t hin, hcl, q1, q2, if_pos (nI_pos' (by omega)), if_neg (by decide), Md_addPart_57, m_newK h48 (by omega), bi_some, if_neg (by decide), e42, gd_t (inb_nI hL (by omega)), nI_clamp (by omega), Md_addPart_86, f42, gd_t (inb_nI hL (by omega)), nI_clamp (by omega)]
    · unfold exK at hj
      have j1 : j ≠ 48 := by omega
      simp [zs, j1]
    · unfold okK at hji
      simp only [at_sa, at_si]
      rw [if_neg (by omega), if_neg (by omega), if_neg (by omega), if_neg (by omega), if_neg (by omega), if_neg (by omega)]
  · have qR : q ≠ R := by omega
    have f42 : gi (sa (si (sa (sa (sa (sa τ 26 R 2) 27 R (ga τ 28 q)) 28 R (nI z)) 29 R (nI R)) 48 (nI (R + 1))) 28 q (nI R)) 42 = nI L := by simp [zs, h42]
    refine ⟨sa (sa (si (sa (sa (sa (sa τ 26 R 2) 27 R (ga τ 28 q)) 28 R (nI z)) 29 R (nI R)) 48 (nI (R + 1))) 28 q (nI R)) 32 L (nI R), R + 1, ?_, Or.inr (Or.inr ⟨w, q, hw, hq, q1, q2, rfl, by simp [at_sa, at_si], by simp [at_sa, at_si], by simp [at_sa, at_si, qR.symm], by simp [at_sa, at_si], by simp [at_sa, at_si], by simp [at_sa, at_si, q1], by simp [at_sa, at_si]⟩), by omega, by omega, by simp [zs], fun j hj => by simp [zs, hj], fun j => by simp [zs], fun j hj => ?_, fun j i hji => ?_, fun j _ => by simp [zs], fun j => by simp [zs], fun _ => ⟨by simp [zs], by simp [zs]⟩, fun _ => by simp [zs]⟩
    · rw [Md_addPart, gd_t hin, hcl, q1, q2, if_pos (nI_pos' (by omega)), if_pos (nI_pos' (by omega)), gd_t (inb_nI (by omega) (by omega)), nI_clamp (by omega), Md_addPart_57, m_newK h48 (by omega), bi_some, if_pos (nI_pos' (by omega)), gd_t (inb_nI (by omega) (by omega)), nI_clamp (by omega), Md_addPart_86, f42, gd_t (inb_nI hL (by omega)), nI_clamp (by omega)]
    · unfold exK at hj
      have j1 : j ≠ 48 := by omega
      simp [zs, j1]
    · unfold okK at hji
      simp only [at_sa, at_si]
      have hne : j = 28 → i ≠ q := fun z z2 => by
        have := (hji.2.1 z).2
        rw [q2, z2] at this
        exact this rfl
      rw [if_neg (by omega), if_neg (by omega), if_neg (by omega), if_neg (by omega), if_neg (by omega), if_neg (by omega)]
end PK
