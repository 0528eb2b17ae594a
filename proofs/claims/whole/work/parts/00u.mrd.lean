/-! The reference's reader of types: its state, its small methods. Own text. -/
theorem tkS_rng {B : Nat → Int32} {n k : Nat} (hB : byt B n) : ∃ b, b < 256 ∧ tkS B n k = nI b := by
  unfold tkS
  split
  · rename_i hp
    obtain ⟨c, hc, ec⟩ := hB.2 _ hp
    unfold tokS
    split
    · split
      · dsimp only
        split
        · exact ⟨2, by omega, rfl⟩
        · rcases smS_rng (nVal B (tkP B n k) (nmE B n (tkP B n k) - tkP B n k)) with ⟨s1, _⟩ | ⟨s1, _⟩
          · exact ⟨3, by omega, s1⟩
          · rcases s1 with s1 | s1 | s1 | s1
            · exact ⟨4, by omega, s1⟩
            · exact ⟨5, by omega, s1⟩
            · exact ⟨6, by omega, s1⟩
            · exact ⟨7, by omega, s1⟩
      · exact ⟨0, by omega, rfl⟩
    · split
      · exact ⟨c, hc, ec⟩
      · dsimp only
        unfold sgS
        split
        · exact ⟨c, hc, ec⟩
        · exact ⟨0, by omega, rfl⟩
  · exact ⟨1, by omega, rfl⟩
theorem sg_inj {b y : Nat} (hb : b < 256) (hy : y < 256) (h : sgM (nI b) = sgM (nI y)) : nI b = nI y := by
  have e58 : (58 : Int32) = nI 58 := rfl
  have e45 : (45 : Int32) = nI 45 := rfl
  have b0 : ∀ z, z < 256 → nI z ≠ 1000 ∧ nI z ≠ 1001 := by
    intro z hz
    exact ⟨fun q => by have := (nI_eq (a := z) (b := 1000) (by omega) (by omega)).mp q; omega, fun q => by have := (nI_eq (a := z) (b := 1001) (by omega) (by omega)).mp q; omega⟩
  unfold sgM at h
  by_cases p1 : nI b = 58
  · rw [if_pos p1] at h
    by_cases q1 : nI y = 58
    · rw [p1, q1]
    · rw [if_neg q1] at h
      by_cases q2 : nI y = 45
      · rw [if_pos q2] at h; exact absurd h (by decide)
      · rw [if_neg q2] at h; exact absurd h.symm (b0 y hy).2
  · rw [if_neg p1] at h
    by_cases p2 : nI b = 45
    · rw [if_pos p2] at h
      by_cases q1 : nI y = 58
      · rw [if_pos q1] at h; exact absurd h (by decide)
      · rw [if_neg q1] at h
        by_cases q2 : nI y = 45
        · rw [p2, q2]
        · rw [if_neg q2] at h; exact absurd h.symm (b0 y hy).1
    · rw [if_neg p2] at h
      by_cases q1 : nI y = 58
      · rw [if_pos q1] at h; exact absurd h (b0 b hb).2
      · rw [if_neg q1] at h
        by_cases q2 : nI y = 45
        · rw [if_pos q2] at h; exact absurd h (b0 b hb).1
        · rw [if_neg q2] at h; exact h
def mS (B : Nat → Int32) (n : Nat) (τ : zS) (k M s N a L : Nat) : Prop :=
  ga τ 1 = B ∧ gi τ 2 = nI n ∧ curT B n k τ ∧ gi τ 31 = nI M ∧ gi τ 17 = nI s ∧ gi τ 16 = nI N ∧ gi τ 23 = nI a ∧ gi τ 42 = nI L ∧ gi τ 18 = nI L
def exM (j : Nat) : Prop := j = 3 ∨ j = 4 ∨ j = 5 ∨ j = 7 ∨ j = 8 ∨ j = 9 ∨ j = 16 ∨ j = 17 ∨ j = 18 ∨ j = 19 ∨ j = 23 ∨ j = 31 ∨ j = 42
def okM (Lv N a M j i : Nat) : Prop := (j = 2 ∨ j = 4 ∨ j = 5 → i < N) ∧ (7 ≤ j ∧ j ≤ 9 → i < a) ∧ (10 ≤ j ∧ j ≤ 16 → i < M) ∧ (17 ≤ j ∧ j ≤ 25 → i < Lv)
def frM (Lv N a M : Nat) (τ τ' : zS) : Prop :=
  (∀ j, ¬ exM j → gi τ' j = gi τ j) ∧ (∀ j i, okM Lv N a M j i → ga τ' j i = ga τ j i) ∧ (∀ j, j ≠ 6 → gl τ' j = gl τ j) ∧ (∀ j i, (j = 3 → i < N) → (j = 11 → i < M) → gb τ' j i = gb τ j i) ∧ (gi τ 8 ≠ 0 → gi τ' 8 = gi τ 8 ∧ gi τ' 9 = gi τ 9) ∧ (gi τ' 8 = 0 → gi τ' 9 = gi τ 9)
theorem frM_rfl (Lv N a M : Nat) (τ : zS) : frM Lv N a M τ τ := ⟨fun _ _ => rfl, fun _ _ _ => rfl, fun _ _ => rfl, fun _ _ _ _ => rfl, fun _ => ⟨rfl, rfl⟩, fun _ => rfl⟩
theorem frM_tr {Lv N a M Lv' N' a' M' : Nat} {τ τ1 τ2 : zS} (h1 : frM Lv N a M τ τ1) (h2 : frM Lv' N' a' M' τ1 τ2) (hL : Lv ≤ Lv') (hN : N ≤ N') (ha : a ≤ a') (hM : M ≤ M') : frM Lv N a M τ τ2 := by
  obtain ⟨a1, a2, a3, a4, a5, a6⟩ := h1
  obtain ⟨b1, b2, b3, b4, b5, b6⟩ := h2
  refine ⟨fun j hj => (b1 j hj).trans (a1 j hj), fun j i h => (b2 j i ?_).trans (a2 j i h), fun j hj => (b3 j hj).trans (a3 j hj), fun j i g1 g2 => (b4 j i (fun z => Nat.lt_of_lt_of_le (g1 z) hN) (fun z => Nat.lt_of_lt_of_le (g2 z) hM)).trans (a4 j i g1 g2), ?_, ?_⟩
  · obtain ⟨c1, c2, c3, c4⟩ := h
    exact ⟨fun z => Nat.lt_of_lt_of_le (c1 z) hN, fun z => Nat.lt_of_lt_of_le (c2 z) ha, fun z => Nat.lt_of_lt_of_le (c3 z) hM, fun z => Nat.lt_of_lt_of_le (c4 z) hL⟩
  · intro z
    obtain ⟨e1, e2⟩ := a5 z
    obtain ⟨f1, f2⟩ := b5 (by rw [e1]; exact z)
    exact ⟨f1.trans e1, f2.trans e2⟩
  · intro z
    have q : gi τ1 8 = 0 := by
      rcases Decidable.em (gi τ1 8 = 0) with q | q
      · exact q
      · have := (b5 q).1
        rw [z] at this
        exact absurd this.symm q
    exact (b6 z).trans (a6 q)
theorem frM_N {τ τ' : zS} (Lv N a M : Nat) (h8 : gi τ 8 = 0) (h : frN τ τ') : frM Lv N a M τ τ' := by
  obtain ⟨h1, h2, h3, h4, h5⟩ := h
  refine ⟨fun j hj => ?_, fun j i _ => by rw [h2 j], h3, fun j i _ _ => by rw [h4 j], fun z => absurd h8 z, h5⟩
  unfold exM at hj
  exact h1 j (by omega) (by omega) (by omega) (by omega) (by omega) (by omega)
theorem frM_X {τ τ' : zS} (Lv N a M : Nat) (h : frX τ τ') : frM Lv N a M τ τ' := by
  obtain ⟨h1, h2, h3, h4⟩ := h
  refine ⟨fun j hj => ?_, fun j i _ => by rw [h2 j], fun j _ => h3 j, fun j i _ _ => by rw [h4 j], fun z => ⟨h1 8 (by decide) (by decide) (by decide), h1 9 (by decide) (by decide) (by decide)⟩, fun _ => h1 9 (by decide) (by decide) (by decide)⟩
  unfold exM at hj
  exact h1 j (by omega) (by omega) (by omega)
theorem bv_bv {β : Type} (o : Option zS) (f : zS → Option zS) (g : zS → Option β) : bv (bv o f) g = bv o (fun x => bv (f x) g) := by
  cases o <;> rfl
section PM
variable {F : Nat} {B : Nat → Int32} {n : Nat} {τ : zS} {k M s N a L : Nat}
theorem m_flt (h : mS B n τ k M s N a L) (hs : tkS B n k ≠ 0) : gi τ 8 = 0 ∧ gi τ 3 = nI (lxE B n (k + 1)) ∧ gi τ 5 = nI (tkP B n k) ∧ gi τ 4 = tokM (tkS B n k) := ⟨(h.2.2.1.2.2.2.1 hs).1, (h.2.2.1.2.2.2.1 hs).2, h.2.2.1.1, h.2.2.1.2.1⟩
/-- a sign, in the class's byte -/
theorem m_sign (hB : byt B n) (h : mS B n τ k M s N a L) (hs : tkS B n k ≠ 0) {y : Nat} (hy : y < 256) (h8 : 7 < y) : (tkS B n k = nI y → Md_isSign F τ (sgM (nI y)) = some (1, τ)) ∧ (tkS B n k ≠ nI y → Md_isSign F τ (sgM (nI y)) = some (0, τ)) := by
  obtain ⟨f1, f2, f3, f4⟩ := m_flt h hs
  obtain ⟨b, hb, eb⟩ := tkS_rng (k := k) hB
  have t4 : ∀ b, b < 256 → 7 < b → tokM (nI b) = 4 := by decide +kernel
  have t5 : ∀ b, b < 8 → tokM (nI b) ≠ 4 := by decide +kernel
  constructor
  · intro e
    have c4 : tokM (tkS B n k) = 4 := by rw [e]; exact t4 y hy h8
    have c7 := h.2.2.1.2.2.2.2.2 c4
    rw [Md_isSign, if_pos f1, f4, if_pos c4, c7, e, if_pos rfl]
    rfl
  · intro e
    rw [Md_isSign, if_pos f1, f4]
    by_cases c4 : tokM (tkS B n k) = 4
    · have c7 := h.2.2.1.2.2.2.2.2 c4
      rw [if_pos c4, c7, eb, if_neg (fun z => e (by rw [eb]; exact sg_inj hb hy z))]
      rfl
    · rw [if_neg c4]
      rfl
theorem m_canB (hB : byt B n) (h : mS B n τ k M s N a L) (hs : tkS B n k ≠ 0) : (stO (tkS B n k) → Md_canBegin F τ = some (1, τ)) ∧ (¬ stO (tkS B n k) → Md_canBegin F τ = some (0, τ)) := by
  obtain ⟨f1, f2, f3, f4⟩ := m_flt h hs
  have s40 := m_sign (F := F) hB h hs (y := 40) (by omega) (by omega)
  have s91 := m_sign (F := F) hB h hs (y := 91) (by omega) (by omega)
  have e40 : sgM (nI 40) = 40 := by decide
  have e91 : sgM (nI 91) = 91 := by decide
  rw [e40] at s40
  rw [e91] at s91
  have q40 : nI 40 = 40 := rfl
  have q91 : nI 91 = 91 := rfl
  rw [q40] at s40
  rw [q91] at s91
  constructor
  · intro g
    rw [Md_canBegin, if_pos f1, f4]
    rcases g with g | g | g | g
    · rw [g, if_pos (by decide)]; rfl
    · rw [g, if_neg (by decide), if_pos (by decide)]; rfl
    · have := s40.1 g
      rw [g, if_neg (by decide), if_neg (by decide), this, bi_some, if_neg (by decide)]
      rfl
    · have z1 := s40.2 (by rw [g]; decide)
      have z2 := s91.1 g
      rw [g, if_neg (by decide), if_neg (by decide), z1, bi_some, if_pos rfl, z2, bi_some, if_neg (by decide)]
      rfl
  · intro g
    unfold stO at g
    obtain ⟨b, hb, eb⟩ := tkS_rng (k := k) hB
    have t1 : ∀ b, b < 256 → (tokM (nI b) = 1 → nI b = 2) ∧ (tokM (nI b) = 2 → nI b = 3) := by decide +kernel
    have n1 : ¬ tokM (tkS B n k) = 1 := fun z => g (Or.inl (by rw [eb] at z ⊢; exact (t1 b hb).1 z))
    have n2 : ¬ tokM (tkS B n k) = 2 := fun z => g (Or.inr (Or.inl (by rw [eb] at z ⊢; exact (t1 b hb).2 z)))
    have z1 := s40.2 (fun z => g (Or.inr (Or.inr (Or.inl z))))
    have z2 := s91.2 (fun z => g (Or.inr (Or.inr (Or.inr z))))
    rw [Md_canBegin, if_pos f1, f4, if_neg n1, if_neg n2, z1, bi_some, if_pos rfl, z2, bi_some, if_pos rfl]
    rfl
/-- next() from token k -/
theorem m_next (hB : byt B n) (hF : 1300 ≤ F) {τ : zS} (h1 : ga τ 1 = B) (h2 : gi τ 2 = nI n) (h8 : gi τ 8 = 0) (h3 : gi τ 3 = nI (lxE B n (k + 1))) : ∃ τ', Md_next F τ = some τ' ∧ frN τ τ' ∧ curT B n (k + 1) τ' := by
  subst h1
  exact next_tok hB h2 h8 hF h3
theorem ro_it (m : Nat) (x : Int32) (h8 : gi τ 8 = 0) (hh : ¬ (gi τ 42 = 0 ∧ x = 3 ∧ ¬ ga τ 19 0 < 0)) : Md_readOpen_10 F (m + 1) τ x = Md_readOpen_55 F (Md_readOpen_10 F m) τ x := by
  show Md_readOpen_b10 F (Md_readOpen_10 F m) τ x = _
  rw [Md_readOpen_b10, if_pos h8]
  by_cases a1 : gi τ 42 = 0
  · rw [if_pos a1]
    by_cases a2 : x = 3
    · rw [if_pos a2]
      by_cases a3 : ga τ 19 0 < 0
      · have : inb (0 : Int32) 12 = true := by decide
        have c0 : (0 : Int32).toNatClampNeg = 0 := by decide
        rw [gd_t this, c0, if_pos a3]
      · exact absurd ⟨a1, a2, a3⟩ hh
    · rw [if_neg a2]
  · rw [if_neg a1]
theorem ro_end (m : Nat) (x : Int32) (h8 : gi τ 8 ≠ 0) : Md_readOpen_10 F (m + 1) τ x = some (0, τ) := by
  show Md_readOpen_b10 F (Md_readOpen_10 F m) τ x = _
  rw [Md_readOpen_b10, if_neg h8]
theorem m_wrong (h8 : gi τ 8 = 0) {f p : Int32} (hf : f ≠ 0) : Md_wrong F τ f p = some (si (si τ 8 f) 9 p) ∧ frM L N a M τ (si (si τ 8 f) 9 p) := by
  refine ⟨by rw [Md_wrong, if_pos h8, Md_wrong_17], fun j hj => ?_, fun j i _ => by simp [zs], fun j _ => by simp [zs], fun j i _ _ => by simp [zs], fun z => absurd h8 z, fun z => ?_⟩
  · unfold exM at hj
    have j1 : j ≠ 8 := by omega
    have j2 : j ≠ 9 := by omega
    simp [zs, j1, j2]
  · simp [zs] at z; exact absurd z hf
end PM
