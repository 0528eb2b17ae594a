/-! A text while it is read: faults passed on; the parameters' loop; a synonym. Own text. -/
theorem fs_isSign {F : Nat} {τ : zS} (h : gi τ 8 ≠ 0) (x : Int32) : Md_isSign F τ x = some (0, τ) := by
  rw [Md_isSign, if_neg h]; rfl
theorem fs_want {F : Nat} {τ : zS} (h : gi τ 8 ≠ 0) (x : Int32) : Md_want F τ x = some τ := by
  rw [Md_want, fs_isSign h, bi_some, if_pos rfl, Md_cannot, Md_wrong, if_neg h, Md_wrong_17, bv_some, bv_some, Md_want_19]
theorem fs_canB {F : Nat} {τ : zS} (h : gi τ 8 ≠ 0) : Md_canBegin F τ = some (0, τ) := by
  rw [Md_canBegin, if_neg h]; rfl
theorem f_pos {f : Int32} (h : f = 1 ∨ f = 2) : f ≠ 0 ∧ 0 < f ∧ ¬ f ≤ 0 := by
  rcases h with z | z <;> rw [z] <;> decide
section T
variable {F : Nat} {B : Nat → Int32} {n c : Nat} {σ0 τ0 σ τ : zS} {k M s N a D o S R : Nat} {TL : List TR} {so q it : Nat}
theorem dm_expect (hT : tEnd B n c) {f : Int32} {p : Nat} (h : dmT B n c σ0 1 σ f p) {x : Int32} (hx : x ≠ 0) : ∃ σ', Pa_expect F σ x = some (0, σ') ∧ FC σ0 σ' f p := by
  rcases h with ⟨h1, _⟩ | ⟨_, h2, h3, kb, Mb, sb, hC, hS, hp⟩
  · exact absurd h1 (by decide)
  · obtain ⟨σ', t1, t2, t3, t4⟩ := c_expect0 (F := F) hT hC (x := x) (by rw [hS]; exact fun z => hx z.symm)
    exact ⟨σ', t1, by rw [h2]; exact t2, by rw [hp]; exact t3, frTC_tr h3 (frTC_C t4)⟩
theorem dm_sort (hT : tEnd B n c) {f : Int32} {p : Nat} (h : dmT B n c σ0 1 σ f p) : Ta_sort F σ = some (0, σ) ∧ Pa_startsOne F σ = some (0, σ) := by
  rcases h with ⟨h1, _⟩ | ⟨_, h2, h3, kb, Mb, sb, hC, hS, hp⟩
  · exact absurd h1 (by decide)
  · refine ⟨by rw [c_sort hT hC, hS], (c_starts hT hC).2 (by rw [hS]; unfold stO; decide)⟩
/-- at a bad token both are lost -/
theorem TX_dm (hT : tEnd B n c) (h : TX B n c σ0 τ0 σ τ k M s N a D S R TL) (h0 : tkS B n k = 0) : dmT B n c σ0 1 σ 1 (tkP B n k) ∧ FS τ0 τ 1 (tkP B n k) :=
  ⟨Or.inr ⟨rfl, rfl, h.1.2.2.2.2.2.1, k, M, s, h.1.1.1, h0, rfl⟩, TX_bad hT h h0⟩
theorem m_signO (hB : byt B n) (hM : mO B n τ k M s N a) (h0 : tkS B n k ≠ 0) {y : Nat} (hy : y < 256) (h8 : 7 < y) : (tkS B n k = nI y → Md_isSign F τ (sgM (nI y)) = some (1, τ)) ∧ (tkS B n k ≠ nI y → Md_isSign F τ (sgM (nI y)) = some (0, τ)) := k_sign hB hM.2.2.1 h0 hy h8
/-- a sign that both want -/
theorem op_want (hT : tEnd B n c) (hF : 1300 ≤ F) (h : TX B n c σ0 τ0 σ τ k M s N a D S R TL) (h0 : tkS B n k ≠ 0) {y : Nat} (hy : y < 256) (h8 : 7 < y) : (tkS B n k = nI y → ∃ τ', Pa_expect F σ (nI y) = some (1, si σ 106 (nI (k + 1))) ∧ Md_want F τ (sgM (nI y)) = some τ' ∧ TX B n c σ0 τ0 (si σ 106 (nI (k + 1))) τ' (k + 1) M s N a D S R TL ∧ frC 10 M s σ (si σ 106 (nI (k + 1))) ∧ frM 0 N a M τ τ') ∧ (tkS B n k ≠ nI y → ∃ σ' τ', Pa_expect F σ (nI y) = some (0, σ') ∧ FC σ0 σ' 1 (tkP B n k) ∧ Md_want F τ (sgM (nI y)) = some τ' ∧ FS τ0 τ' 1 (tkP B n k) ∧ gi τ' 32 = gi τ 32) := by
  have hB := hT.1
  have hM := h.1.1.2.1
  have hC := h.1.1.1
  have ny : nI y ≠ 1 := fun z => by have := (nI_eq (a := y) (b := 1) (by omega) (by omega)).mp z; omega
  constructor
  · intro e
    have hsg := (m_signO (F := F) hB hM h0 hy h8).1 e
    obtain ⟨τ', e1, fr, cu⟩ := m_nx (F := F) hB hF hM h0
    obtain ⟨s1, X1, fc, fm⟩ := TX_step (F := F) hT h (by rw [e]; exact ny) h0 fr cu
    refine ⟨τ', c_expect1 hT hC e ny, ?_, X1, fc, fm⟩
    rw [Md_want, hsg, bi_some, if_neg (by decide), e1, bv_some, Md_want_19]
  · intro e
    have hsg := (m_signO (F := F) hB hM h0 hy h8).2 e
    obtain ⟨⟨σ', r1, r2⟩, r3⟩ := TX_raise (F := F) hT h 1 (by decide)
    obtain ⟨τ', r4, r5, r6⟩ := r3 h0
    refine ⟨σ', τ', ?_, r2, ?_, r5, r6⟩
    · rw [Pa_expect, c_sort hT hC, bi_some, if_neg e]
      exact r1
    · rw [Md_want, hsg, bi_some, if_pos rfl, Md_cannot, r4, bv_some, bv_some, Md_want_19]
/-- a JD keeps over a step of both -/
theorem JD_step {σ' τ' : zS} {k' : Nat} (h : JD B n c σ0 τ0 σ τ k M s N a o S R TL so q it) (hX : TX B n c σ0 τ0 σ' τ' k' M s N a (o + 1) S R TL) (fc : frC 10 M s σ σ') (fm : frM 0 N a M τ τ') : JD B n c σ0 τ0 σ' τ' k' M s N a o S R TL so q it := by
  obtain ⟨_, hAB, h39, h606, h32, h29, h32', h34, hso, hq3, hit, hCL⟩ := h
  exact ⟨hX, AB_fr fm hAB, by rw [fm.2.1 39 o (by unfold okM; omega), h39], by rw [fc.1 606 (by decide) (by decide) (by decide) (by decide), h606], by rw [fm.1 32 (by unfold exM; omega), h32], by rw [fc.2.1 29 o (by omega), h29], by rw [fc.2.1 32 o (by omega), h32'], by rw [fc.2.1 34 o (by omega), h34], hso, hq3, hit, fun i hi => by rw [fc.2.1 29 i (by omega), fc.2.1 32 i (by omega)]; exact hCL i hi⟩
/-- the loop over parameters -/
theorem par_loop (hT : tEnd B n c) (hF : 1300 ≤ F) (x : Int32) : ∀ (d m m2 k M q : Nat) (σ τ : zS), q + d = 3 → d + 2 ≤ m → d + 2 ≤ m2 → JD B n c σ0 τ0 σ τ k M s N a o S R TL so q it → ∃ r σ', Pa_parseParams_4 F m σ 1 (nI q) = some (r, σ') ∧ ((∃ f p τ', (f = 1 ∨ f = 2) ∧ dmT B n c σ0 r σ' f p ∧ Md_readSides_0 F m2 τ x = Md_readSides_22 F τ' x ∧ FS τ0 τ' f p ∧ gi τ' 32 = nI o) ∨ (r = 1 ∧ ∃ k' M' q' τ', k ≤ k' ∧ Md_readSides_0 F m2 τ x = Md_readSides_22 F τ' x ∧ JD B n c σ0 τ0 σ' τ' k' M' s N a o S R TL so q' it ∧ tkS B n k' ≠ 0 ∧ frP τ τ')) := by
  have hB := hT.1
  intro d
  induction d with
  | zero =>
    intro m m2 k M q σ τ hq hm hm2 h
    have hq : q = 3 := by omega
    subst hq
    obtain ⟨m, rfl⟩ : ∃ m', m = m' + 2 := ⟨m - 2, by omega⟩
    obtain ⟨m2, rfl⟩ : ∃ m', m2 = m' + 2 := ⟨m2 - 2, by omega⟩
    have hC := h.1.1.1.1
    have hM := h.1.1.1.2.1
    have b1 : Pa_parseParams_4 F (m + 2) σ 1 (nI 3) = bi (Ta_sort F σ) (fun r4 σ3 => if r4 = (3 : Int32) then (bi (Pa_parseParam F σ3) (fun r8 σ7 => Pa_parseParams_4 F (m + 1) σ7 r8 (nI 3 + (1 : Int32)))) else (Pa_parseParams_35 F σ3 1)) := by
      show Pa_parseParams_b4 F (Pa_parseParams_4 F (m + 1)) σ 1 (nI 3) = _
      rw [Pa_parseParams_b4, if_neg (by decide), if_neg (by decide)]
    have b2 : Md_readSides_0 F (m2 + 2) τ x = if (gi τ 8) = 0 then (if (gi τ 4) = (2 : Int32) then (bv (Md_readParam F τ) (fun σ3 => Md_readSides_0 F (m2 + 1) σ3 x)) else (Md_readSides_22 F τ x)) else (Md_readSides_22 F τ x) := rfl
    by_cases hk : tkS B n k = 3
    · obtain ⟨σ', τ', p1, p2, p3, p4, p5⟩ := (op_param (F := F) hT hF h hk).2 rfl
      refine ⟨0, σ', ?_, Or.inl ⟨2, tkP B n k, τ', Or.inr rfl, Or.inl ⟨rfl, p2⟩, ?_, p4, p5⟩⟩
      · rw [b1, c_sort hT hC, bi_some, if_pos hk, p1, bi_some]
        show Pa_parseParams_b4 F (Pa_parseParams_4 F m) σ' 0 (nI 3 + 1) = _
        rw [Pa_parseParams_b4, if_pos (by decide), Pa_parseParams_35]
        rfl
      · have h0 : tkS B n k ≠ 0 := by rw [hk]; decide
        have g8 : gi τ 8 = 0 := (hM.2.2.1.2.2.2.1 h0).1
        have g4 : gi τ 4 = 2 := by rw [hM.2.2.1.2.1, hk]; decide
        rw [b2, if_pos g8, if_pos g4, p3, bv_some]
        show Md_readSides_b0 F (Md_readSides_0 F m2) τ' x = _
        rw [Md_readSides_b0, if_neg (by rw [p4.1]; decide)]
    · by_cases h0 : tkS B n k = 0
      · obtain ⟨d1, d2⟩ := TX_dm hT h.1 h0
        refine ⟨1, σ, ?_, Or.inl ⟨1, tkP B n k, τ, Or.inl rfl, d1, ?_, d2, h.2.2.2.2.1⟩⟩
        · rw [b1, c_sort hT hC, bi_some, if_neg hk]; rfl
        · rw [b2, if_neg (by rw [d2.1]; decide)]
      · have g8 : gi τ 8 = 0 := (hM.2.2.1.2.2.2.1 h0).1
        have g4 : gi τ 4 ≠ 2 := by rw [hM.2.2.1.2.1]; exact fun z => hk ((tokM_big hB).2.1.mpr z)
        refine ⟨1, σ, ?_, Or.inr ⟨rfl, k, M, 3, τ, Nat.le_refl _, ?_, h, h0, rfl, rfl, rfl, rfl⟩⟩
        · rw [b1, c_sort hT hC, bi_some, if_neg hk]; rfl
        · rw [b2, if_pos g8, if_neg g4]
  | succ d ih =>
    intro m m2 k M q σ τ hq hm hm2 h
    obtain ⟨m, rfl⟩ : ∃ m', m = m' + 1 := ⟨m - 1, by omega⟩
    obtain ⟨m2, rfl⟩ : ∃ m', m2 = m' + 1 := ⟨m2 - 1, by omega⟩
    have hC := h.1.1.1.1
    have hM := h.1.1.1.2.1
    have b1 : Pa_parseParams_4 F (m + 1) σ 1 (nI q) = bi (Ta_sort F σ) (fun r4 σ3 => if r4 = (3 : Int32) then (bi (Pa_parseParam F σ3) (fun r8 σ7 => Pa_parseParams_4 F m σ7 r8 (nI (q + 1)))) else (Pa_parseParams_35 F σ3 1)) := by
      show Pa_parseParams_b4 F (Pa_parseParams_4 F m) σ 1 (nI q) = _
      rw [Pa_parseParams_b4, if_neg (show ¬ (3 : Int32) < nI q from nI_nlt (a := 3) (by omega) (by omega)), if_neg (by decide), nI_1]
    have b2 : Md_readSides_0 F (m2 + 1) τ x = if (gi τ 8) = 0 then (if (gi τ 4) = (2 : Int32) then (bv (Md_readParam F τ) (fun σ3 => Md_readSides_0 F m2 σ3 x)) else (Md_readSides_22 F τ x)) else (Md_readSides_22 F τ x) := rfl
    by_cases hk : tkS B n k = 3
    · obtain ⟨σ', τ', p1, p2, p3, p4⟩ := (op_param (F := F) hT hF h hk).1 (by omega)
      obtain ⟨r, σ'', e1, res⟩ := ih m m2 (k + 1) (M + 1) (q + 1) σ' τ' (by omega) (by omega) (by omega) p3
      have h0 : tkS B n k ≠ 0 := by rw [hk]; decide
      have g8 : gi τ 8 = 0 := (hM.2.2.1.2.2.2.1 h0).1
      have g4 : gi τ 4 = 2 := by rw [hM.2.2.1.2.1, hk]; decide
      have e2 : Md_readSides_0 F (m2 + 1) τ x = Md_readSides_0 F m2 τ' x := by rw [b2, if_pos g8, if_pos g4, p2, bv_some]
      refine ⟨r, σ'', by rw [b1, c_sort hT hC, bi_some, if_pos hk, p1, bi_some, e1], ?_⟩
      rcases res with ⟨f, p, τ2, v1, v2, v3, v4, v5⟩ | ⟨v0, k', M', q', τ2, v1, v2, v3, v4, v5⟩
      · exact Or.inl ⟨f, p, τ2, v1, v2, by rw [e2, v3], v4, v5⟩
      · exact Or.inr ⟨v0, k', M', q', τ2, by omega, by rw [e2, v2], v3, v4, frP_tr p4 v5⟩
    · by_cases h0 : tkS B n k = 0
      · obtain ⟨d1, d2⟩ := TX_dm hT h.1 h0
        refine ⟨1, σ, ?_, Or.inl ⟨1, tkP B n k, τ, Or.inl rfl, d1, ?_, d2, h.2.2.2.2.1⟩⟩
        · rw [b1, c_sort hT hC, bi_some, if_neg hk]; rfl
        · rw [b2, if_neg (by rw [d2.1]; decide)]
      · have g8 : gi τ 8 = 0 := (hM.2.2.1.2.2.2.1 h0).1
        have g4 : gi τ 4 ≠ 2 := by rw [hM.2.2.1.2.1]; exact fun z => hk ((tokM_big hB).2.1.mpr z)
        refine ⟨1, σ, ?_, Or.inr ⟨rfl, k, M, q, τ, Nat.le_refl _, ?_, h, h0, rfl, rfl, rfl, rfl⟩⟩
        · rw [b1, c_sort hT hC, bi_some, if_neg hk]; rfl
        · rw [b2, if_pos g8, if_neg g4]
end T
