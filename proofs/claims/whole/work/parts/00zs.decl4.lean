/-! A text while it is read: parameters, constructors, methods. Own text. -/
section T
variable {F : Nat} {B : Nat → Int32} {n c : Nat} {σ0 τ0 σ τ : zS} {k M s N a o S R : Nat} {TL : List TR} {so q it : Nat}
/-- what such a step leaves alone in the reference -/
def frP (τ τ' : zS) : Prop := gi τ' 66 = gi τ 66 ∧ gi τ' 67 = gi τ 67 ∧ ga τ' 41 = ga τ 41 ∧ ga τ' 33 = ga τ 33
theorem frP_tr {τ τ1 τ2 : zS} (h1 : frP τ τ1) (h2 : frP τ1 τ2) : frP τ τ2 := ⟨h2.1.trans h1.1, h2.2.1.trans h1.2.1, h2.2.2.1.trans h1.2.2.1, h2.2.2.2.trans h1.2.2.2⟩
theorem frP_M {Lv N a M : Nat} {τ τ' : zS} (h : frM Lv N a M τ τ') : frP τ τ' := ⟨h.1 66 (by unfold exM; omega), h.1 67 (by unfold exM; omega), by funext i; exact h.2.1 41 i (by unfold okM; omega), by funext i; exact h.2.1 33 i (by unfold okM; omega)⟩
theorem JD_dc (h : JD B n c σ0 τ0 σ τ k M s N a o S R TL so q it) : o ≤ 15 ∧ ga τ 36 o = nI q ∧ ga τ 38 o = nI it ∧ ga τ 33 o = nI so := by
  obtain ⟨⟨hX, hb, d1, d2, d3, d4⟩, hAB, h39, h606, h32, h29, h32', h34, _⟩ := h
  obtain ⟨so', q', it', a1, a2, a3, a4, a5, a6, a7, a8, a9, a10, a11, a12, a13, a14⟩ := d4 o (by omega)
  rw [h29] at a4
  rw [h32'] at a8
  rw [h34] at a11
  exact ⟨by omega, by rw [a9]; exact a8.symm, by rw [a12]; exact a11.symm, by rw [a5]; exact a4.symm⟩
theorem op_param (hT : tEnd B n c) (hF : 1300 ≤ F) (h : JD B n c σ0 τ0 σ τ k M s N a o S R TL so q it) (hk : tkS B n k = 3) : (q < 3 → ∃ σ' τ', Pa_parseParam F σ = some (1, σ') ∧ Md_readParam F τ = some τ' ∧ JD B n c σ0 τ0 σ' τ' (k + 1) (M + 1) s N a o S R TL so (q + 1) it ∧ frP τ τ') ∧ (q = 3 → ∃ σ' τ', Pa_parseParam F σ = some (0, σ') ∧ FC σ0 σ' 2 (tkP B n k) ∧ Md_readParam F τ = some τ' ∧ FS τ0 τ' 2 (tkP B n k) ∧ gi τ' 32 = nI o) := by
  have hB := hT.1
  obtain ⟨ho, t36, t38, t33⟩ := JD_dc h
  obtain ⟨⟨hX, hb, hDC⟩, hAB, h39, h606, h32, h29, h32', h34, hso, hq3, hit, hCL⟩ := h
  have hC := hX.1.1
  have hM := hX.1.2.1
  have h0 : tkS B n k ≠ 0 := by rw [hk]; decide
  have g6 : gl τ 6 = tkN B n k := hM.2.2.1.2.2.2.2.1 (by rw [hk]; decide)
  have in16 : inb (nI o) 16 = true := inb_nI (by omega) (by omega)
  have co : (nI o).toNatClampNeg = o := nI_clamp (by omega)
  constructor
  · intro hq
    have e3 : nI o * (3 : Int32) + nI q = nI (3 * o + q) := by
      rw [show (3 : Int32) = nI 3 from rfl, pk_mul, nI_add]
      congr 1
      omega
    have e3' : (3 : Int32) * nI o + nI q = nI (3 * o + q) := by
      rw [show (3 : Int32) = nI 3 from rfl, pk_mul, nI_add]
    obtain ⟨σ1, es1⟩ : ∃ σ1, σ1 = sa (sb σ 33 (3 * o + q) (tkN B n k)) 32 o (nI (q + 1)) := ⟨_, rfl⟩
    have fD : frD σ σ1 := by
      rw [es1]
      exact ⟨fun j _ _ => by simp [zs], fun j j1 j2 j3 j4 j5 j6 => by simp [zs, j3], fun j => by simp [zs], fun j j1 j2 => by simp [zs, j2], fun j => by simp [zs], fun j => by simp [zs], fun j => by simp [zs], fun j => by simp [zs]⟩
    have X1 := TXn_dc hX fD (frE_rfl (o + 1) τ) (Nat.le_refl _)
    have hM6 : M < 600 := (mB_add hB hb.1 (Or.inr hk)).1
    obtain ⟨σ2, τ1, t1, t2, X2, fc2, fm2, ec, ic2, im2, il2⟩ := TXn_tell (F := F) hT X1 (Or.inr hk) hM6 3 (nI o) (-1) (by decide) (by decide) (Or.inl h32) ⟨o, by omega, rfl⟩
    obtain ⟨τ2, et2⟩ : ∃ τ2, τ2 = sa (sb τ1 37 (3 * o + q) (tkN B n k)) 36 o (nI (q + 1)) := ⟨_, rfl⟩
    have fE : frE (o + 1) τ1 τ2 := by
      rw [et2]
      exact ⟨fun j _ _ _ _ => by simp [zs], fun j j1 j2 j3 j4 j5 j6 => by simp [zs, j3], fun i _ => by simp [zs], fun j => by simp [zs], fun j j1 j2 => by simp [zs, j2]⟩
    have X3 := TXn_dc X2 (frD_rfl σ2) fE (Nat.le_refl _)
    obtain ⟨τ3, e3n, fr3, cu3⟩ := m_nx (F := F) hB hF X3.1.2.1 h0
    obtain ⟨s3, X4, fc4, fm4⟩ := TXn_step (F := F) hT X3 (by rw [hk]; decide) h0 fr3 cu3
    have a2 : ∀ j, j < 43 → ga σ2 j = ga σ1 j := fun j hj => by funext i; exact fc2.2.1 j i (by omega)
    have b2 : ∀ j, j ≠ 44 → gb σ2 j = gb σ1 j := fun j hj => by funext i; exact fc2.2.2.2.1 j i (Or.inl hj)
    have A2 : ∀ j, (26 ≤ j) → ga τ1 j = ga τ j := fun j hj => by funext i; exact fm2.2.1 j i (by unfold okM; omega)
    have B2 : ∀ j, j ≠ 3 → j ≠ 11 → gb τ1 j = gb τ j := fun j hj hj2 => by funext i; exact fm2.2.2.2.1 j i (by omega) (by omega)
    obtain ⟨fa1, fa2, fa3, fa4, _⟩ := fr3
    have c4e : c4 (si σ2 106 (nI (k + 1))) (M + 1) = c4 σ M := by
      rw [c4_fr (σ := σ2) (M + 1) (fun i _ => by simp [zs]), ec, c4_fr (σ := σ) M (fun i _ => by rw [es1]; simp [zs])]
    obtain ⟨d1, d2, d3, d4⟩ := hDC
    have hDC' : DC (si σ2 106 (nI (k + 1))) τ3 (o + 1) := by
      refine ⟨?_, ?_, d3, fun i hi => ?_⟩
      · simp only [zs]; rw [if_neg (by decide), ic2 400 (by decide), es1]; simp only [zs]; exact d1
      · rw [fa1 52 (by decide) (by decide) (by decide) (by decide) (by decide) (by decide), et2]; simp only [zs]; rw [im2 52 (by decide), d2]
      · rcases Nat.lt_or_ge i o with qq | qq
        · have hio : i ≠ o := by omega
          refine dcR_fr (d4 i hi) (fun j hj => ?_) ?_ (fun j hj => ?_) (fun j hj => ?_) ?_ (fun j hj => ?_)
          · simp only [zs]; rw [a2 j (by omega), es1]; simp [at_sa, at_sb, hio]
          · simp only [zs]; rw [b2 30 (by decide), es1]; simp [at_sa, at_sb]
          · simp only [zs]; rw [b2 33 (by decide), es1]; simp only [at_sa, at_sb]; rw [if_neg (by omega)]
          · rw [fa2, et2]; simp only [at_sa, at_sb]; rw [if_neg (by omega), A2 j (by omega)]
          · rw [fa4, et2]; simp only [at_sa, at_sb]; rw [if_neg (by omega), B2 34 (by decide) (by decide)]
          · rw [fa4, et2]; simp only [at_sa, at_sb]; rw [if_neg (by omega), B2 37 (by decide) (by decide)]
        · have : i = o := by omega
          subst this
          obtain ⟨so', q', it', z1, z2, z3, z4, z5, z6, z7, z8, z9, z10, z11, z12, z13, z14⟩ := d4 i hi
          have eq : q' = q := by
            rw [h32'] at z8
            exact ((nI_eq (a := q) (b := q') (by omega) (by omega)).mp z8).symm
          subst eq
          refine ⟨so', q' + 1, it', z1, by omega, z3, ?_, ?_, ?_, ?_, ?_, ?_, fun j hj => ?_, ?_, ?_, ?_, ?_⟩
          · simp only [zs]; rw [a2 29 (by omega), es1]; simp only [at_sa, at_sb]; rw [if_neg (by omega)]; exact z4
          · rw [fa2, et2]; simp only [at_sa, at_sb]; rw [if_neg (by omega), A2 33 (by omega)]; exact z5
          · simp only [zs]; rw [fa4, et2]; simp only [at_sa, at_sb]; rw [if_neg (by omega), B2 34 (by decide) (by decide), b2 30 (by decide), es1]; simp only [at_sa, at_sb]; rw [if_neg (by omega)]; exact z6
          · simp only [zs]; rw [fa2, et2]; simp only [at_sa, at_sb]; rw [if_neg (by omega), A2 35 (by omega), a2 31 (by omega), es1]; simp only [at_sa, at_sb]; rw [if_neg (by omega)]; exact z7
          · simp only [zs]; rw [a2 32 (by omega), es1]; simp [at_sa, at_sb]
          · rw [fa2, et2]; simp [at_sa, at_sb]
          · simp only [zs]; rw [fa4, et2, b2 33 (by decide), es1]; simp only [at_sa, at_sb]
            rcases Nat.lt_or_ge j q' with w | w
            · rw [if_neg (by omega), if_neg (by omega), B2 37 (by decide) (by decide)]; exact z10 j w
            · have : j = q' := by omega
              subst this
              rw [if_pos ⟨by decide, rfl⟩, if_pos ⟨by decide, rfl⟩]
          · simp only [zs]; rw [a2 34 (by omega), es1]; simp only [at_sa, at_sb]; rw [if_neg (by omega)]; exact z11
          · rw [fa2, et2]; simp only [at_sa, at_sb]; rw [if_neg (by omega), A2 38 (by omega)]; exact z12
          · simp only [zs]; rw [a2 35 (by omega), es1]; simp only [at_sa, at_sb]; rw [if_neg (by omega)]; exact z13
          · simp only [zs]; rw [a2 37 (by omega), es1]; simp only [at_sa, at_sb]; rw [if_neg (by omega)]; exact z14
    refine ⟨si σ2 106 (nI (k + 1)), τ3, ?_, ?_, ⟨⟨X4, (bnT_tell hT (Or.inr hk) hb c4e).2, hDC'⟩, ?_, ?_, ?_, ?_, ?_, ?_, ?_, hso, by omega, hit, fun i hi => ?_⟩, ⟨?_, ?_, ?_, ?_⟩⟩
    · have g606 : gi σ1 606 = nI o := by rw [es1]; simp only [zs]; exact h606
      rw [Pa_parseParam, c_sort hT hC, bi_some, if_pos hk, h606, gd_t in16, co, h32', if_pos (show nI q < (3 : Int32) from nI_lt (b := 3) hq (by omega)), c_name hT hC, bi_some, Te_addParam, gd_t in16, co, h32', if_neg (show ¬ (3 : Int32) ≤ nI q from nI_ge (b := 3) hq (by omega)), e3, gd_t (inb_nI (by omega) (by omega)), nI_clamp (by omega), Te_addParam_36, nI_1, ← es1, bv_some, g606, t1, bv_some, s3, bv_some]
    · have n3 : ¬ nI q = 3 := fun z => by have := (nI_eq (a := q) (b := 3) (by omega) (by omega)).mp z; omega
      have t2' : Md_tell F τ 1 (-1) = some τ1 := t2
      have q32 : gi τ1 32 = nI o := by rw [im2 32 (by decide), h32]
      have q36 : ga τ1 36 o = nI q := by rw [A2 36 (by omega), t36]
      have q6 : gl τ1 6 = tkN B n k := by rw [il2, g6]
      rw [Md_readParam, h32, gd_t (inb_nI (by omega) (by omega)), co, t36, if_neg n3, t2', bv_some, q32, gd_t (inb_nI (by omega) (by omega)), co, q36, e3', gd_t (inb_nI (by omega) (by omega)), nI_clamp (by omega), q6, nI_1, ← et2, e3n, bv_some]
    · intro i hi
      obtain ⟨q1, q2⟩ := hAB i hi
      rw [fa2 39, fa2 40, et2]
      simp only [at_sa, at_sb]
      rw [if_neg (by omega), if_neg (by omega), A2 39 (by omega), A2 40 (by omega)]
      exact ⟨q1, q2⟩
    · rw [fa2 39, et2]; simp only [at_sa, at_sb]; rw [if_neg (by omega), A2 39 (by omega)]; exact h39
    · simp only [zs]; rw [if_neg (by decide), ic2 606 (by decide), es1]; simp only [zs]; exact h606
    · rw [fa1 32 (by decide) (by decide) (by decide) (by decide) (by decide) (by decide), et2]; simp only [zs]; rw [im2 32 (by decide), h32]
    · simp only [zs]; rw [a2 29 (by omega), es1]; simp only [at_sa, at_sb]; rw [if_neg (by omega)]; exact h29
    · simp only [zs]; rw [a2 32 (by omega), es1]; simp [at_sa, at_sb]
    · simp only [zs]; rw [a2 34 (by omega), es1]; simp only [at_sa, at_sb]; rw [if_neg (by omega)]; exact h34
    · simp only [zs]
      rw [a2 29 (by omega), a2 32 (by omega), es1]
      simp only [at_sa, at_sb]
      rw [if_neg (by omega), if_neg (by omega)]
      exact hCL i hi
    · rw [fa1 66 (by decide) (by decide) (by decide) (by decide) (by decide) (by decide), et2]; simp only [zs]; rw [im2 66 (by decide)]
    · rw [fa1 67 (by decide) (by decide) (by decide) (by decide) (by decide) (by decide), et2]; simp only [zs]; rw [im2 67 (by decide)]
    · rw [fa2 41, et2]; simp only [zs]; rw [if_neg (by decide), A2 41 (by omega)]
    · rw [fa2 33, et2]; simp only [zs]; rw [if_neg (by decide), A2 33 (by omega)]
  · intro hq
    subst hq
    obtain ⟨⟨σ', r1, r2⟩, r3⟩ := TX_raise (F := F) hT ⟨hX, hb, hDC⟩ 2 (by decide)
    obtain ⟨τ', r4, r5, r6⟩ := r3 h0
    refine ⟨σ', τ', ?_, r2, ?_, r5, by rw [r6, h32]⟩
    · have r1' : Pa_tooMuch F σ = some (0, σ') := r1
      rw [Pa_parseParam, c_sort hT hC, bi_some, if_pos hk, h606, gd_t in16, co, h32', if_neg (by decide), r1', bi_some]
      rfl
    · rw [Md_readParam, h32, gd_t (inb_nI (by omega) (by omega)), co, t36, if_pos (show nI 3 = (3 : Int32) from rfl), r4, bv_some]
/-- a constructor or a method: told, the step not yet taken -/
theorem op_item0 (hT : tEnd B n c) (h : JD B n c σ0 τ0 σ τ k M s N a o S R TL so q it) (hk : nmT (tkS B n k)) (r : Int32) (hr : r = 1 ∨ r = 2) (hit6 : it < 6) : ∃ σ' τ', Me_add F (sa σ 34 o (nI (it + 1))) r (nI o) = some σ' ∧ Md_tell F (sa τ 38 o (nI (it + 1))) (rlM r) (-1) = some τ' ∧ TXn B n c σ0 τ0 σ' τ' k (M + 1) s N a (o + 1) S R TL ∧ DC σ' τ' (o + 1) ∧ c4 σ' (M + 1) = c4 σ M ∧ AB τ' o TL ∧ ga τ' 39 o = nI (apos o TL) ∧ gi σ' 606 = nI o ∧ gi τ' 32 = nI o ∧ ga σ' 29 o = nI so ∧ ga σ' 32 o = nI q ∧ ga σ' 34 o = nI (it + 1) ∧ CL σ' o ∧ frP τ τ' := by
  have hB := hT.1
  obtain ⟨ho, t36, t38, t33⟩ := JD_dc h
  obtain ⟨⟨hX, hb, hDC⟩, hAB, h39, h606, h32, h29, h32', h34, hso, hq3, hit, hCL⟩ := h
  obtain ⟨σ1, es1⟩ : ∃ σ1, σ1 = sa σ 34 o (nI (it + 1)) := ⟨_, rfl⟩
  obtain ⟨τ1, et1⟩ : ∃ τ1, τ1 = sa τ 38 o (nI (it + 1)) := ⟨_, rfl⟩
  have fD : frD σ σ1 := by
    rw [es1]
    exact ⟨fun j _ _ => by simp [zs], fun j j1 j2 j3 j4 j5 j6 => by simp [zs, j4], fun j => by simp [zs], fun j j1 j2 => by simp [zs], fun j => by simp [zs], fun j => by simp [zs], fun j => by simp [zs], fun j => by simp [zs]⟩
  have fE : frE (o + 1) τ τ1 := by
    rw [et1]
    exact ⟨fun j _ _ _ _ => by simp [zs], fun j j1 j2 j3 j4 j5 j6 => by simp [zs, j4], fun i _ => by simp [zs], fun j => by simp [zs], fun j j1 j2 => by simp [zs]⟩
  have X1 := TXn_dc hX fD fE (Nat.le_refl _)
  have hM6 : M < 600 := (mB_add hB hb.1 hk).1
  have r4 : r ≠ 4 := by rcases hr with z | z <;> rw [z] <;> decide
  have r5 : r ≠ 5 := by rcases hr with z | z <;> rw [z] <;> decide
  have q32 : gi τ1 32 = nI o := by rw [et1]; simp only [zs]; exact h32
  obtain ⟨σ2, τ2, t1, t2, X2, fc2, fm2, ec, ic2, im2, il2⟩ := TXn_tell (F := F) hT X1 hk hM6 r (nI o) (-1) r4 r5 (Or.inl q32) ⟨o, by omega, rfl⟩
  have a2 : ∀ j, j < 43 → ga σ2 j = ga σ1 j := fun j hj => by funext i; exact fc2.2.1 j i (by omega)
  have b2 : ∀ j, j ≠ 44 → gb σ2 j = gb σ1 j := fun j hj => by funext i; exact fc2.2.2.2.1 j i (Or.inl hj)
  have A2 : ∀ j, (26 ≤ j) → ga τ2 j = ga τ1 j := fun j hj => by funext i; exact fm2.2.1 j i (by unfold okM; omega)
  have B2 : ∀ j, j ≠ 3 → j ≠ 11 → gb τ2 j = gb τ1 j := fun j hj hj2 => by funext i; exact fm2.2.2.2.1 j i (by omega) (by omega)
  obtain ⟨d1, d2, d3, d4⟩ := hDC
  rw [es1] at t1
  rw [et1] at t2
  refine ⟨σ2, τ2, t1, t2, X2, ⟨?_, ?_, d3, fun i hi => ?_⟩, ?_, ?_, ?_, ?_, ?_, ?_, ?_, ?_, fun i hi => ?_, ⟨?_, ?_, ?_, ?_⟩⟩
  · rw [ic2 400 (by decide), es1]; simp only [zs]; exact d1
  · rw [im2 52 (by decide), et1]; simp only [zs]; exact d2
  · rcases Nat.lt_or_ge i o with qq | qq
    · have hio : i ≠ o := by omega
      refine dcR_fr (d4 i hi) (fun j hj => ?_) ?_ (fun j hj => ?_) (fun j hj => ?_) ?_ (fun j hj => ?_)
      · rw [a2 j (by omega), es1]; simp only [at_sa]; rw [if_neg (by omega)]
      · rw [b2 30 (by decide), es1]; simp only [at_sa]
      · rw [b2 33 (by decide), es1]; simp only [at_sa]
      · rw [A2 j (by omega), et1]; simp only [at_sa]; rw [if_neg (by omega)]
      · rw [B2 34 (by decide) (by decide), et1]; simp only [at_sa]
      · rw [B2 37 (by decide) (by decide), et1]; simp only [at_sa]
    · have : i = o := by omega
      subst this
      obtain ⟨so', q', it', z1, z2, z3, z4, z5, z6, z7, z8, z9, z10, z11, z12, z13, z14⟩ := d4 i hi
      refine ⟨so', q', it + 1, z1, z2, by omega, ?_, ?_, ?_, ?_, ?_, ?_, fun j hj => ?_, ?_, ?_, ?_, ?_⟩
      · rw [a2 29 (by omega), es1]; simp only [at_sa]; rw [if_neg (by omega)]; exact z4
      · rw [A2 33 (by omega), et1]; simp only [at_sa]; rw [if_neg (by omega)]; exact z5
      · rw [B2 34 (by decide) (by decide), b2 30 (by decide), et1, es1]; simp only [at_sa]; exact z6
      · rw [A2 35 (by omega), a2 31 (by omega), et1, es1]; simp only [at_sa]; rw [if_neg (by omega), if_neg (by omega)]; exact z7
      · rw [a2 32 (by omega), es1]; simp only [at_sa]; rw [if_neg (by omega)]; exact z8
      · rw [A2 36 (by omega), et1]; simp only [at_sa]; rw [if_neg (by omega)]; exact z9
      · rw [B2 37 (by decide) (by decide), b2 33 (by decide), et1, es1]; simp only [at_sa]; exact z10 j hj
      · rw [a2 34 (by omega), es1]; simp [at_sa]
      · rw [A2 38 (by omega), et1]; simp [at_sa]
      · rw [a2 35 (by omega), es1]; simp only [at_sa]; rw [if_neg (by omega)]; exact z13
      · rw [a2 37 (by omega), es1]; simp only [at_sa]; rw [if_neg (by omega)]; exact z14
  · rw [ec, c4_fr (σ := σ) M (fun i _ => by rw [es1]; simp [zs])]
  · intro i hi
    obtain ⟨q1, q2⟩ := hAB i hi
    rw [A2 39 (by omega), A2 40 (by omega), et1]
    simp only [at_sa]
    rw [if_neg (by omega), if_neg (by omega)]
    exact ⟨q1, q2⟩
  · rw [A2 39 (by omega), et1]; simp only [at_sa]; rw [if_neg (by omega)]; exact h39
  · rw [ic2 606 (by decide), es1]; simp only [zs]; exact h606
  · rw [im2 32 (by decide)]; exact q32
  · rw [a2 29 (by omega), es1]; simp only [at_sa]; rw [if_neg (by omega)]; exact h29
  · rw [a2 32 (by omega), es1]; simp only [at_sa]; rw [if_neg (by omega)]; exact h32'
  · rw [a2 34 (by omega), es1]; simp [at_sa]
  · rw [a2 29 (by omega), a2 32 (by omega), es1]
    simp only [at_sa]
    rw [if_neg (by omega), if_neg (by omega)]
    exact hCL i hi
  · rw [im2 66 (by decide), et1]; simp only [zs]
  · rw [im2 67 (by decide), et1]; simp only [zs]
  · rw [A2 41 (by omega), et1]; simp only [zs]; rw [if_neg (by decide)]
  · rw [A2 33 (by omega), et1]; simp only [zs]; rw [if_neg (by decide)]
end T
