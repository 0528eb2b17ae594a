/-! readType() and parseType(), readOne() and parseOne(). Own text. -/
def mO (B : Nat → Int32) (n : Nat) (τ : zS) (k M s N a : Nat) : Prop :=
  ga τ 1 = B ∧ gi τ 2 = nI n ∧ curT B n k τ ∧ gi τ 31 = nI M ∧ gi τ 17 = nI s ∧ gi τ 16 = nI N ∧ gi τ 23 = nI a ∧ gi τ 18 = 0
def JO (B : Nat → Int32) (n c X N0 : Nat) (σ τ : zS) (k M s N a : Nat) : Prop := cS B n c X σ k M s ∧ mO B n τ k M s N a ∧ tkS B n k ≠ 0 ∧ (∀ i, i < M → meR σ τ i) ∧ mB B n k M ∧ s ≤ 200 ∧ N ≤ N0 + 2 * s ∧ a ≤ s ∧ ownR σ τ
/-- the outcome of both: a fault of both, or a type of both -/
def RdR (B : Nat → Int32) (n c X N0 : Nat) (σ τ : zS) (k M s N a : Nat) (o q : Option (Int32 × zS)) : Prop :=
  ∃ r σ', o = some (r, σ') ∧ frC X M s σ σ' ∧ ((∃ f p τ', (f = 1 ∨ f = 2) ∧ doom B n c X M s r σ' f p ∧ flM N0 0 N a M τ τ' f p ∧ q = some (0, τ')) ∨
    (r = 1 ∧ ∃ k' M' s' N' a' t As nn τ2, k < k' ∧ k' ≤ c ∧ M ≤ M' ∧ JO B n c X N0 σ' τ2 k' M' s' N' a' ∧ frM 0 N a M τ τ2 ∧ okT t ∧ s' = s + lnT t ∧ a' = a + As.length ∧ As.length + 1 ≤ lnT t ∧ N ≤ N' ∧ N' + 1 ≤ N + 2 * lnT t ∧ rwL σ' X s (hdT t :: tlT t) ∧ nd τ2 (gi τ 32) (gi τ 67) N N' t nn As ∧ acL τ2 a As ∧ plT t = tkP B n k ∧ lvA σ' (gi σ 606) M t ∧ M' = M + (lvs t).length ∧ gi τ2 19 = nI (tkP B n k) ∧ q = some (nI nn, τ2)))
section J
variable {F : Nat} {B : Nat → Int32} {n c X N0 : Nat} {σ τ : zS} {k M s N a : Nat}
theorem m_open0L (h : mO B n τ k M s N a) (x : Int32) : ∃ τ1, Md_open F (si τ 42 (-1)) x = some τ1 ∧ mS B n τ1 k M s N a 0 ∧ frM 0 N a M τ τ1 ∧ ga τ1 19 0 = -1 ∧ ga τ1 23 0 = -1 ∧ ga τ1 24 0 = -1 ∧ ga τ1 25 0 = -1 ∧ (∀ j, j < 17 → ga τ1 j = ga τ j) ∧ (∀ j, gb τ1 j = gb τ j) := by
  obtain ⟨h1, h2, h3, h31, h17, h16, h23, h18⟩ := h
  have e42 : gi (si τ 42 (-1)) 42 + 1 = nI 0 := by simp [zs]; decide
  refine ⟨sa (sa (sa (sa (sa (sa (si (si τ 42 (-1)) 42 (nI 0)) 17 0 x) 18 0 (gi τ 5)) 19 0 (-1)) 23 0 (-1)) 24 0 (-1)) 25 0 (-1), ?_, ⟨by simp [zs, h1], by simp [zs, h2], curT_of h3 (by simp [zs]) (by simp [zs]) (by simp [zs]) (by simp [zs]) (by simp [zs]) (by simp [zs]) (by simp [zs]), by simp [zs, h31], by simp [zs, h17], by simp [zs, h16], by simp [zs, h23], by simp [zs], by simp [zs, h18]; rfl⟩, ⟨fun j hj => ?_, fun j i hji => ?_, fun j _ => by simp [zs], fun j i _ _ => by simp [zs], fun _ => ⟨by simp [zs], by simp [zs]⟩, fun _ => by simp [zs]⟩, by simp [at_sa], by simp [at_sa], by simp [at_sa], by simp [at_sa], fun j hj => ?_, fun j => by simp [zs]⟩
  · have e5 : gi (si τ 42 (-1)) 5 = gi τ 5 := by simp [zs]
    rw [Md_open, e42, e5, gd_t (inb_nI (by omega) (by omega)), nI_clamp (by omega)]
  · unfold exM at hj
    have j1 : j ≠ 42 := by omega
    simp [zs, j1]
  · unfold okM at hji
    simp only [at_sa, at_si]
    rw [if_neg (by omega), if_neg (by omega), if_neg (by omega), if_neg (by omega), if_neg (by omega), if_neg (by omega)]
  · have k1 : j ≠ 17 := by omega
    have k2 : j ≠ 18 := by omega
    have k3 : j ≠ 19 := by omega
    have k4 : j ≠ 23 := by omega
    have k5 : j ≠ 24 := by omega
    have k6 : j ≠ 25 := by omega
    simp [zs, k1, k2, k3, k4, k5, k6]
theorem fr_19 (Lv N a M : Nat) (τ : zS) (v : Int32) : frM Lv N a M τ (si τ 19 v) := by
  refine ⟨fun j hj => ?_, fun j i _ => by simp [zs], fun j _ => by simp [zs], fun j i _ _ => by simp [zs], fun _ => ⟨by simp [zs], by simp [zs]⟩, fun _ => by simp [zs]⟩
  unfold exM at hj
  have j1 : j ≠ 19 := by omega
  simp [zs, j1]
theorem mO_19 (h : mS B n τ k M s N a 0) (v : Int32) : mO B n (si τ 19 v) k M s N a := by
  obtain ⟨h1, h2, h3, h31, h17, h16, h23, h42, h18⟩ := h
  exact ⟨by simp [zs, h1], by simp [zs, h2], curT_of h3 (by simp [zs]) (by simp [zs]) (by simp [zs]) (by simp [zs]) (by simp [zs]) (by simp [zs]) (by simp [zs]), by simp [zs, h31], by simp [zs, h17], by simp [zs, h16], by simp [zs, h23], by simp [zs, h18]; rfl⟩
theorem JO_19 {σ : zS} (hJ : JR B n c X N0 σ τ k M s N a 0) (v : Int32) : JO B n c X N0 σ (si τ 19 v) k M s N a := by
  obtain ⟨hC, hM, hne, hme, hmb, hs2, hN, ha, how⟩ := hJ
  refine ⟨hC, mO_19 hM v, hne, fun i hi => ?_, hmb, hs2, hN, ha, ?_⟩
  · have := hme i hi
    unfold meR at this ⊢
    simpa only [zs] using this
  · unfold ownR at how ⊢
    simpa [zs] using how
theorem JR_open {τ1 : zS} (hJ : JO B n c X N0 σ τ k M s N a) (h : mS B n τ1 k M s N a 0) (fr : frM 0 N a M τ τ1) : JR B n c X N0 σ τ1 k M s N a 0 := by
  obtain ⟨hC, hM, hne, hme, hmb, hs2, hN, ha, how⟩ := hJ
  exact ⟨hC, h, hne, fun i hi => meR_fr (frC_rfl X M s σ) fr hi (hme i hi), hmb, hs2, hN, ha, ownR_fr (frC_rfl X M s σ) fr how⟩
theorem rd_type (hT : tEnd B n c) (hX : isRow X = true) (hF : 1300 ≤ F) (hN0 : N0 ≤ 500) (hJ : JO B n c X N0 σ τ k M s N a) : RdR B n c X N0 σ τ k M s N a (Pa_parseType F 12 σ 0) (Md_readType F τ) := by
  have hc := tE_c hT
  have hkc := hJ.1.2.1
  obtain ⟨τ1, e1, hS, fr, v19, v23, v24, v25, _⟩ := m_open0L (F := F) hJ.2.1 0
  have hJ1 := JR_open hJ hS fr
  obtain ⟨r, σ', q1, q2, q3⟩ := ty_all (h := 0) hT hX hF hN0 12 0 (by omega) (by omega) σ τ1 k M s N a hJ1 (fun z => absurd z.2 (by decide)) v19 v23 v24 v25
  have hrd : Md_readType F τ = bi (Md_readOpen_10 F F τ1 0) (fun r2 σ1 => some (r2, σ1)) := by
    rw [Md_readType, Md_readOpen, e1, bv_some]
  have e32 : gi τ1 32 = gi τ 32 := fr.1 32 (by unfold exM; omega)
  have e67 : gi τ1 67 = gi τ 67 := fr.1 67 (by unfold exM; omega)
  refine ⟨r, σ', q1, q2, ?_⟩
  rcases q3 with ⟨f, p, τ', u1, u2, u3, u4⟩ | ⟨u0, kf, Mf, sf, Nf, af, T, Asf, nnf, τf, u1, u2, u3, u4, u5, u6, u7, u8, u9, u10, u11, u12, u13, u14, u15, v1, v2, u16, u17, u18, u19, u20⟩
  · left
    refine ⟨f, p, τ', u1, u2, flM_tr fr u3 (Nat.le_refl _) (Nat.le_refl _) (Nat.le_refl _) (Nat.le_refl _), ?_⟩
    have := u4 (F - (c + 2 - k))
    rw [show F - (c + 2 - k) + (c + 2 - k) = F by omega] at this
    rw [hrd, this, bi_some]
  · right
    rw [e32, e67] at u13
    refine ⟨u0, kf, Mf, sf, Nf, af, T, Asf, nnf, si τf 19 (nI (tkP B n k)), u1, u2, u3, JO_19 u4 _, frM_tr (frM_tr fr u5 (Nat.le_refl _) (Nat.le_refl _) (Nat.le_refl _) (Nat.le_refl _)) (fr_19 0 N a M τf _) (Nat.le_refl _) (Nat.le_refl _) (Nat.le_refl _) (Nat.le_refl _), u6, u7, u8, u9, u10, u11, u12, ?_, ?_, u15, v1, v2, by simp [zs], ?_⟩
    · exact nd_mono (τ := τf) (Nat.le_refl _) (Nat.le_refl _) (fun i _ _ => ⟨by simp [zs], by simp [zs], by simp [zs], by simp [zs]⟩) _ _ _ u13
    · exact acL_fr _ _ (fun j _ _ => ⟨by simp [zs], by simp [zs], by simp [zs]⟩) u14
    · have := u20 (F - ((kf - k) + 1))
      rw [show F - ((kf - k) + 1) + (kf - k) + 1 = F by omega] at this
      have g42 : gi τf 42 = 0 := u4.2.1.2.2.2.2.2.2.2.1
      have c0 : (0 : Int32).toNatClampNeg = 0 := by decide
      rw [hrd, this, Md_readOpen_185, if_pos g42, gd_t (by decide), c0, u16, u17, bi_some]
theorem rd_one (hT : tEnd B n c) (hX : isRow X = true) (hF : 1300 ≤ F) (hN0 : N0 ≤ 500) (hJ : JO B n c X N0 σ τ k M s N a) (hst : stO (tkS B n k)) : RdR B n c X N0 σ τ k M s N a (Pa_parseOne F 12 σ 0) (Md_readOne F τ) := by
  have hc := tE_c hT
  have hkc := hJ.1.2.1
  obtain ⟨τ1, e1, hS, fr, v19, v23, v24, v25, _⟩ := m_open0L (F := F) hJ.2.1 3
  have hJ1 := JR_open hJ hS fr
  have hv : lvO τ1 0 := Or.inl (by rw [v19]; decide)
  have hh : ¬ (0 = 0 ∧ (3 : Int32) = 3 ∧ ¬ ga τ1 19 0 < 0) := fun z => z.2.2 (by rw [v19]; decide)
  have hone : OneR F B n c X N0 3 σ τ1 k M s N a 0 (Pa_parseOne_m F (Pa_parseType F 12) σ (nI 0)) := by
    by_cases hs : nmT (tkS B n k)
    · exact one_leaf hT hX hF hN0 hJ1 (by omega) hs hv hh _
    · have hs2 : tkS B n k = 40 ∨ tkS B n k = 91 := by
        unfold stO at hst
        unfold nmT at hs
        rcases hst with q | q | q | q
        · exact absurd (Or.inl q) hs
        · exact absurd (Or.inr q) hs
        · exact Or.inl q
        · exact Or.inr q
      exact one_brk hT hX hF hN0 hJ1 (by omega) hs2 hv hh _ (fun qL σ τ k M s N a hJ w19 w23 w24 w25 => ty_all hT hX hF hN0 12 1 (by omega) (by omega) σ τ k M s N a hJ (fun z => by omega) w19 w23 w24 w25) (fun qL σ k M s hC hs0 => ty_bad hT hX hF 11 _ σ k M s hC (by rw [hs0]; unfold stO; decide))
  obtain ⟨r, σ', q1, q2, q3⟩ := hone
  have hrd : Md_readOne F τ = bi (Md_readOpen_10 F F τ1 3) (fun r2 σ1 => some (r2, σ1)) := by
    rw [Md_readOne, Md_readOpen, e1, bv_some]
  have e32 : gi τ1 32 = gi τ 32 := fr.1 32 (by unfold exM; omega)
  have e67 : gi τ1 67 = gi τ 67 := fr.1 67 (by unfold exM; omega)
  refine ⟨r, σ', q1, q2, ?_⟩
  rcases q3 with ⟨f, p, τ', u1, u2, u3, u4⟩ | ⟨u0, kf, Mf, sf, Nf, af, T, Asf, nnf, τf, u1, u2, u3, u4, u5, u6, u7, u8, u9, u10, u11, u12, u13, u14, u15, u16, v1, v2, u17, u18⟩
  · left
    refine ⟨f, p, τ', u1, u2, flM_tr fr u3 (Nat.le_refl _) (Nat.le_refl _) (Nat.le_refl _) (Nat.le_refl _), ?_⟩
    have := u4 (F - (c + 2 - k))
    rw [show F - (c + 2 - k) + (c + 2 - k) = F by omega] at this
    rw [hrd, this, bi_some]
  · right
    rw [e32, e67] at u14
    obtain ⟨jZ, jcu⟩ := mS_Z u4.2.1
    have lvf : ga τf 19 0 = -1 := (u5.2.1 19 0 (by unfold okM; omega)).trans v19
    have lv25 : ga τf 25 0 = -1 := (u5.2.1 25 0 (by unfold okM; omega)).trans v25
    obtain ⟨τ2, a1, aZ, ai, al, afr, alv, age, agb, l17, l18⟩ := m_add1 (F := F) jZ (by omega) ⟨rfl, rfl, rfl, rfl, rfl, rfl, rfl⟩ (by rw [lvf]; decide) (nI nnf) (if tkS B n k = 2 then nI M else -1) (nI (tkP B n k))
    have hM2 : mS B n τ2 kf Mf sf Nf af 0 := mZ_S aZ (curT_of jcu (ai 3) (ai 4) (ai 5) (ai 7) (ai 8) (ai 9) (al 6))
    have hJ2 : JR B n c X N0 σ' τ2 kf Mf sf Nf af 0 := by
      obtain ⟨hC, hM, hne, hme, hmb, hs2, hN, ha, how⟩ := u4
      refine ⟨hC, hM2, hne, fun i hi => ?_, hmb, hs2, hN, ha, ?_⟩
      · have q := hme i hi
        unfold meR at q ⊢
        rw [age 10 (by omega), agb 11, age 12 (by omega), age 13 (by omega), age 15 (by omega), age 16 (by omega)]
        exact q
      · unfold ownR at how ⊢
        rw [ai]
        exact how
    have g8 := (m_flt hM2 u4.2.2.1).1
    have hret : ∀ m, Md_readOpen_10 F (m + 1) τ2 3 = some (nI nnf, si τ2 19 (nI (tkP B n k))) := by
      intro m
      show Md_readOpen_b10 F (Md_readOpen_10 F m) τ2 3 = _
      have g42 : gi τ2 42 = 0 := hM2.2.2.2.2.2.2.2.1
      have c0 : (0 : Int32).toNatClampNeg = 0 := by decide
      have hnn := (nd_lt T nnf Asf u14).2
      have hNb : Nf ≤ N0 + 2 * sf := u4.2.2.2.2.2.2.1
      have hsb : sf ≤ 200 := u4.2.2.2.2.2.1
      rw [Md_readOpen_b10, if_pos g8, if_pos g42, if_pos rfl, gd_t (by decide), c0, alv.1, if_neg (nI_pos (by omega)), alv.2.2.2.2.2.2, if_pos (by rw [lv25]; decide)]
    refine ⟨u0, kf, Mf, sf, Nf, af, T, Asf, nnf, si τ2 19 (nI (tkP B n k)), u1, u2, u3, JO_19 hJ2 _, frM_tr (frM_tr (frM_tr fr u5 (Nat.zero_le _) (Nat.le_refl _) (Nat.le_refl _) (Nat.le_refl _)) (afr N a M) (Nat.le_refl _) (Nat.le_refl _) (Nat.le_refl _) (Nat.le_refl _)) (fr_19 0 N a M τ2 _) (Nat.le_refl _) (Nat.le_refl _) (Nat.le_refl _) (Nat.le_refl _), u6, u8, u9, u10, u11, u12, u13, ?_, ?_, u16, v1, v2, by simp [zs], ?_⟩
    · exact nd_mono (τ := τf) (Nat.le_refl _) (Nat.le_refl _) (fun i _ _ => ⟨by simp only [zs]; rw [age 2 (by omega)], by simp only [zs]; rw [agb], by simp only [zs]; rw [age 4 (by omega)], by simp only [zs]; rw [age 5 (by omega)]⟩) _ _ _ u14
    · exact acL_fr _ _ (fun j _ _ => ⟨by simp only [zs]; rw [age 7 (by omega)], by simp only [zs]; rw [age 8 (by omega)], by simp only [zs]; rw [age 9 (by omega)]⟩) u15
    · have e0 := u18 (F - ((kf - k) + 1) + 1) τ2 a1
      rw [show F - ((kf - k) + 1) + 1 + (kf - k) = F by omega] at e0
      rw [hrd, e0, hret, bi_some]
end J
