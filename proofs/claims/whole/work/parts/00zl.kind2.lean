/-! Kinds that are told: both readers side by side. Own text. -/
section PK
variable {F : Nat} {B : Nat → Int32} {n c X : Nat} {σ τ : zS} {k M s S R L : Nat}
theorem c_mkArrow (h : gi σ 306 = nI S) (hS : S < 1713) (x y : Int32) : Ki_makeArrow F σ x y = some (nI S, si (sa (sa (sa σ 23 S x) 24 S y) 25 S (-1)) 306 (nI (S + 1))) := by
  rw [Ki_makeArrow, h, if_pos (show nI S < (1713 : Int32) from nI_lt (b := 1713) hS (by omega)), gd_t (inb_nI hS (by omega)), nI_clamp (by omega), nI_pm, nI_1]
theorem tk_arrow (hB : byt B n) (h : tkS B n k = 45) : tkP B n k + 2 ≤ tkP B n (k + 1) := by
  have h1 : tkP B n k < n := by
    rcases Nat.lt_or_ge (tkP B n k) n with q | q
    · exact q
    · rw [tkS_end (by have := tkP_le B n k; omega)] at h
      exact absurd h (by decide)
  have h2 := (tk_next h1).1
  have h3 := sk_ge B n (lxE B n (k + 1))
  have h4 : tkP B n (k + 1) = sk B n (lxE B n (k + 1)) := rfl
  obtain ⟨b, hb, eb⟩ := hB.2 _ h1
  have big : ∀ b, b < 256 → sgS (nI b) ≠ 45 := by decide +kernel
  have h5 : (tokS B n (tkP B n k)).2.2 = tkP B n k + 2 := by
    unfold tkS at h
    rw [if_pos h1] at h
    unfold tokS at h ⊢
    split at h
    · exfalso
      split at h
      · dsimp only at h
        split at h
        · exact absurd h (by decide)
        · rcases smS_rng (nVal B (tkP B n k) (nmE B n (tkP B n k) - tkP B n k)) with ⟨s1, _⟩ | ⟨s1, _⟩
          · rw [s1] at h; exact absurd h (by decide)
          · rcases s1 with s1 | s1 | s1 | s1 <;> rw [s1] at h <;> exact absurd h (by decide)
      · dsimp only at h; exact absurd h (by decide)
    · rename_i g
      rw [if_neg g]
      split at h
      · rename_i g2
        rw [if_pos g2]
      · dsimp only at h
        rw [eb] at h
        exact absurd h (big b hb)
  omega
def kJ (B : Nat → Int32) (n c X : Nat) (σ τ : zS) (k M s S R L : Nat) : Prop := cS B n c X σ k M s ∧ gi σ 306 = nI S ∧ 1 ≤ S ∧ mK B n τ k R L ∧ tkS B n k ≠ 0 ∧ 3 * S ≤ tkP B n k + 3 ∧ 1 ≤ R ∧ R ≤ S
def dmK (B : Nat → Int32) (n c X M s : Nat) (r : Int32) (σ' : zS) (f : Int32) (p : Nat) : Prop := (r = -1 ∧ gi σ' 200 = f ∧ gi σ' 201 = nI p) ∨ ((∃ x : Nat, x < 2000 ∧ r = nI x) ∧ f = 1 ∧ ∃ k', cS B n c X σ' k' M s ∧ tkS B n k' = 0 ∧ p = tkP B n k')
def badK (F : Nat) (B : Nat → Int32) (n c X M s : Nat) (τ : zS) (k Lv R : Nat) (q wn : Int32) (r : Int32) (σ' : zS) : Prop := (∃ S', S' ≤ 500 ∧ gi σ' 306 = nI S') ∧ ∃ f p τ', (f = 1 ∨ f = 2) ∧ dmK B n c X M s r σ' f p ∧ frK Lv R q τ τ' ∧ gi τ' 8 = f ∧ gi τ' 9 = nI p ∧ (∃ R', R' ≤ 500 ∧ gi τ' 48 = nI R') ∧ ∀ m, Md_readKind_11 F (m + (c + 2 - k)) τ wn = some (0, τ')
def PartK (F : Nat) (B : Nat → Int32) (n c X M s : Nat) (σ τ : zS) (k S R L : Nat) (o : Option (Int32 × zS)) : Prop :=
  ∃ r σ', o = some (r, σ') ∧ frKC S (-1) σ σ' ∧ (badK F B n c X M s τ k L R (ga τ 32 L) 1 r σ' ∨
    (∃ k' S' R1 R' T x z τ', r = nI x ∧ x < 2000 ∧ k < k' ∧ k' ≤ c ∧ cS B n c X σ' k' M s ∧ gi σ' 306 = nI S' ∧ S ≤ S' ∧ mK B n τ' k' R' L ∧ tkS B n k' ≠ 0 ∧ 3 * S' + 1 ≤ tkP B n k' + 3 ∧ kdC σ' S S' T x ∧ kdM τ' R R1 T z ∧ R ≤ R1 ∧ R1 + S ≤ R + S' ∧ apR τ τ' L z R1 R' ∧ frK L R (ga τ 32 L) τ τ' ∧ ∀ m, Md_readKind_11 F (m + (k' - k)) τ 1 = Md_readKind_11 F m τ' 0))
theorem rk_it (m : Nat) (x : Int32) (h8 : gi τ 8 = 0) : Md_readKind_11 F (m + 1) τ x = if x = 0 then Md_readKind_48 F (Md_readKind_11 F m) τ x else bi (Md_isSign F τ (42 : Int32)) (fun r4 σ3 => if r4 = 0 then (Md_readKind_48 F (Md_readKind_11 F m) σ3 x) else (bv (Md_addPart F σ3 (gi σ3 49)) (fun σ7 => bv (Md_next F σ7) (fun σ9 => Md_readKind_11 F m σ9 (0 : Int32))))) := by
  show Md_readKind_b11 F (Md_readKind_11 F m) τ x = _
  rw [Md_readKind_b11, if_pos h8]
theorem rk_end (m : Nat) (x : Int32) (h8 : gi τ 8 ≠ 0) : Md_readKind_11 F (m + 1) τ x = some (gi τ 49, τ) := by
  show Md_readKind_b11 F (Md_readKind_11 F m) τ x = _
  rw [Md_readKind_b11, if_neg h8]
theorem apR_of {τ τ' τ'' : zS} {L z R R' : Nat} (h : apR τ τ' L z R R') (g : ∀ j, ga τ'' j = ga τ' j) : apR τ τ'' L z R R' := by
  unfold apR at h ⊢
  simp only [g]
  exact h
/-- the star -/
theorem part_star (hT : tEnd B n c) (hF : 1300 ≤ F) (hJ : kJ B n c X σ τ k M s S R L) (hL : L ≤ 8) (hv : lvK τ L R) (hs : tkS B n k = 42) (rK : zS → Int32 → Option (Int32 × zS)) : PartK F B n c X M s σ τ k S R L (Pa_parsePart_m F rK σ (nI L)) := by
  have hB := hT.1
  have hc := tE_c hT
  obtain ⟨hC, hS, hS1, hK, hne, hb, hR1, hRS⟩ := hJ
  have hn := hB.1
  have htp := tkP_le B n k
  obtain ⟨f8, f3, f5, f4⟩ := k_flt hK hne
  have hk := tEnd_s hT hC.2.1 (show tkS B n k ≠ 1 by rw [hs]; decide)
  obtain ⟨e1, C1, fr1⟩ := c_step (F := F) hT hC (show tkS B n k ≠ 1 by rw [hs]; decide)
  have hcl : Pa_parsePart_m F rK σ (nI L) = some (0, si σ 106 (nI (k + 1))) := by
    rw [Pa_parsePart_m, c_sort hT hC, bi_some, if_pos hs, e1, bv_some]
  have frc : frKC S (-1) σ (si σ 106 (nI (k + 1))) := ⟨fun j j1 _ _ _ => by simp [zs, j1], fun j i _ _ => by simp [zs], fun j => by simp [zs], fun j => by simp [zs], fun j => by simp [zs], fun j => by simp [zs], fun j => by simp [zs], fun j => by simp [zs]⟩
  obtain ⟨k1, k2, k3, k48, k42, k18, k49⟩ := hK
  obtain ⟨τ1, R', a1, a2, a3, a3', a4, a5, a6, a7⟩ := k_addP (F := F) k48 k42 (by omega) (by omega) hv 0
  have g1 : ga τ1 1 = B := by
    have := a7.2.1
    rw [← k1]
    funext i
    exact this 1 i (by unfold okK; omega)
  obtain ⟨τ2, n1, n2, n3⟩ := m_next (F := F) (k := k) hB hF g1 (by rw [a5 2 (by decide), k2]) (by rw [a5 8 (by decide), f8]) (by rw [a5 3 (by decide), f3])
  have fr2 := frK_N L R (ga τ 32 L) (show gi τ1 8 = 0 by rw [a5 8 (by decide), f8]) n2
  have frt : frK L R (ga τ 32 L) τ τ2 := frK_tr a7 fr2 (Nat.le_refl _) (Nat.le_refl _) (fun _ _ z => z)
  have hsg := (k_sign (F := F) hB k3 hne (y := 42) (by omega) (by omega)).1 hs
  have e42 : sgM (nI 42) = 42 := by decide
  rw [e42] at hsg
  have hstep : ∀ m, Md_readKind_11 F (m + 1) τ 1 = Md_readKind_11 F m τ2 0 := by
    intro m
    rw [rk_it m 1 f8, if_neg (by decide), hsg, bi_some, if_neg (by decide), k49, show (0 : Int32) = nI 0 from rfl, a1, bv_some, n1, bv_some]
  have nx := (tk_next hk.2).2
  obtain ⟨fa1, fa2, fa3, fa4, _⟩ := n2
  have h48' : gi τ2 48 = nI R' := by rw [fa1 48 (by decide) (by decide) (by decide) (by decide) (by decide) (by decide), a4]
  refine ⟨0, _, hcl, frc, ?_⟩
  by_cases hbad : tkS B n (k + 1) = 0
  · left
    have hcu := n3.2.2.1 hbad
    refine ⟨⟨S, by omega, by simp [zs, hS]⟩, 1, tkP B n (k + 1), τ2, by decide, Or.inr ⟨⟨0, by omega, rfl⟩, rfl, k + 1, C1, hbad, rfl⟩, frt, hcu.1, hcu.2, ⟨R', by omega, h48'⟩, fun m => ?_⟩
    rw [show m + (c + 2 - k) = (m + (c - k) + 1) + 1 by omega, hstep, rk_end _ _ (by rw [hcu.1]; decide)]
    have : gi τ2 49 = 0 := by rw [frt.1 49 (by unfold exK; omega), k49]
    rw [this]
  · right
    refine ⟨k + 1, S, R, R', .var 0, 0, 0, τ2, rfl, by omega, by omega, by omega, C1, by simp [zs, hS], Nat.le_refl _, ⟨by rw [fa2, g1], ?_, n3, h48', ?_, ?_, ?_⟩, hbad, by omega, rfl, rfl, Nat.le_refl _, Nat.le_refl _, apR_of a2 fa2, frt, fun m => by rw [show m + (k + 1 - k) = m + 1 by omega, hstep]⟩
    · rw [fa1 2 (by decide) (by decide) (by decide) (by decide) (by decide) (by decide), a5 2 (by decide), k2]
    · rw [fa1 42 (by decide) (by decide) (by decide) (by decide) (by decide) (by decide), a5 42 (by decide), k42]
    · rw [fa1 18 (by decide) (by decide) (by decide) (by decide) (by decide) (by decide), a5 18 (by decide), k18]
    · rw [fa1 49 (by decide) (by decide) (by decide) (by decide) (by decide) (by decide), a5 49 (by decide), k49]
/-- a token that begins no part -/
theorem part_none (hT : tEnd B n c) (hC : cS B n c X σ k M s) (h1 : tkS B n k ≠ 42) (h2 : tkS B n k ≠ 40) (rK : zS → Int32 → Option (Int32 × zS)) (x : Int32) : ∃ σ', Pa_parsePart_m F rK σ x = some (-1, σ') ∧ gi σ' 200 = 1 ∧ gi σ' 201 = nI (tkP B n k) ∧ gi σ' 306 = gi σ 306 ∧ (∀ S, frKC S (-1) σ σ') := by
  refine ⟨si (si σ 200 1) 201 (nI (tkP B n k)), ?_, by simp [zs], by simp [zs], by simp [zs], fun S => ⟨fun j _ _ j1 j2 => by simp [zs, j1, j2], fun j i _ _ => by simp [zs], fun j => by simp [zs], fun j => by simp [zs], fun j => by simp [zs], fun j => by simp [zs], fun j => by simp [zs], fun j => by simp [zs]⟩⟩
  rw [Pa_parsePart_m, c_sort hT hC, bi_some, if_neg h1, c_sort hT hC, bi_some, if_neg h2, Pa_misfit, c_start hT hC, bi_some, Fa_raise, bv_some, bi_some, Pa_parsePart_58, if_pos rfl]
theorem k_cannot (hB : byt B n) (hK : mK B n τ k R L) (hne : tkS B n k ≠ 0) (h1 : tkS B n k ≠ 42) (h2 : tkS B n k ≠ 40) : (∀ m, Md_readKind_11 F (m + 2) τ 1 = some (0, si (si τ 8 1) 9 (nI (tkP B n k)))) ∧ ∀ Lv R q, frK Lv R q τ (si (si τ 8 1) 9 (nI (tkP B n k))) := by
  obtain ⟨f8, f3, f5, f4⟩ := k_flt hK hne
  have s42 := (k_sign (F := F) hB hK.2.2.1 hne (y := 42) (by omega) (by omega)).2 h1
  have s40 := (k_sign (F := F) hB hK.2.2.1 hne (y := 40) (by omega) (by omega)).2 h2
  have e42 : sgM (nI 42) = 42 := by decide
  have e40 : sgM (nI 40) = 40 := by decide
  rw [e42] at s42
  rw [e40] at s40
  have hw : Md_wrong F τ 1 (nI (tkP B n k)) = some (si (si τ 8 1) 9 (nI (tkP B n k))) := by
    rw [Md_wrong, if_pos f8, Md_wrong_17]
  constructor
  · intro m
    rw [show m + 2 = (m + 1) + 1 by omega, rk_it _ 1 f8, if_neg (by decide), s42, bi_some, if_pos rfl, Md_readKind_48, if_neg (by decide), s40, bi_some, if_pos rfl, Md_readKind_76, if_neg (by decide), Md_cannot, f5, hw, bv_some, bv_some, rk_end _ _ (by simp [zs])]
    have : gi (si (si τ 8 1) 9 (nI (tkP B n k))) 49 = 0 := by simp [zs, hK.2.2.2.2.2.2]
    rw [this]
  · intro Lv R q
    refine ⟨fun j hj => ?_, fun j i _ => by simp [zs], fun j _ => by simp [zs], fun j => by simp [zs], fun z => absurd f8 z, fun z => ?_⟩
    · unfold exK at hj
      have j1 : j ≠ 8 := by omega
      have j2 : j ≠ 9 := by omega
      simp [zs, j1, j2]
    · simp [zs] at z
end PK
