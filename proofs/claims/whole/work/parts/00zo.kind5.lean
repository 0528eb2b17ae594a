/-! parseKind() and readKind() as a whole. Own text. -/
section PK
variable {F : Nat} {B : Nat → Int32} {n c X M s : Nat}
theorem kd_bad (hT : tEnd B n c) (hF : 1300 ≤ F) (d : Nat) (x : Int32) (σ : zS) (k : Nat) (hC : cS B n c X σ k M s) (h1 : tkS B n k ≠ 42) (h2 : tkS B n k ≠ 40) : ∃ σ', Pa_parseKind F (d + 1) σ x = some (-1, σ') ∧ gi σ' 200 = 1 ∧ gi σ' 201 = nI (tkP B n k) ∧ gi σ' 306 = gi σ 306 ∧ ∀ S, frKC S (-1) σ σ' := by
  obtain ⟨σ', t1, t2⟩ := part_none (F := F) hT hC h1 h2 (Pa_parseKind F d) x
  refine ⟨σ', ?_, t2⟩
  obtain ⟨m, rfl⟩ : ∃ m', F = m' + 1 := ⟨F - 1, by omega⟩
  show Pa_parseKind_b7 (m + 1) _ (Pa_parseKind_7 (m + 1) _ m) σ x (-1) (-1) 0 = _
  rw [Pa_parseKind_b7, if_neg (by decide), t1, bi_some, if_neg (by decide)]
theorem kd_all (hT : tEnd B n c) (hF : 1300 ≤ F) : ∀ (d L : Nat), L ≤ 8 → 9 ≤ d + L → ∀ σ τ k S R, kJ B n c X σ τ k M s S R L → ga τ 31 L = -1 → ga τ 32 L = -1 → KindR F B n c X M s σ τ k S R L (Pa_parseKind F d σ (nI L)) := by
  have hB := hT.1
  have hc := tE_c hT
  intro d
  induction d with
  | zero => intro L hL hd; omega
  | succ d ih =>
    intro L hL hd σ τ k S R hJ v31 v32
    have hP : ∀ σ τ k S R, kJ B n c X σ τ k M s S R L → lvK τ L R → PartK F B n c X M s σ τ k S R L (Pa_parsePart_m F (Pa_parseKind F d) σ (nI L)) := by
      intro σ τ k S R hJ hv
      by_cases h1 : tkS B n k = 42
      · exact part_star hT hF hJ hL hv h1 _
      · by_cases h2 : tkS B n k = 40
        · refine part_brk hT hF hJ hL hv h2 _ (fun qL σ τ k S R hJ w31 w32 => ih (L + 1) (by omega) (by omega) σ τ k S R hJ w31 w32) (fun qL σ k hC hs0 => ?_)
          obtain ⟨d', rfl⟩ : ∃ d', d = d' + 1 := ⟨d - 1, by omega⟩
          exact kd_bad hT hF d' _ σ k hC (by rw [hs0]; decide) (by rw [hs0]; decide)
        · obtain ⟨hC, hS, hS1, hK, hne, hb, hR1, hRS⟩ := hJ
          have htp := tkP_le B n k
          have hn := hB.1
          obtain ⟨σ', t1, t2, t3, t5, t4⟩ := part_none (F := F) hT hC h1 h2 (Pa_parseKind F d) (nI L)
          obtain ⟨c1, c2⟩ := k_cannot (F := F) hB hK hne h1 h2
          have hkc := hC.2.1
          refine ⟨-1, σ', t1, t4 S, Or.inl ⟨⟨S, by omega, by rw [t5, hS]⟩, 1, tkP B n k, _, by decide, Or.inl ⟨rfl, t2, t3⟩, c2 L R (ga τ 32 L), by simp [zs], by simp [zs], ⟨R, by omega, by simp [zs, hK.2.2.2.1]⟩, fun m => ?_⟩⟩
          rw [show m + (c + 2 - k) = (m + (c - k)) + 2 by omega, c1]
    have hP0 : ∀ σ k, cS B n c X σ k M s → tkS B n k = 0 → ∃ σ', Pa_parsePart_m F (Pa_parseKind F d) σ (nI L) = some (-1, σ') ∧ gi σ' 200 = 1 ∧ gi σ' 201 = nI (tkP B n k) ∧ gi σ' 306 = gi σ 306 ∧ ∀ S, frKC S (-1) σ σ' := fun σ k hC hs0 => part_none hT hC (by rw [hs0]; decide) (by rw [hs0]; decide) _ _
    have hRS := hJ.2.2.2.2.2.2.1
    obtain ⟨r, σ', q1, q2, q3⟩ := kd_loop hT hF hL hP hP0 (c - k) F k S R R 0 σ τ (-1) (-1) (-1) (-1) (.var 0) rfl (by omega) hJ hRS (Nat.le_refl _) v31 v32 (Or.inl ⟨rfl, rfl⟩) (Or.inl ⟨rfl, rfl, rfl⟩) (by omega)
    refine ⟨r, σ', q1, q2, ?_⟩
    rcases q3 with u | ⟨k', S', R', T, x, z, τ', b1, b2, b3, b4, b5, b6, b7, b8, b9, b10, b11, b12, b13, b14, b15, b16, b17, b18⟩
    · exact Or.inl u
    · right
      rw [if_pos rfl] at b1 b15
      rcases b17 with ⟨_, g1, g2⟩ | ⟨g1, _⟩ | ⟨q0, g1, _⟩
      · exact ⟨k', S', R', T, x, z, τ', b1, b2, b4, b5, b6, b7, b8, b9, b10, b11, b12, b13, g2, b14, b15, g1, b16, b18⟩
      · exact absurd rfl g1
      · exact absurd rfl g1
theorem rd_kind (hT : tEnd B n c) (hF : 1300 ≤ F) {σ τ : zS} {k S R : Nat} (hC : cS B n c X σ k M s) (hS : gi σ 306 = nI S) (h1 : ga τ 1 = B) (h2 : gi τ 2 = nI n) (hcu : curT B n k τ) (h48 : gi τ 48 = nI R) (h18 : gi τ 18 = 0) (h49 : gi τ 49 = 0) (hne : tkS B n k ≠ 0) (hb : 3 * S ≤ tkP B n k + 3) (hR1 : 1 ≤ R) (hRS : R ≤ S) : ∃ r σ', Pa_parseKind F 12 σ 0 = some (r, σ') ∧ frKC S (-1) σ σ' ∧ (((∃ S', S' ≤ 500 ∧ gi σ' 306 = nI S') ∧ ∃ f p τ', (f = 1 ∨ f = 2) ∧ dmK B n c X M s r σ' f p ∧ frK 0 R (-1) τ τ' ∧ gi τ' 8 = f ∧ gi τ' 9 = nI p ∧ (∃ R', R' ≤ 500 ∧ gi τ' 48 = nI R') ∧ Md_readKind F τ = some (0, τ')) ∨ (∃ k' S' R' T x z τ', r = nI x ∧ x < 2000 ∧ k < k' ∧ k' ≤ c ∧ cS B n c X σ' k' M s ∧ gi σ' 306 = nI S' ∧ S ≤ S' ∧ curT B n k' τ' ∧ gi τ' 18 = 0 ∧ gi τ' 48 = nI R' ∧ tkS B n k' ≠ 0 ∧ 3 * S' ≤ tkP B n k' + 3 ∧ kdC σ' S S' T x ∧ kdM τ' R R' T z ∧ R ≤ R' ∧ R' ≤ S' ∧ frK 0 R (-1) τ τ' ∧ Md_readKind F τ = some (nI z, τ'))) := by
  have hB := hT.1
  have hc := tE_c hT
  have hkc := hC.2.1
  have e42 : gi (si τ 42 (-1)) 42 + 1 = nI 0 := by simp [zs]; decide
  obtain ⟨τ1, e1⟩ : ∃ τ1, τ1 = sa (sa (si (si τ 42 (-1)) 42 (nI 0)) 31 0 (-1)) 32 0 (-1) := ⟨_, rfl⟩
  have hop : Md_openKind F (si τ 42 (-1)) = some τ1 := by
    rw [Md_openKind, e42, gd_t (inb_nI (by omega) (by omega)), nI_clamp (by omega), e1]
  have fr : frK 0 R (-1) τ τ1 := by
    rw [e1]
    refine ⟨fun j hj => ?_, fun j i hji => ?_, fun j _ => by simp [zs], fun j => by simp [zs], fun _ => ⟨by simp [zs], by simp [zs]⟩, fun _ => by simp [zs]⟩
    · unfold exK at hj
      have j1 : j ≠ 42 := by omega
      simp [zs, j1]
    · unfold okK at hji
      simp only [at_sa, at_si]
      rw [if_neg (by omega), if_neg (by omega)]
  have mK1 : mK B n τ1 k R 0 := by
    rw [e1]
    exact ⟨by simp [zs, h1], by simp [zs, h2], curT_of hcu (by simp [zs]) (by simp [zs]) (by simp [zs]) (by simp [zs]) (by simp [zs]) (by simp [zs]) (by simp [zs]), by simp [zs, h48], by simp [zs], by simp [zs, h18]; rfl, by simp [zs, h49]⟩
  have v31 : ga τ1 31 0 = -1 := by rw [e1]; simp [at_sa]
  have v32 : ga τ1 32 0 = -1 := by rw [e1]; simp [at_sa]
  have hS1 : 1 ≤ S := by omega
  obtain ⟨r, σ', q1, q2, q3⟩ := kd_all hT hF 12 0 (by omega) (by omega) σ τ1 k S R ⟨hC, hS, hS1, mK1, hne, hb, hR1, hRS⟩ v31 v32
  have hrd : Md_readKind F τ = Md_readKind_11 F F τ1 1 := by
    rw [Md_readKind, hop, bv_some]
  refine ⟨r, σ', q1, q2, ?_⟩
  rcases q3 with ⟨u0, f, p, τ', u1, u2, u3, u4, u5, u6, u7⟩ | ⟨k', S', R', T, x, z, τ', b1, b2, b3, b4, b5, b6, b7, b8, b9, b10, b11, b12, b13, b14, b15, b16, b17, b18⟩
  · left
    refine ⟨u0, f, p, τ', u1, u2, frK_tr fr u3 (Nat.le_refl _) (Nat.le_refl _) (fun _ _ z => z), u4, u5, u6, ?_⟩
    have := u7 (F - (c + 2 - k))
    rw [show F - (c + 2 - k) + (c + 2 - k) = F by omega] at this
    rw [hrd, this]
  · right
    refine ⟨k', S', R', T, x, z, τ', b1, b2, b3, b4, b5, b6, b7, b8.2.2.1, b8.2.2.2.2.2.1, b8.2.2.2.1, b9, by omega, b12, b13, b14, by omega, frK_tr fr b17 (Nat.le_refl _) (Nat.le_refl _) (fun _ _ z => z), ?_⟩
    have := b18 (F - ((k' - k) + 1) + 1)
    rw [show F - ((k' - k) + 1) + 1 + (k' - k) = F by omega] at this
    obtain ⟨g8, g3, g5, g4⟩ := k_flt b8 b9
    have s45 := (k_sign (F := F) hB b8.2.2.1 b9 (y := 45) (by omega) (by omega)).2 b10
    rw [show sgM (nI 45) = 1000 by decide] at s45
    have g42 : gi τ' 42 = 0 := b8.2.2.2.2.1
    have c0 : (0 : Int32).toNatClampNeg = 0 := by decide
    rw [hrd, this, rk_it _ 0 g8, if_pos rfl, Md_readKind_48, if_pos rfl, Md_readKind_76, if_pos rfl, s45, bi_some, if_pos rfl, if_pos g42, gd_t (by decide), c0, b16]
end PK
