/-! Kinds that are told: brackets, the loop over parts. Own text. -/
section PK
variable {F : Nat} {B : Nat → Int32} {n c X : Nat} {σ τ : zS} {k M s S R L : Nat}
def KindR (F : Nat) (B : Nat → Int32) (n c X M s : Nat) (σ τ : zS) (k S R L : Nat) (o : Option (Int32 × zS)) : Prop :=
  ∃ r σ', o = some (r, σ') ∧ frKC S (-1) σ σ' ∧ (badK F B n c X M s τ k L R (-1) 1 r σ' ∨
    (∃ k' S' R' T x z τ', r = nI x ∧ x < 2000 ∧ k < k' ∧ k' ≤ c ∧ cS B n c X σ' k' M s ∧ gi σ' 306 = nI S' ∧ S ≤ S' ∧ mK B n τ' k' R' L ∧ tkS B n k' ≠ 0 ∧ tkS B n k' ≠ 45 ∧ 3 * S' + 1 ≤ tkP B n k' + 3 ∧ kdC σ' S S' T x ∧ kdM τ' R R' T z ∧ R ≤ R' ∧ R' + S ≤ R + S' ∧ ga τ' 31 L = nI z ∧ frK L R (-1) τ τ' ∧ ∀ m, Md_readKind_11 F (m + (k' - k)) τ 1 = Md_readKind_11 F m τ' 0))
theorem frKC_106 (S : Nat) (la : Int32) (σ : zS) (v : Int32) : frKC S la σ (si σ 106 v) := ⟨fun j j1 _ _ _ => by simp [zs, j1], fun j i _ _ => by simp [zs], fun j => by simp [zs], fun j => by simp [zs], fun j => by simp [zs], fun j => by simp [zs], fun j => by simp [zs], fun j => by simp [zs]⟩
theorem frKC_flt (S : Nat) (la : Int32) (σ : zS) (v w : Int32) : frKC S la σ (si (si σ 200 v) 201 w) := ⟨fun j _ _ j1 j2 => by simp [zs, j1, j2], fun j i _ _ => by simp [zs], fun j => by simp [zs], fun j => by simp [zs], fun j => by simp [zs], fun j => by simp [zs], fun j => by simp [zs], fun j => by simp [zs]⟩
theorem nI_m1 (i : Nat) (hi : i < 2 ^ 31) : nI i ≠ -1 := by
  intro z
  have := nI_pos (n := i) hi
  rw [z] at this
  exact absurd (by decide) this
theorem frKC_w {S : Nat} {la : Int32} {σ σ' : zS} (h : frKC S (-1) σ σ') (hS : S < 2 ^ 31) : frKC S la σ σ' := by
  obtain ⟨a1, a2, a3⟩ := h
  exact ⟨a1, fun j i g1 g2 => a2 j i g1 (fun z => ⟨(g2 z).1, nI_m1 i (by have := (g2 z).1; omega)⟩), a3⟩
theorem frK_w {Lv R : Nat} {q : Int32} {τ τ' : zS} (h : frK Lv R (-1) τ τ') (hR : R < 2 ^ 31) : frK Lv R q τ τ' := by
  obtain ⟨a1, a2, a3⟩ := h
  exact ⟨a1, fun j i g => a2 j i ⟨g.1, fun z => ⟨(g.2.1 z).1, nI_m1 i (by have := (g.2.1 z).1; omega)⟩, g.2.2⟩, a3⟩
theorem part_brk (hT : tEnd B n c) (hF : 1300 ≤ F) (hJ : kJ B n c X σ τ k M s S R L) (hL : L ≤ 8) (hv : lvK τ L R) (hs : tkS B n k = 40) (rK : zS → Int32 → Option (Int32 × zS))
    (hKd : L < 8 → ∀ σ τ k S R, kJ B n c X σ τ k M s S R (L + 1) → ga τ 31 (L + 1) = -1 → ga τ 32 (L + 1) = -1 → KindR F B n c X M s σ τ k S R (L + 1) (rK σ (nI (L + 1))))
    (hBad : L < 8 → ∀ σ k, cS B n c X σ k M s → tkS B n k = 0 → ∃ σ', rK σ (nI (L + 1)) = some (-1, σ') ∧ gi σ' 200 = 1 ∧ gi σ' 201 = nI (tkP B n k) ∧ gi σ' 306 = gi σ 306 ∧ ∀ S, frKC S (-1) σ σ') : PartK F B n c X M s σ τ k S R L (Pa_parsePart_m F rK σ (nI L)) := by
  have hB := hT.1
  have hc := tE_c hT
  have hn := hB.1
  have htp := tkP_le B n k
  obtain ⟨hC, hS, hS1, hK, hne, hb, hR1, hRS⟩ := hJ
  obtain ⟨f8, f3, f5, f4⟩ := k_flt hK hne
  have hk := tEnd_s hT hC.2.1 (show tkS B n k ≠ 1 by rw [hs]; decide)
  have s42 := (k_sign (F := F) hB hK.2.2.1 hne (y := 42) (by omega) (by omega)).2 (by rw [hs]; decide)
  have s40 := (k_sign (F := F) hB hK.2.2.1 hne (y := 40) (by omega) (by omega)).1 hs
  rw [show sgM (nI 42) = 42 by decide] at s42
  rw [show sgM (nI 40) = 40 by decide] at s40
  obtain ⟨k1, k2, k3, k48, k42, k18, k49⟩ := hK
  have hopK : ∀ (τ2 : zS), gi τ2 42 = nI L → Md_openKind F τ2 = some (sa (sa (si τ2 42 (nI (L + 1))) 31 (L + 1) (-1)) 32 (L + 1) (-1)) := by
    intro τ2 q
    rw [Md_openKind, q, nI_1, gd_t (inb_nI (by omega) (by omega)), nI_clamp (by omega)]
  have hit : ∀ m, Md_readKind_11 F (m + 1) τ 1 = bv (Md_deeper F τ) (fun σ6 => bv (Md_next F σ6) (fun σ8 => bv (Md_openKind F σ8) (fun σ10 => Md_readKind_11 F m σ10 1))) := by
    intro m
    rw [rk_it m 1 f8, if_neg (by decide), s42, bi_some, if_pos rfl, Md_readKind_48, if_neg (by decide), s40, bi_some, if_neg (by decide)]
  have frop : ∀ τ2 : zS, frK (L + 1) R (-1) τ2 (sa (sa (si τ2 42 (nI (L + 1))) 31 (L + 1) (-1)) 32 (L + 1) (-1)) := by
    intro τ2
    refine ⟨fun j hj => ?_, fun j i hji => ?_, fun j _ => by simp [zs], fun j => by simp [zs], fun _ => ⟨by simp [zs], by simp [zs]⟩, fun _ => by simp [zs]⟩
    · unfold exK at hj
      have j1 : j ≠ 42 := by omega
      simp [zs, j1]
    · unfold okK at hji
      simp only [at_sa, at_si]
      rw [if_neg (by omega), if_neg (by omega)]
  have fr18 : ∀ v, frK (L + 1) R (-1) τ (si τ 18 v) := by
    intro v
    refine ⟨fun j hj => ?_, fun j i _ => by simp [zs], fun j _ => by simp [zs], fun j => by simp [zs], fun z => absurd f8 z, fun _ => by simp [zs]⟩
    unfold exK at hj
    have j1 : j ≠ 18 := by omega
    simp [zs, j1]
  rcases Nat.lt_or_ge L 8 with qL | qL
  · -- room to go deeper
    have hd : Md_deeper F τ = some (si τ 18 (nI (L + 1))) := by
      rw [Md_deeper, k18, nI_1, if_pos (show nI (L + 1) ≤ (8 : Int32) from nI_le (b := 8) (by omega) (by omega)), Md_deeper_28]
    obtain ⟨τ1, n1, n2, n3⟩ := m_next (F := F) (k := k) (τ := si τ 18 (nI (L + 1))) hB hF (by simp [zs, k1]) (by simp [zs, k2]) (by simp [zs, f8]) (by simp [zs, f3])
    have n42 : gi τ1 42 = nI L := by rw [n2.1 42 (by decide) (by decide) (by decide) (by decide) (by decide) (by decide)]; simp [zs, k42]
    obtain ⟨τ2, e2⟩ : ∃ τ2, τ2 = sa (sa (si τ1 42 (nI (L + 1))) 31 (L + 1) (-1)) 32 (L + 1) (-1) := ⟨_, rfl⟩
    have hit2 : ∀ m, Md_readKind_11 F (m + 1) τ 1 = Md_readKind_11 F m τ2 1 := by
      intro m
      rw [hit m, hd, bv_some, n1, bv_some, hopK τ1 n42, bv_some, e2]
    have fr02 : frK (L + 1) R (-1) τ τ2 := by
      rw [e2]
      exact frK_tr (frK_tr (fr18 _) (frK_N (L + 1) R (-1) (by simp [zs, f8]) n2) (Nat.le_refl _) (Nat.le_refl _) (fun _ _ z => z)) (frop τ1) (Nat.le_refl _) (Nat.le_refl _) (fun _ _ z => z)
    have cu2 : curT B n (k + 1) τ2 := by rw [e2]; exact curT_of n3 (by simp [zs]) (by simp [zs]) (by simp [zs]) (by simp [zs]) (by simp [zs]) (by simp [zs]) (by simp [zs])
    have mK2 : mK B n τ2 (k + 1) R (L + 1) := by
      refine ⟨?_, ?_, cu2, ?_, ?_, ?_, ?_⟩
      · rw [e2]; simp only [zs]; rw [if_neg (by decide), if_neg (by decide), n2.2.1 1]; simp [zs, k1]
      · rw [fr02.1 2 (by unfold exK; omega), k2]
      · rw [e2]; simp only [zs]; rw [if_neg (by decide), n2.1 48 (by decide) (by decide) (by decide) (by decide) (by decide) (by decide)]; simp [zs, k48]
      · rw [e2]; simp [zs]
      · rw [e2]; simp only [zs]; rw [if_neg (by decide), n2.1 18 (by decide) (by decide) (by decide) (by decide) (by decide) (by decide)]; simp [zs]
      · rw [fr02.1 49 (by unfold exK; omega), k49]
    have l31 : ga τ2 31 (L + 1) = -1 := by rw [e2]; simp [at_sa]
    have l32 : ga τ2 32 (L + 1) = -1 := by rw [e2]; simp [at_sa]
    obtain ⟨e1, C1, _⟩ := c_step (F := F) hT hC (show tkS B n k ≠ 1 by rw [hs]; decide)
    have hcl : Pa_parsePart_m F rK σ (nI L) = bi (rK (si σ 106 (nI (k + 1))) (nI (L + 1))) (fun r5 σ4 => if r5 < 0 then (Pa_parsePart_97 F rK σ4) else (bi (Pa_expect F σ4 (41 : Int32)) (fun r9 σ8 => if r9 = 0 then (Pa_parsePart_97 F rK σ8) else (Pa_parsePart_98 F rK σ8 r5)))) := by
      rw [Pa_parsePart_m, c_sort hT hC, bi_some, if_neg (by rw [hs]; decide), c_sort hT hC, bi_some, if_pos hs, if_pos (show nI L < (8 : Int32) from nI_lt (b := 8) qL (by omega)), Pa_parsePart_46, Pa_parsePart_58, if_neg (by decide), e1, bv_some, nI_1]
    have nx := (tk_next hk.2).2
    have frq : ∀ τ', frK (L + 1) R (-1) τ τ' → frK L R (ga τ 32 L) τ τ' := fun τ' hf => frK_w (frK_tr (frK_rfl L R (-1) τ) hf (Nat.le_succ _) (Nat.le_refl _) (fun _ _ z => z)) (by omega)
    by_cases hb1 : tkS B n (k + 1) = 0
    · obtain ⟨σ', t1, t2, t3, t5, t4⟩ := hBad qL _ _ C1 hb1
      have hcu := cu2.2.2.1 hb1
      refine ⟨-1, σ', ?_, frKC_tr (frKC_106 S (-1) σ _) (t4 S) (Nat.le_refl _) (fun _ _ z => z), Or.inl ⟨⟨S, by omega, ?_⟩, 1, tkP B n (k + 1), τ2, by decide, Or.inl ⟨rfl, t2, t3⟩, frq _ fr02, hcu.1, hcu.2, ⟨R, by omega, mK2.2.2.2.1⟩, fun m => ?_⟩⟩
      · rw [hcl, t1, bi_some, if_pos (by decide)]; rfl
      · rw [t5]; simp [zs, hS]
      · rw [show m + (c + 2 - k) = (m + (c - k) + 1) + 1 by omega, hit2, rk_end _ _ (by rw [hcu.1]; decide), mK2.2.2.2.2.2.2]
    · have hJ2 : kJ B n c X (si σ 106 (nI (k + 1))) τ2 (k + 1) M s S R (L + 1) := ⟨C1, by simp [zs, hS], hS1, mK2, hb1, by omega, hR1, hRS⟩
      obtain ⟨r, σ3, e3, fr3, res⟩ := hKd qL _ _ _ _ _ hJ2 l31 l32
      have fr13 : frKC S (-1) σ σ3 := frKC_tr (frKC_106 S (-1) σ _) fr3 (Nat.le_refl _) (fun _ _ z => z)
      rcases res with ⟨⟨S', hS', h306⟩, f, p, τ', hf, hdm, hfr, h8, h9, hR', hro⟩ | ⟨k', S', R', T, x, z, τ', u1, u2, u3, u4, u5, u6, u7, u8, u9, u10, u11, u12, u13, u14, u15, u16, u17, u18⟩
      · have hrofin : ∀ m, Md_readKind_11 F (m + (c + 2 - k)) τ 1 = some (0, τ') := by
          intro m
          rw [show m + (c + 2 - k) = (m + (c + 2 - (k + 1))) + 1 by omega, hit2, hro]
        have frr : frK L R (ga τ 32 L) τ τ' := frq _ (frK_tr fr02 hfr (Nat.le_refl _) (Nat.le_refl _) (fun _ _ z => z))
        rcases hdm with ⟨d1, d2, d3⟩ | ⟨⟨x, hx, d1⟩, d2, kb, dC, dS, dp⟩
        · refine ⟨-1, σ3, ?_, fr13, Or.inl ⟨⟨S', hS', h306⟩, f, p, τ', hf, Or.inl ⟨rfl, d2, d3⟩, frr, h8, h9, hR', hrofin⟩⟩
          rw [hcl, e3, bi_some, d1, if_pos (by decide)]; rfl
        · subst d2
          obtain ⟨σ4, t1, t2, t3, t4⟩ := c_expect0 (F := F) hT dC (x := 41) (by rw [dS]; decide)
          have hex : Pa_expect F σ3 41 = some (0, si (si σ3 200 1) 201 (nI (tkP B n kb))) := by
            rw [Pa_expect, c_sort hT dC, bi_some, if_neg (by rw [dS]; decide), c_start hT dC, bi_some, Fa_raise, bv_some]
          refine ⟨-1, si (si σ3 200 1) 201 (nI (tkP B n kb)), ?_, frKC_tr fr13 (frKC_flt S (-1) σ3 _ _) (Nat.le_refl _) (fun _ _ z => z), Or.inl ⟨⟨S', hS', by simp [zs, h306]⟩, 1, p, τ', hf, Or.inl ⟨rfl, by simp [zs], by rw [dp]; simp [zs]⟩, frr, h8, h9, hR', hrofin⟩⟩
          rw [hcl, e3, bi_some, d1, if_neg (nI_pos (by omega)), hex, bi_some, if_pos rfl]; rfl
      · -- the inner kind is read
        have hk' := u5.2.1
        obtain ⟨g8, g3, g5, g4⟩ := k_flt u8 u9
        have s45 := (k_sign (F := F) hB u8.2.2.1 u9 (y := 45) (by omega) (by omega)).2 u10
        rw [show sgM (nI 45) = 1000 by decide] at s45
        obtain ⟨j1, j2, j3, j48, j42, j18, j49⟩ := u8
        have n0 : ¬ gi τ' 42 = 0 := by rw [j42]; exact nI_ne0 (by omega) (by omega)
        have htp' := tkP_le B n k'
        have hitc : ∀ m, Md_readKind_11 F (m + 1) τ' 0 = bv (Md_want F τ' (41 : Int32)) (fun σ7 => gd (inb (((gi σ7 42) - (1 : Int32)) + (1 : Int32)) 12) (bv (Md_addPart F (si (si σ7 18 ((gi σ7 18) - (1 : Int32))) 42 ((gi σ7 42) - (1 : Int32))) (ga σ7 31 (((gi σ7 42) - (1 : Int32)) + (1 : Int32)).toNatClampNeg)) (fun σ10 => Md_readKind_11 F m σ10 0))) := by
          intro m
          rw [rk_it m 0 g8, if_pos rfl, Md_readKind_48, if_pos rfl, Md_readKind_76, if_pos rfl, s45, bi_some, if_pos rfl, if_neg n0]
        -- want(')')
        have hw : ∃ τ3, Md_want F τ' 41 = some τ3 ∧ (∀ j, ga τ3 j = ga τ' j) ∧ (∀ j, gb τ3 j = gb τ' j) ∧ frK (L + 1) R (-1) τ' τ3 ∧ (∀ j, j ≠ 3 → j ≠ 4 → j ≠ 5 → j ≠ 7 → j ≠ 8 → j ≠ 9 → gi τ3 j = gi τ' j) ∧ (tkS B n k' = 41 → curT B n (k' + 1) τ3) ∧ (tkS B n k' ≠ 41 → gi τ3 8 = 1 ∧ gi τ3 9 = nI (tkP B n k')) := by
          have s41 := k_sign (F := F) hB j3 u9 (y := 41) (by omega) (by omega)
          rw [show sgM (nI 41) = 41 by decide, show nI 41 = 41 from rfl] at s41
          by_cases q : tkS B n k' = 41
          · obtain ⟨τ3, w1, w2, w3⟩ := m_next (F := F) (k := k') hB hF j1 j2 g8 g3
            refine ⟨τ3, ?_, w2.2.1, w2.2.2.2.1, frK_N _ _ _ g8 w2, w2.1, fun _ => w3, fun z => absurd q z⟩
            rw [Md_want, s41.1 q, bi_some, if_neg (by decide), w1, bv_some, Md_want_19]
          · have hwr : Md_wrong F τ' 1 (nI (tkP B n k')) = some (si (si τ' 8 1) 9 (nI (tkP B n k'))) := by
              rw [Md_wrong, if_pos g8, Md_wrong_17]
            refine ⟨si (si τ' 8 1) 9 (nI (tkP B n k')), ?_, fun j => by simp [zs], fun j => by simp [zs], ⟨fun j hj => ?_, fun j i _ => by simp [zs], fun j _ => by simp [zs], fun j => by simp [zs], fun z => absurd g8 z, fun z => ?_⟩, fun j _ _ _ _ j5 j6 => by simp [zs, j5, j6], fun z => absurd z q, fun _ => ⟨by simp [zs], by simp [zs]⟩⟩
            · rw [Md_want, s41.2 q, bi_some, if_pos rfl, Md_cannot, g5, hwr, bv_some, bv_some, Md_want_19]
            · unfold exK at hj
              have q1 : j ≠ 8 := by omega
              have q2 : j ≠ 9 := by omega
              simp [zs, q1, q2]
            · simp [zs] at z
        obtain ⟨τ3, w1, w2, w2', w3, w4, w5, w6⟩ := hw
        have e42 : gi τ3 42 = nI (L + 1) := by rw [w4 42 (by decide) (by decide) (by decide) (by decide) (by decide) (by decide), j42]
        have e18 : gi τ3 18 = nI (L + 1) := by rw [w4 18 (by decide) (by decide) (by decide) (by decide) (by decide) (by decide), j18]
        obtain ⟨τ4, e4⟩ : ∃ τ4, τ4 = si (si τ3 18 (nI L)) 42 (nI L) := ⟨_, rfl⟩
        have fr04 : frK (L + 1) R (-1) τ τ4 := by
          have f1 := frK_tr (frK_tr fr02 (frK_tr (frK_rfl (L + 1) R (-1) τ2) u17 (Nat.le_refl _) (Nat.le_refl _) (fun _ _ z => z)) (Nat.le_refl _) (Nat.le_refl _) (fun _ _ z => z)) w3 (Nat.le_refl _) (Nat.le_refl _) (fun _ _ z => z)
          refine frK_tr f1 ?_ (Nat.le_refl _) (Nat.le_refl _) (fun _ _ z => z)
          rw [e4]
          refine ⟨fun j hj => ?_, fun j i _ => by simp [zs], fun j _ => by simp [zs], fun j => by simp [zs], fun _ => ⟨by simp [zs], by simp [zs]⟩, fun _ => by simp [zs]⟩
          unfold exK at hj
          have q1 : j ≠ 18 := by omega
          have q2 : j ≠ 42 := by omega
          simp [zs, q1, q2]
        have a48 : gi τ4 48 = nI R' := by rw [e4]; simp only [zs]; rw [if_neg (by decide), if_neg (by decide), w4 48 (by decide) (by decide) (by decide) (by decide) (by decide) (by decide), j48]
        have lv4 : lvK τ4 L R' := by
          have q31 := fr04.2.1 31 L (by unfold okK; omega)
          have q32 := fr04.2.1 32 L (by unfold okK; omega)
          unfold lvK at hv ⊢
          rw [q31, q32]
          rcases hv with q | q | ⟨w, q, g1, g2, g3⟩
          · exact Or.inl q
          · exact Or.inr (Or.inl q)
          · exact Or.inr (Or.inr ⟨w, q, g1, by omega, g3⟩)
        obtain ⟨τ5, R5, p1, p2, p3, p3', p4, p5, p6, p7⟩ := k_addP (F := F) a48 (by rw [e4]; simp [zs]) (by omega) (by omega) lv4 z
        have hitd : ∀ m, Md_readKind_11 F (m + 1) τ' 0 = Md_readKind_11 F m τ5 0 := by
          intro m
          rw [hitc m, w1, bv_some, e42, e18, nI_pred, nI_1, gd_t (inb_nI (by omega) (by omega)), nI_clamp (by omega), ← e4, w2 31, u16, p1, bv_some]
        have hfin : ∀ m, Md_readKind_11 F (m + (k' + 1 - k)) τ 1 = Md_readKind_11 F m τ5 0 := by
          intro m
          rw [show m + (k' + 1 - k) = (m + 1 + (k' - (k + 1))) + 1 by omega, hit2, u18, hitd]
        have q32 : ga τ4 32 L = ga τ 32 L := fr04.2.1 32 L (by unfold okK; omega)
        have fr05 : frK L R (ga τ 32 L) τ τ5 := by
          rw [q32] at p7
          exact frK_tr (frq _ fr04) p7 (Nat.le_refl _) u14 (fun _ _ z => z)
        have e49 : gi τ5 49 = 0 := by rw [fr05.1 49 (by unfold exK; omega), k49]
        by_cases q41 : tkS B n k' = 41
        · have hkk := tEnd_s hT hk' (show tkS B n k' ≠ 1 by rw [q41]; decide)
          have e6 := c_expect1 (F := F) hT u5 q41 (by decide)
          obtain ⟨_, C6, _⟩ := c_step (F := F) hT u5 (show tkS B n k' ≠ 1 by rw [q41]; decide)
          have hclf : Pa_parsePart_m F rK σ (nI L) = some (nI x, si σ3 106 (nI (k' + 1))) := by
            rw [hcl, e3, bi_some, u1, if_neg (nI_pos (by omega)), e6, bi_some, if_neg (by decide)]; rfl
          have cu5 : curT B n (k' + 1) τ5 := by
            have c3 := w5 q41
            have c4 : curT B n (k' + 1) τ4 := by rw [e4]; exact curT_of c3 (by simp [zs]) (by simp [zs]) (by simp [zs]) (by simp [zs]) (by simp [zs]) (by simp [zs]) (by simp [zs])
            exact curT_of c4 (p5 3 (by decide)) (p5 4 (by decide)) (p5 5 (by decide)) (p5 7 (by decide)) (p5 8 (by decide)) (p5 9 (by decide)) (p6 6)
          have nx' := (tk_next hkk.2).2
          refine ⟨nI x, _, hclf, frKC_tr fr13 (frKC_106 S (-1) σ3 _) (Nat.le_refl _) (fun _ _ z => z), ?_⟩
          by_cases hb2 : tkS B n (k' + 1) = 0
          · left
            have hcu := cu5.2.2.1 hb2
            refine ⟨⟨S', by omega, by simp [zs, u6]⟩, 1, tkP B n (k' + 1), τ5, by decide, Or.inr ⟨⟨x, u2, rfl⟩, rfl, k' + 1, C6, hb2, rfl⟩, fr05, hcu.1, hcu.2, ⟨R5, by omega, p4⟩, fun m => ?_⟩
            rw [show m + (c + 2 - k) = (m + (c - (k' + 1)) + 1 + 1) + (k' + 1 - k) by omega, hfin, rk_end _ _ (by rw [hcu.1]; decide), e49]
          · right
            have e4a : ∀ j, ga τ4 j = ga τ' j := fun j => by rw [e4]; simp only [zs]; rw [w2]
            refine ⟨k' + 1, S', R', R5, T, x, z, τ5, rfl, u2, by omega, by omega, C6, by simp [zs, u6], u7, ⟨?_, ?_, cu5, p4, ?_, ?_, e49⟩, hb2, by omega, ?_, ?_, u14, u15, ?_, fr05, hfin⟩
            · have := p7.2.1
              rw [← k1]
              funext i
              exact fr05.2.1 1 i (by unfold okK; omega)
            · rw [fr05.1 2 (by unfold exK; omega), k2]
            · rw [p5 42 (by decide), e4]; simp [zs]
            · rw [p5 18 (by decide), e4]; simp [zs]
            · exact kdC_mono (σ := σ3) (Nat.le_refl _) (Nat.le_refl _) (fun i _ _ => ⟨by simp [zs], by simp [zs], by simp [zs]⟩) T x u12
            · refine kdM_mono (τ := τ4) (Nat.le_refl _) (Nat.le_refl _) (fun i i1 i2 => ?_) T z (kdM_mono (τ := τ') (Nat.le_refl _) (Nat.le_refl _) (fun i _ _ => ⟨by rw [e4a], by rw [e4a], by rw [e4a], by rw [e4a]⟩) T z u13)
              have hq : nI i ≠ ga τ4 32 L := by
                rw [q32]
                rcases hv with ⟨q, q'⟩ | ⟨w, q1, q2, q3⟩ | ⟨w, q, q1, q2, q3, q4⟩
                · rw [q']; exact nI_m1 i (by omega)
                · rw [q3]; exact nI_m1 i (by omega)
                · rw [q4]
                  intro zz
                  have := (nI_eq (a := i) (b := q) (by omega) (by omega)).mp zz
                  omega
              exact ⟨p7.2.1 26 i (by unfold okK; omega), p7.2.1 27 i (by unfold okK; omega), p7.2.1 28 i ⟨by omega, fun _ => ⟨i2, hq⟩, by omega⟩, p7.2.1 29 i (by unfold okK; omega)⟩
            · have q31 := fr04.2.1 31 L (by unfold okK; omega)
              unfold apR at p2 ⊢
              rw [q31, q32] at p2
              rcases p2 with q | q | ⟨w, q, g1, g2, g3, g4, g5, g6, g7, g8, g9, g10, g11, g12⟩
              · exact Or.inl q
              · exact Or.inr (Or.inl q)
              · refine Or.inr (Or.inr ⟨w, q, g1, g2, g3, g4, g5, g6, ?_, g8, g9, g10, g11, g12⟩)
                rw [g7]
                have hqR : q < R := by
                  rcases hv with ⟨v, _⟩ | ⟨w', v1, v2, v3⟩ | ⟨w', q', v1, v2, v3, v4⟩
                  · rw [v] at g3
                    exact absurd g3.symm (nI_m1 w (by omega))
                  · rw [v3] at g4
                    exact absurd g4.symm (nI_m1 q (by omega))
                  · rw [v4] at g4
                    have := (nI_eq (a := q') (b := q) (by omega) (by omega)).mp g4
                    omega
                exact fr04.2.1 28 q ⟨by omega, fun _ => ⟨hqR, nI_m1 q (by omega)⟩, by omega⟩
        · have hex : Pa_expect F σ3 41 = some (0, si (si σ3 200 1) 201 (nI (tkP B n k'))) := by
            rw [Pa_expect, c_sort hT u5, bi_some, if_neg q41, c_start hT u5, bi_some, Fa_raise, bv_some]
          obtain ⟨h8', h9'⟩ := w6 q41
          have p8 : gi τ5 8 = 1 := by rw [p5 8 (by decide), e4]; simp only [zs]; simpa using h8'
          have p9 : gi τ5 9 = nI (tkP B n k') := by rw [p5 9 (by decide), e4]; simp only [zs]; simpa using h9'
          refine ⟨-1, _, ?_, frKC_tr fr13 (frKC_flt S (-1) σ3 1 (nI (tkP B n k'))) (Nat.le_refl _) (fun _ _ z => z), Or.inl ⟨⟨S', by omega, by simp [zs, u6]⟩, 1, tkP B n k', τ5, by decide, Or.inl ⟨rfl, by simp [zs], by simp [zs]⟩, fr05, p8, p9, ⟨R5, by omega, p4⟩, fun m => ?_⟩⟩
          · rw [hcl, e3, bi_some, u1, if_neg (nI_pos (by omega)), hex, bi_some, if_pos rfl]; rfl
          · rw [show m + (c + 2 - k) = (m + (c - k') + 1) + (k' + 1 - k) by omega, hfin, rk_end _ _ (by rw [p8]; decide), e49]
  · -- too deep
    have hL8 : L = 8 := by omega
    subst hL8
    have k8 : gi (si τ 18 9) 8 = 0 := by simp [zs, f8]
    have hd : Md_deeper F τ = some (si (si (si τ 18 9) 8 2) 9 (gi τ 5)) := by
      rw [Md_deeper, k18, if_neg (by decide), show nI 8 + 1 = (9 : Int32) by decide, Md_wrong, if_pos k8, Md_wrong_17, bv_some, Md_deeper_28]
    have h82 : gi (si (si (si τ 18 9) 8 2) 9 (gi τ 5)) 8 = 2 := by simp [zs]
    obtain ⟨τ1, n1, n2⟩ := next_flt (F := F) (τ := si (si (si τ 18 9) 8 2) 9 (gi τ 5)) (n := n) (by simp only [zs, k1]; exact hB) (by simp [zs, k2]) (by rw [h82]; decide) hF (a := lxE B n (k + 1)) (lxE_le _ _ _) (by simp [zs, f3])
    have n42 : gi τ1 42 = nI 8 := by rw [n2.1 42 (by decide) (by decide) (by decide)]; simp [zs, k42]
    obtain ⟨τ2, e2⟩ : ∃ τ2, τ2 = sa (sa (si τ1 42 (nI 9)) 31 9 (-1)) 32 9 (-1) := ⟨_, rfl⟩
    have hit2 : ∀ m, Md_readKind_11 F (m + 1) τ 1 = Md_readKind_11 F m τ2 1 := by
      intro m
      rw [hit m, hd, bv_some, n1, bv_some, hopK τ1 n42, bv_some, e2]
    have fr02 : frK 9 R (-1) τ τ2 := by
      rw [e2]
      refine frK_tr (frK_tr ?_ (frK_X 9 R (-1) n2) (Nat.le_refl _) (Nat.le_refl _) (fun _ _ z => z)) (frop τ1) (Nat.le_refl _) (Nat.le_refl _) (fun _ _ z => z)
      refine ⟨fun j hj => ?_, fun j i _ => by simp [zs], fun j _ => by simp [zs], fun j => by simp [zs], fun z => absurd f8 z, fun z => ?_⟩
      · unfold exK at hj
        have j1 : j ≠ 18 := by omega
        have j2 : j ≠ 8 := by omega
        have j3 : j ≠ 9 := by omega
        simp [zs, j1, j2, j3]
      · simp [zs] at z
    have q8 : gi τ2 8 = 2 := by rw [e2]; simp only [zs]; rw [if_neg (by decide), n2.1 8 (by decide) (by decide) (by decide)]; simp [zs]
    have q9 : gi τ2 9 = nI (tkP B n k) := by rw [e2]; simp only [zs]; rw [if_neg (by decide), n2.1 9 (by decide) (by decide) (by decide)]; simp [zs, f5]
    have q48 : gi τ2 48 = nI R := by rw [e2]; simp only [zs]; rw [if_neg (by decide), n2.1 48 (by decide) (by decide) (by decide)]; simp [zs, k48]
    refine ⟨-1, si (si σ 200 2) 201 (nI (tkP B n k)), ?_, frKC_flt S (-1) σ _ _, Or.inl ⟨⟨S, by omega, by simp [zs, hS]⟩, 2, tkP B n k, τ2, by decide, Or.inl ⟨rfl, by simp [zs], by simp [zs]⟩, frK_w (frK_tr (frK_rfl 8 R (-1) τ) fr02 (Nat.le_succ _) (Nat.le_refl _) (fun _ _ z => z)) (by omega), q8, q9, ⟨R, by omega, q48⟩, fun m => ?_⟩⟩
    · rw [Pa_parsePart_m, c_sort hT hC, bi_some, if_neg (by rw [hs]; decide), c_sort hT hC, bi_some, if_pos hs, if_neg (by decide), Pa_tooMuch, c_start hT hC, bi_some, Fa_raise, bv_some, bi_some, if_pos rfl, Pa_parsePart_58, if_pos rfl]
    · rw [show m + (c + 2 - k) = (m + (c - k) + 1) + 1 by omega, hit2, rk_end _ _ (by rw [q8]; decide), fr02.1 49 (by unfold exK; omega), k49]
end PK
