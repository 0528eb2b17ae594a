/-! Kinds that are told: the loop over parts; parseKind() and readKind(). Own text. -/
section PK
variable {F : Nat} {B : Nat → Int32} {n c X M s : Nat}
/-- where the reference's next part goes: nothing read yet, one part t at y, or t at y as the right side of the arrow q -/
def ctK (τ : zS) (L R lo : Nat) (w q : Int32) (t : TE) : Prop :=
  (w = -1 ∧ q = -1) ∨ (∃ y, y < 4000 ∧ w = nI y ∧ q = -1 ∧ kdM τ lo R t y) ∨ (∃ w0 q0 y, w0 < 4000 ∧ q0 < R ∧ lo ≤ q0 ∧ w = nI w0 ∧ q = nI q0 ∧ ga τ 28 q0 = nI y ∧ kdM τ lo q0 t y)
theorem kd_loop (hT : tEnd B n c) (hF : 1300 ≤ F) {L : Nat} (hL : L ≤ 8) {rP : zS → Int32 → Option (Int32 × zS)} (hP : ∀ σ τ k S R, kJ B n c X σ τ k M s S R L → lvK τ L R → PartK F B n c X M s σ τ k S R L (rP σ (nI L))) (hP0 : ∀ σ k, cS B n c X σ k M s → tkS B n k = 0 → ∃ σ', rP σ (nI L) = some (-1, σ') ∧ gi σ' 200 = 1 ∧ gi σ' 201 = nI (tkP B n k) ∧ gi σ' 306 = gi σ 306 ∧ ∀ S, frKC S (-1) σ σ') : ∀ (d m k S R lo x4 : Nat) (σ τ : zS) (x2 x3 w q : Int32) (t : TE), c - k = d → d < m → kJ B n c X σ τ k M s S R L → 1 ≤ lo → lo ≤ R → ga τ 31 L = w → ga τ 32 L = q → ctK τ L R lo w q t → ((w = -1 ∧ x2 = -1 ∧ x3 = -1) ∨ (w ≠ -1 ∧ R + 1 ≤ S ∧ ∃ w1 la, w1 < 2000 ∧ la < S ∧ x2 = nI w1 ∧ x3 = nI la)) → 2 * x4 ≤ k → ∃ r σ', Pa_parseKind_7 F rP m σ (nI L) x2 x3 (nI x4) = some (r, σ') ∧ frKC S x3 σ σ' ∧ (badK F B n c X M s τ k L R q 1 r σ' ∨ (∃ k' S' R' T x z τ', r = (if w = -1 then nI x else x2) ∧ x < 2000 ∧ (∀ la, x3 = nI la → la < S → ga σ' 24 la = nI x) ∧ k < k' ∧ k' ≤ c ∧ cS B n c X σ' k' M s ∧ gi σ' 306 = nI S' ∧ S ≤ S' ∧ mK B n τ' k' R' L ∧ tkS B n k' ≠ 0 ∧ tkS B n k' ≠ 45 ∧ 3 * S' + 1 ≤ tkP B n k' + 3 ∧ kdC σ' S S' T x ∧ R ≤ R' ∧ R' + S ≤ R + S' + (if w = -1 then 0 else 1) ∧ frK L R q τ τ' ∧ ((w = -1 ∧ ga τ' 31 L = nI z ∧ kdM τ' R R' T z) ∨ (w ≠ -1 ∧ q = -1 ∧ ga τ' 31 L = nI z ∧ z < 4000 ∧ kdM τ' lo R' (.op t T) z) ∨ (∃ q0, w ≠ -1 ∧ q0 < R ∧ q = nI q0 ∧ ga τ' 31 L = w ∧ ga τ' 28 q0 = nI z ∧ kdM τ' lo R' (.op t T) z)) ∧ ∀ m, Md_readKind_11 F (m + (k' - k)) τ 1 = Md_readKind_11 F m τ' 0)) := by
  have hB := hT.1
  have hc := tE_c hT
  have hn := hB.1
  intro d
  induction d using Nat.strongRecOn with
  | _ d ih =>
    intro m k S R lo x4 σ τ x2 x3 w q t hd hm hJ hlo1 hlo e31 e32 hct hcx hx4
    have hJ0 := hJ
    obtain ⟨hC, hS, hS1, hK, hne, hb, hR1, hRS⟩ := hJ
    have htp := tkP_le B n k
    have hkc := hC.2.1
    obtain ⟨m, rfl⟩ : ∃ m', m = m' + 1 := ⟨m - 1, by omega⟩
    have hlv : lvK τ L R := by
      unfold lvK
      rw [e31, e32]
      rcases hct with ⟨q1, q2⟩ | ⟨y, q1, q2, q3, q4⟩ | ⟨w0, q0, y, q1, q2, q3, q4, q5, q6⟩
      · exact Or.inl ⟨q1, q2⟩
      · exact Or.inr (Or.inl ⟨y, q1, q2, q3⟩)
      · exact Or.inr (Or.inr ⟨w0, q0, q1, q2, q4, q5⟩)
    obtain ⟨r, σ1, e1, fr1, res⟩ := hP σ τ k S R hJ0 hlv
    rw [e32] at res
    have hx3 : ∀ la, x3 = nI la → la < S → w ≠ -1 := by
      intro la e hla
      rcases hcx with ⟨_, _, q3⟩ | ⟨q1, _⟩
      · rw [q3] at e
        exact absurd e.symm (nI_m1 la (by omega))
      · exact q1
    have hbody : Pa_parseKind_7 F rP (m + 1) σ (nI L) x2 x3 (nI x4) = if 0 ≤ r then (bi (Ta_sort F σ1) (fun r7 σ6 => if r7 = (45 : Int32) then (Pa_parseKind_46 F rP (Pa_parseKind_7 F rP m) σ6 (nI L) x2 x3 (nI x4) r (1 : Int32)) else (Pa_parseKind_46 F rP (Pa_parseKind_7 F rP m) σ6 (nI L) x2 x3 (nI x4) r (0 : Int32)))) else (some ((-1 : Int32), σ1)) := by
      show Pa_parseKind_b7 F rP (Pa_parseKind_7 F rP m) σ (nI L) x2 x3 (nI x4) = _
      rw [Pa_parseKind_b7, if_neg (show ¬ (1200 : Int32) ≤ nI x4 from nI_ge (b := 1200) (by omega) (by omega)), e1, bi_some]
    -- the class's write of a part's or an arrow's number: at the right of la, or as the whole
    have h72 : ∀ (σ : zS) (y : Nat) (x6 : Int32), Pa_parseKind_72 F rP (Pa_parseKind_7 F rP m) σ (nI L) x2 x3 (nI x4) (nI y) x6 = Pa_parseKind_93 F rP (Pa_parseKind_7 F rP m) (if x3 < 0 then σ else sa σ 24 x3.toNatClampNeg (nI y)) (nI L) (if w = -1 then nI y else x2) (nI x4) (nI y) x6 := by
      intro σ y x6
      rcases hcx with ⟨q1, q2, q3⟩ | ⟨q1, q2, w1, la, q3, q4, q5, q6⟩
      · rw [Pa_parseKind_72, q3, if_pos (by decide), if_pos (by decide), if_pos q1]
      · rw [Pa_parseKind_72, q6, if_neg (nI_pos (by omega)), gd_t (inb_nI (by omega) (by omega)), if_neg (nI_pos (by omega)), if_neg q1]
    have frW : ∀ (σ : zS) (y : Int32), frKC S x3 σ (if x3 < 0 then σ else sa σ 24 x3.toNatClampNeg y) := by
      intro σ y
      rcases hcx with ⟨q1, q2, q3⟩ | ⟨q1, q2, w1, la, q3, q4, q5, q6⟩
      · rw [if_pos (by rw [q3]; decide)]; exact frKC_rfl _ _ _
      · rw [q6, if_neg (nI_pos (by omega)), nI_clamp (by omega)]
        refine ⟨fun j _ _ _ _ => by simp [zs], fun j i g1 g2 => ?_, fun j => by simp [zs], fun j => by simp [zs], fun j => by simp [zs], fun j => by simp [zs], fun j => by simp [zs], fun j => by simp [zs]⟩
        simp only [at_sa]
        rw [if_neg (fun z => (g2 z.1).2 (by rw [z.2]))]
    have wW : ∀ (σ : zS) (y : Int32) (la : Nat), x3 = nI la → la < S → ga (if x3 < 0 then σ else sa σ 24 x3.toNatClampNeg y) 24 la = y := by
      intro σ y la e hla
      rw [e, if_neg (nI_pos (by omega)), nI_clamp (by omega)]
      simp [at_sa]
    have gW : ∀ (σ : zS) (y : Int32) (j : Nat), gi (if x3 < 0 then σ else sa σ 24 x3.toNatClampNeg y) j = gi σ j := by
      intro σ y j
      split
      · rfl
      · simp [zs]
    have cW : ∀ (σ : zS) (y : Int32) (k : Nat), cS B n c X σ k M s → cS B n c X (if x3 < 0 then σ else sa σ 24 x3.toNatClampNeg y) k M s := by
      intro σ y k hC
      refine cS_frK hC (frW σ y) ?_ hC.2.1 ?_
      · rw [gW]; exact hC.1
      · rw [gW]; exact hC.2.2.2.2.2.2.2
    -- entries at S and above are not touched by that write
    have hiW : ∀ (σ : zS) (y : Int32) (j i : Nat), S ≤ i → ga (if x3 < 0 then σ else sa σ 24 x3.toNatClampNeg y) j i = ga σ j i := by
      intro σ y j i hi
      rcases hcx with ⟨q1, q2, q3⟩ | ⟨q1, q2, w1, la, q3, q4, q5, q6⟩
      · rw [if_pos (by rw [q3]; decide)]
      · rw [q6, if_neg (nI_pos (by omega)), nI_clamp (by omega)]
        simp only [at_sa]
        rw [if_neg (by omega)]
    rcases res with ⟨hS', f, p, τ', hf, hdm, hfr, h8, h9, hR', hro⟩ | ⟨k1, S1, R1, R2, T1, x, z, τ1, u1, u2, u3, u4, u5, u6, u7, u8, u9, u10, u11, u12, u13, u14, u15, u16, u17⟩
    · rcases hdm with ⟨d1, d2, d3⟩ | ⟨⟨x, hx, d1⟩, d2, kb, dC, dS, dp⟩
      · subst d1
        exact ⟨-1, σ1, by rw [hbody, if_neg (by decide)], frKC_w fr1 (by omega), Or.inl ⟨hS', f, p, τ', hf, Or.inl ⟨rfl, d2, d3⟩, hfr, h8, h9, hR', hro⟩⟩
      · subst d1 d2
        refine ⟨(if w = -1 then nI x else x2), _, ?_, frKC_tr (frKC_w fr1 (by omega)) (frW σ1 (nI x)) (Nat.le_refl _) (fun _ _ z => z), Or.inl ⟨?_, 1, p, τ', hf, Or.inr ⟨?_, rfl, kb, cW _ _ _ dC, dS, dp⟩, hfr, h8, h9, hR', hro⟩⟩
        · rw [hbody, if_pos (nI_pos' (by omega)), c_sort hT dC, bi_some, if_neg (by rw [dS]; decide), Pa_parseKind_46, if_pos rfl, h72, Pa_parseKind_93, if_pos rfl]
        · obtain ⟨S', g1, g2⟩ := hS'
          exact ⟨S', g1, by rw [gW]; exact g2⟩
        · rcases hcx with ⟨q1, _⟩ | ⟨q1, q2, w1, la, q3, q4, q5, q6⟩
          · exact ⟨x, hx, by rw [if_pos q1]⟩
          · exact ⟨w1, q3, by rw [if_neg q1, q5]⟩
    · subst u1
      have htp1 := tkP_le B n k1
      obtain ⟨g8, g3, g5, g4⟩ := k_flt u8 u9
      have hz4 : z < 4000 := by rcases kdM_lt _ _ u12 with v | v <;> omega
      have hfr1w : frKC S x3 σ σ1 := frKC_w fr1 (by omega)
      by_cases q45 : tkS B n k1 = 45
      · -- an arrow
        have hk1 := tEnd_s hT u5.2.1 (show tkS B n k1 ≠ 1 by rw [q45]; decide)
        have hta := tk_arrow hB q45
        obtain ⟨e2, C2, _⟩ := c_step (F := F) hT u5 (show tkS B n k1 ≠ 1 by rw [q45]; decide)
        have hmk := c_mkArrow (F := F) (σ := si σ1 106 (nI (k1 + 1))) (S := S1) (by simp [zs, u6]) (by omega) (nI x) 0
        obtain ⟨σ3, e3⟩ : ∃ σ3, σ3 = si (sa (sa (sa (si σ1 106 (nI (k1 + 1))) 23 S1 (nI x)) 24 S1 0) 25 S1 (-1)) 306 (nI (S1 + 1)) := ⟨_, rfl⟩
        have fr3 : frKC S1 (-1) σ1 σ3 := by
          rw [e3]
          refine ⟨fun j j1 j2 _ _ => by simp [zs, j1, j2], fun j i g1 g2 => ?_, fun j => by simp [zs], fun j => by simp [zs], fun j => by simp [zs], fun j => by simp [zs], fun j => by simp [zs], fun j => by simp [zs]⟩
          simp only [at_sa, at_si]
          rw [if_neg (fun z => by have := g1 (Or.inr z.1); omega), if_neg (fun z => by have := (g2 z.1).1; omega), if_neg (fun z => by have := g1 (Or.inl z.1); omega)]
        have C3 : cS B n c X σ3 (k1 + 1) M s := by
          refine cS_frK u5 fr3 (by rw [e3]; simp [zs]) (by omega) ?_
          rw [e3]; simp only [zs]; simpa using u5.2.2.2.2.2.2.2
        obtain ⟨σ4, e4⟩ : ∃ σ4, σ4 = if x3 < 0 then σ3 else sa σ3 24 x3.toNatClampNeg (nI S1) := ⟨_, rfl⟩
        have C4 : cS B n c X σ4 (k1 + 1) M s := by rw [e4]; exact cW _ _ _ C3
        have h306 : gi σ4 306 = nI (S1 + 1) := by rw [e4, gW, e3]; simp [zs]
        have fr04 : frKC S x3 σ σ4 := by
          rw [e4]
          exact frKC_tr (frKC_tr hfr1w (frKC_w (frKC_tr (frKC_rfl S (-1) σ1) fr3 u7 (fun _ _ z => z)) (by omega)) (Nat.le_refl _) (fun _ _ z => z)) (frW σ3 _) (Nat.le_refl _) (fun _ _ z => z)
        have a23 : ga σ4 23 S1 = nI x := by rw [e4, hiW _ _ _ _ u7, e3]; simp [at_sa, at_si]
        have a25 : ga σ4 25 S1 = -1 := by rw [e4, hiW _ _ _ _ u7, e3]; simp [at_sa, at_si]
        have kT1 : kdC σ4 S S1 T1 x := by
          refine kdC_mono (σ := σ1) (Nat.le_refl _) (Nat.le_refl _) (fun i i1 i2 => ⟨?_, ?_, ?_⟩) T1 x u11
          · rw [e4, hiW _ _ _ _ i1, fr3.2.1 23 i (by omega) (by omega)]
          · rw [e4, hiW _ _ _ _ i1, fr3.2.1 24 i (by omega) (fun _ => ⟨i2, nI_m1 i (by omega)⟩)]
          · rw [e4, hiW _ _ _ _ i1, fr3.2.1 25 i (by omega) (by omega)]
        have hcl : Pa_parseKind_7 F rP (m + 1) σ (nI L) x2 x3 (nI x4) = Pa_parseKind_7 F rP m σ4 (nI L) (if w = -1 then nI S1 else x2) (nI S1) (nI (x4 + 1)) := by
          rw [hbody, if_pos (nI_pos' (by omega)), c_sort hT u5, bi_some, if_pos q45, Pa_parseKind_46, if_neg (by decide), e2, bv_some, hmk, bi_some, ← e3, h72, ← e4, Pa_parseKind_93, if_neg (by decide), nI_1]
        -- the reference steps over the arrow
        obtain ⟨j1, j2, j3, j48, j42, j18, j49⟩ := u8
        obtain ⟨τ2, n1, n2, n3⟩ := m_next (F := F) (k := k1) hB hF j1 j2 g8 g3
        have s45 := (k_sign (F := F) hB j3 u9 (y := 45) (by omega) (by omega)).1 q45
        rw [show sgM (nI 45) = 1000 by decide] at s45
        have hit : ∀ m, Md_readKind_11 F (m + (k1 + 1 - k)) τ 1 = Md_readKind_11 F m τ2 1 := by
          intro m
          rw [show m + (k1 + 1 - k) = (m + 1) + (k1 - k) by omega, u17, rk_it m 0 g8, if_pos rfl, Md_readKind_48, if_pos rfl, Md_readKind_76, if_pos rfl, s45, bi_some, if_neg (by decide), n1, bv_some]
        obtain ⟨fa1, fa2, fa3, fa4, _⟩ := n2
        have mK2 : mK B n τ2 (k1 + 1) R2 L := by
          refine ⟨by rw [fa2, j1], ?_, n3, ?_, ?_, ?_, ?_⟩
          · rw [fa1 2 (by decide) (by decide) (by decide) (by decide) (by decide) (by decide), j2]
          · rw [fa1 48 (by decide) (by decide) (by decide) (by decide) (by decide) (by decide), j48]
          · rw [fa1 42 (by decide) (by decide) (by decide) (by decide) (by decide) (by decide), j42]
          · rw [fa1 18 (by decide) (by decide) (by decide) (by decide) (by decide) (by decide), j18]
          · rw [fa1 49 (by decide) (by decide) (by decide) (by decide) (by decide) (by decide), j49]
        have fr02 : frK L R q τ τ2 := frK_tr u16 (frK_N L R q g8 ⟨fa1, fa2, fa3, fa4, by assumption⟩) (Nat.le_refl _) (Nat.le_refl _) (fun _ _ z => z)
        by_cases hb2 : tkS B n (k1 + 1) = 0
        · obtain ⟨σ', t1, t2, t3, t5, t4⟩ := hP0 _ _ C4 hb2
          have hcu := n3.2.2.1 hb2
          refine ⟨-1, σ', ?_, frKC_tr fr04 (frKC_w (t4 S) (by omega)) (Nat.le_refl _) (fun _ _ z => z), Or.inl ⟨⟨S1 + 1, by omega, by rw [t5, h306]⟩, 1, tkP B n (k1 + 1), τ2, by decide, Or.inl ⟨rfl, t2, t3⟩, fr02, hcu.1, hcu.2, ⟨R2, ?_, mK2.2.2.2.1⟩, fun m => ?_⟩⟩
          · obtain ⟨m, rfl⟩ : ∃ m', m = m' + 1 := ⟨m - 1, by omega⟩
            rw [hcl]
            show Pa_parseKind_b7 F rP (Pa_parseKind_7 F rP m) σ4 (nI L) _ (nI S1) (nI (x4 + 1)) = _
            rw [Pa_parseKind_b7, if_neg (show ¬ (1200 : Int32) ≤ nI (x4 + 1) from nI_ge (b := 1200) (by omega) (by omega)), t1, bi_some, if_neg (by decide)]
          · rcases u15 with v | ⟨_, _, _, _, v, _⟩ | ⟨_, _, _, _, _, _, v, _⟩
            · rw [v.2.1]; omega
            · omega
            · omega
          · rw [show m + (c + 2 - k) = (m + (c - k1) + 1) + (k1 + 1 - k) by omega, hit, rk_end _ _ (by rw [hcu.1]; decide), mK2.2.2.2.2.2.2]
        · -- the parts behind the arrow
          have hkM : ∀ (lo hi : Nat) (t : TE) (y : Nat), kdM τ1 lo hi t y → kdM τ2 lo hi t y := fun lo hi t y => kdM_mono (τ := τ1) (Nat.le_refl _) (Nat.le_refl _) (fun i _ _ => ⟨by rw [fa2], by rw [fa2], by rw [fa2], by rw [fa2]⟩) t y
          have frT : ∀ (hi : Nat) (t : TE) (y : Nat), hi ≤ R → (∀ i, i < hi → nI i ≠ q) → kdM τ lo hi t y → kdM τ2 lo hi t y := fun hi t y hh hq => kdM_mono (τ := τ) (Nat.le_refl _) (Nat.le_refl _) (fun i i1 i2 => ⟨fr02.2.1 26 i (by unfold okK; omega), fr02.2.1 27 i (by unfold okK; omega), fr02.2.1 28 i ⟨by omega, fun _ => ⟨by omega, hq i i2⟩, by omega⟩, fr02.2.1 29 i (by unfold okK; omega)⟩) t y
          rcases u15 with ⟨v1, v2, v3, v4⟩ | ⟨w0, v0, v1, v2, v3, v4, v5, v6, v7, v8, v9⟩ | ⟨w0, q0, v0, v00, v1, v2, v3, v4, v5, v6, v7, v8, v9, v10⟩
          · -- the first part
            have hw : w = -1 := by rw [← e31]; exact v1
            have hq : q = -1 := by
              rcases hct with ⟨_, q2⟩ | ⟨y, _, q2, q3, _⟩ | ⟨w0, q0, y, _, _, _, q4, _⟩
              · exact q2
              · exact q3
              · rw [hw] at q4; rcases hlv with ⟨_, q'⟩ | ⟨_, _, _, q'⟩ | ⟨w9, _, q8, _, q9, _⟩
                · rw [← e32]; exact q'
                · rw [← e32]; exact q'
                · rw [e31, hw] at q9; exact absurd q9.symm (nI_m1 w9 (by omega))
            subst v2
            obtain ⟨r, σ', g1, g2, g3'⟩ := ih (c - (k1 + 1)) (by omega) m (k1 + 1) (S1 + 1) R2 R (x4 + 1) σ4 τ2 (if w = -1 then nI S1 else x2) (nI S1) (nI z) (-1) T1 rfl (by omega) ⟨C4, h306, by omega, mK2, hb2, by omega, by omega, by omega⟩ (by omega) (by omega) (by rw [fa2, v3]) (by rw [fa2, v4, e32, hq]) (Or.inr (Or.inl ⟨z, hz4, rfl, rfl, hkM _ _ _ _ u12⟩)) (Or.inr ⟨nI_m1 z (by omega), by omega, S1, S1, by omega, by omega, by rw [if_pos hw], rfl⟩) (by omega)
            refine ⟨r, σ', by rw [hcl, g1], frKC_tr fr04 g2 (by omega) (fun i hi _ zz => by have := (nI_eq (a := i) (b := S1) (by omega) (by omega)).mp zz; omega), ?_⟩
            rcases g3' with ⟨b1, f, p, τ', b2, b3, b4, b5, b6, b7, b8⟩ | ⟨k', S', R', T, x', z', τ', b1, b2, b3, b4, b5, b6, b7, b8, b9, b10, b11, b12, b13, b14, b15, b16, b17, b18⟩
            · left
              refine ⟨b1, f, p, τ', b2, b3, frK_tr fr02 b4 (Nat.le_refl _) (by omega) (fun i hi _ => nI_m1 i (by omega)), b5, b6, b7, fun m => ?_⟩
              rw [show m + (c + 2 - k) = (m + (c + 2 - (k1 + 1))) + (k1 + 1 - k) by omega, hit, b8]
            · right
              rw [if_neg (nI_m1 z (by omega)), if_pos hw] at b1
              rw [if_neg (nI_m1 z (by omega))] at b15
              simp only [if_pos hw]
              have h24 := b3 S1 rfl (by omega)
              refine ⟨k', S', R', .op T1 T, S1, z', τ', b1, by omega, fun la e hla => absurd hw (hx3 la e hla), by omega, b5, b6, b7, by omega, b9, b10, b11, b12, ⟨by omega, by omega, ?_, x, x', ?_, h24, ?_, ?_⟩, by omega, by omega, frK_tr fr02 b16 (Nat.le_refl _) (by omega) (fun i hi _ => nI_m1 i (by omega)), Or.inl ⟨hw, ?_, ?_⟩, fun m => ?_⟩
              · rw [g2.2.1 25 S1 (by omega) (by omega), a25]
              · rw [g2.2.1 23 S1 (by omega) (by omega), a23]
              · exact kdC_mono (σ := σ4) (Nat.le_refl _) (by omega) (fun i i1 i2 => ⟨g2.2.1 23 i (by omega) (by omega), g2.2.1 24 i (by omega) (fun _ => ⟨by omega, fun zz => by have := (nI_eq (a := i) (b := S1) (by omega) (by omega)).mp zz; omega⟩), g2.2.1 25 i (by omega) (by omega)⟩) T1 x kT1
              · exact kdC_mono (σ := σ') (by omega) (Nat.le_refl _) (fun i _ _ => ⟨rfl, rfl, rfl⟩) T x' b13
              · rcases b17 with ⟨c1, _⟩ | ⟨_, _, c2, _, _⟩ | ⟨q0, _, _, c3, _⟩
                · exact absurd c1 (nI_m1 z (by omega))
                · exact c2
                · exact absurd c3.symm (nI_m1 q0 (by omega))
              · rcases b17 with ⟨c1, _⟩ | ⟨_, _, _, _, c2⟩ | ⟨q0, _, _, c3, _⟩
                · exact absurd c1 (nI_m1 z (by omega))
                · exact c2
                · exact absurd c3.symm (nI_m1 q0 (by omega))
              · rw [show m + (k' - k) = (m + (k' - (k1 + 1))) + (k1 + 1 - k) by omega, hit, b18]
          · -- the second part
            have hw : w = nI w0 := by rw [← e31]; exact v1
            have hq : q = -1 := by rw [← e32]; exact v2
            have hwn : w ≠ -1 := by rw [hw]; exact nI_m1 w0 (by omega)
            obtain ⟨hw2, hRS2, w1, la, hw1, hla, hx2e, hx3e⟩ : w ≠ -1 ∧ R + 1 ≤ S ∧ ∃ w1 la, w1 < 2000 ∧ la < S ∧ x2 = nI w1 ∧ x3 = nI la := by
              rcases hcx with ⟨q1, _⟩ | q1
              · exact absurd q1 hwn
              · exact q1
            have hkt : kdM τ lo R t w0 := by
              rcases hct with ⟨q1, _⟩ | ⟨y, q1, q2, q3, q4⟩ | ⟨w9, q0, y, q1, q2, q3, q4, q5, q6⟩
              · exact absurd q1 hwn
              · rw [hw] at q2
                have := (nI_eq (a := w0) (b := y) (by omega) (by omega)).mp q2
                subst this
                exact q4
              · rw [hq] at q5
                exact absurd q5.symm (nI_m1 q0 (by omega))
            subst v3
            obtain ⟨r, σ', g1, g2, g3'⟩ := ih (c - (k1 + 1)) (by omega) m (k1 + 1) (S1 + 1) (R1 + 1) R (x4 + 1) σ4 τ2 (if w = -1 then nI S1 else x2) (nI S1) (nI R1) (nI R1) T1 rfl (by omega) ⟨C4, h306, by omega, mK2, hb2, by omega, by omega, by omega⟩ (by omega) (by omega) (by rw [fa2, v8]) (by rw [fa2, v9]) (Or.inr (Or.inr ⟨R1, R1, z, by omega, by omega, by omega, rfl, rfl, by rw [fa2, v6], hkM _ _ _ _ u12⟩)) (Or.inr ⟨nI_m1 R1 (by omega), by omega, w1, S1, hw1, by omega, by rw [if_neg hwn, hx2e], rfl⟩) (by omega)
            refine ⟨r, σ', by rw [hcl, g1], frKC_tr fr04 g2 (by omega) (fun i hi _ zz => by have := (nI_eq (a := i) (b := S1) (by omega) (by omega)).mp zz; omega), ?_⟩
            have frL : ∀ τ', frK L (R1 + 1) (nI R1) τ2 τ' → frK L R q τ τ' := fun τ' hf => frK_tr fr02 hf (Nat.le_refl _) (by omega) (fun i hi _ zz => by have := (nI_eq (a := i) (b := R1) (by omega) (by omega)).mp zz; omega)
            rcases g3' with ⟨b1, f, p, τ', b2, b3, b4, b5, b6, b7, b8⟩ | ⟨k', S', R', T, x', z', τ', b1, b2, b3, b4, b5, b6, b7, b8, b9, b10, b11, b12, b13, b14, b15, b16, b17, b18⟩
            · left
              refine ⟨b1, f, p, τ', b2, b3, frL τ' b4, b5, b6, b7, fun m => ?_⟩
              rw [show m + (c + 2 - k) = (m + (c + 2 - (k1 + 1))) + (k1 + 1 - k) by omega, hit, b8]
            · right
              rw [if_neg (nI_m1 R1 (by omega)), if_neg hwn] at b1
              rw [if_neg (nI_m1 R1 (by omega))] at b15
              simp only [if_neg hwn]
              have h24 := b3 S1 rfl (by omega)
              refine ⟨k', S', R', .op T1 T, S1, R1, τ', b1, by omega, fun la e hla => ?_, by omega, b5, b6, b7, by omega, b9, b10, b11, b12, ⟨by omega, by omega, ?_, x, x', ?_, h24, ?_, ?_⟩, by omega, by omega, frL τ' b16, Or.inr (Or.inl ⟨hwn, hq, ?_, by omega, ?_⟩), fun m => ?_⟩
              · rw [g2.2.1 24 la (by omega) (fun _ => ⟨by omega, fun zz => by have := (nI_eq (a := la) (b := S1) (by omega) (by omega)).mp zz; omega⟩), e4]
                exact wW _ _ _ e hla
              · rw [g2.2.1 25 S1 (by omega) (by omega), a25]
              · rw [g2.2.1 23 S1 (by omega) (by omega), a23]
              · exact kdC_mono (σ := σ4) (Nat.le_refl _) (by omega) (fun i i1 i2 => ⟨g2.2.1 23 i (by omega) (by omega), g2.2.1 24 i (by omega) (fun _ => ⟨by omega, fun zz => by have := (nI_eq (a := i) (b := S1) (by omega) (by omega)).mp zz; omega⟩), g2.2.1 25 i (by omega) (by omega)⟩) T1 x kT1
              · exact kdC_mono (σ := σ') (by omega) (Nat.le_refl _) (fun i _ _ => ⟨rfl, rfl, rfl⟩) T x' b13
              · rcases b17 with ⟨c1, _⟩ | ⟨_, c1, _⟩ | ⟨q0, _, _, c3, c4, _⟩
                · exact absurd c1 (nI_m1 R1 (by omega))
                · exact absurd c1 (nI_m1 R1 (by omega))
                · exact c4
              · rcases b17 with ⟨c1, _⟩ | ⟨_, c1, _⟩ | ⟨q0, _, c2, c3, _, c5, c6⟩
                · exact absurd c1 (nI_m1 R1 (by omega))
                · exact absurd c1 (nI_m1 R1 (by omega))
                · have := (nI_eq (a := R1) (b := q0) (by omega) (by omega)).mp c3
                  subst this
                  refine ⟨by omega, by omega, ?_, ?_, w0, z', ?_, c5, ?_, ?_⟩
                  · rw [b16.2.1 26 R1 (by unfold okK; omega), fa2, v4]
                  · rw [b16.2.1 29 R1 (by unfold okK; omega), fa2, v7]
                  · rw [b16.2.1 27 R1 (by unfold okK; omega), fa2, v5]
                  · refine kdM_mono (τ := τ2) (Nat.le_refl _) (by omega) (fun i i1 i2 => ⟨b16.2.1 26 i (by unfold okK; omega), b16.2.1 27 i (by unfold okK; omega), b16.2.1 28 i ⟨by omega, fun _ => ⟨by omega, fun zz => by have := (nI_eq (a := i) (b := R1) (by omega) (by omega)).mp zz; omega⟩, by omega⟩, b16.2.1 29 i (by unfold okK; omega)⟩) t w0 (frT R t w0 (Nat.le_refl _) (fun i hi => by rw [hq]; exact nI_m1 i (by omega)) hkt)
                  · exact kdM_mono (τ := τ') hlo (Nat.le_refl _) (fun i _ _ => ⟨rfl, rfl, rfl, rfl⟩) _ z' c6
              · rw [show m + (k' - k) = (m + (k' - (k1 + 1))) + (k1 + 1 - k) by omega, hit, b18]
          · -- a further part
            have hw : w = nI w0 := by rw [← e31]; exact v1
            have hq : q = nI q0 := by rw [← e32]; exact v2
            have hwn : w ≠ -1 := by rw [hw]; exact nI_m1 w0 (by omega)
            obtain ⟨hw2, hRS2, w1, la, hw1, hla, hx2e, hx3e⟩ : w ≠ -1 ∧ R + 1 ≤ S ∧ ∃ w1 la, w1 < 2000 ∧ la < S ∧ x2 = nI w1 ∧ x3 = nI la := by
              rcases hcx with ⟨q1, _⟩ | q1
              · exact absurd q1 hwn
              · exact q1
            obtain ⟨y, hqR, hloq, hy28, hkt⟩ : ∃ y, q0 < R ∧ lo ≤ q0 ∧ ga τ 28 q0 = nI y ∧ kdM τ lo q0 t y := by
              rcases hct with ⟨q1, _⟩ | ⟨y, q1, q2, q3, q4⟩ | ⟨w9, q9, y, q1, q2, q3, q4, q5, q6, q7⟩
              · exact absurd q1 hwn
              · rw [hq] at q3
                exact absurd q3 (nI_m1 q0 (by omega))
              · rw [hq] at q5
                have := (nI_eq (a := q0) (b := q9) (by omega) (by omega)).mp q5
                subst this
                exact ⟨y, q2, q3, q6, q7⟩
            subst v3
            obtain ⟨r, σ', g1, g2, g3'⟩ := ih (c - (k1 + 1)) (by omega) m (k1 + 1) (S1 + 1) (R1 + 1) R (x4 + 1) σ4 τ2 (if w = -1 then nI S1 else x2) (nI S1) (nI w0) (nI R1) T1 rfl (by omega) ⟨C4, h306, by omega, mK2, hb2, by omega, by omega, by omega⟩ (by omega) (by omega) (by rw [fa2, v9]) (by rw [fa2, v10]) (Or.inr (Or.inr ⟨w0, R1, z, v0, by omega, by omega, rfl, rfl, by rw [fa2, v6], hkM _ _ _ _ u12⟩)) (Or.inr ⟨nI_m1 w0 (by omega), by omega, w1, S1, hw1, by omega, by rw [if_neg hwn, hx2e], rfl⟩) (by omega)
            refine ⟨r, σ', by rw [hcl, g1], frKC_tr fr04 g2 (by omega) (fun i hi _ zz => by have := (nI_eq (a := i) (b := S1) (by omega) (by omega)).mp zz; omega), ?_⟩
            have frL : ∀ τ', frK L (R1 + 1) (nI R1) τ2 τ' → frK L R q τ τ' := fun τ' hf => frK_tr fr02 hf (Nat.le_refl _) (by omega) (fun i hi _ zz => by have := (nI_eq (a := i) (b := R1) (by omega) (by omega)).mp zz; omega)
            rcases g3' with ⟨b1, f, p, τ', b2, b3, b4, b5, b6, b7, b8⟩ | ⟨k', S', R', T, x', z', τ', b1, b2, b3, b4, b5, b6, b7, b8, b9, b10, b11, b12, b13, b14, b15, b16, b17, b18⟩
            · left
              refine ⟨b1, f, p, τ', b2, b3, frL τ' b4, b5, b6, b7, fun m => ?_⟩
              rw [show m + (c + 2 - k) = (m + (c + 2 - (k1 + 1))) + (k1 + 1 - k) by omega, hit, b8]
            · right
              rw [if_neg (nI_m1 w0 (by omega)), if_neg hwn] at b1
              rw [if_neg (nI_m1 w0 (by omega))] at b15
              simp only [if_neg hwn]
              have h24 := b3 S1 rfl (by omega)
              have hnqR : nI q0 ≠ nI R1 := fun zz => by have := (nI_eq (a := q0) (b := R1) (by omega) (by omega)).mp zz; omega
              refine ⟨k', S', R', .op T1 T, S1, R1, τ', b1, by omega, fun la e hla => ?_, by omega, b5, b6, b7, by omega, b9, b10, b11, b12, ⟨by omega, by omega, ?_, x, x', ?_, h24, ?_, ?_⟩, by omega, by omega, frL τ' b16, Or.inr (Or.inr ⟨q0, hwn, hqR, hq, ?_, ?_, ?_⟩), fun m => ?_⟩
              · rw [g2.2.1 24 la (by omega) (fun _ => ⟨by omega, fun zz => by have := (nI_eq (a := la) (b := S1) (by omega) (by omega)).mp zz; omega⟩), e4]
                exact wW _ _ _ e hla
              · rw [g2.2.1 25 S1 (by omega) (by omega), a25]
              · rw [g2.2.1 23 S1 (by omega) (by omega), a23]
              · exact kdC_mono (σ := σ4) (Nat.le_refl _) (by omega) (fun i i1 i2 => ⟨g2.2.1 23 i (by omega) (by omega), g2.2.1 24 i (by omega) (fun _ => ⟨by omega, fun zz => by have := (nI_eq (a := i) (b := S1) (by omega) (by omega)).mp zz; omega⟩), g2.2.1 25 i (by omega) (by omega)⟩) T1 x kT1
              · exact kdC_mono (σ := σ') (by omega) (Nat.le_refl _) (fun i _ _ => ⟨rfl, rfl, rfl⟩) T x' b13
              · rcases b17 with ⟨c1, _⟩ | ⟨_, c1, _⟩ | ⟨q9, _, _, c3, c4, _⟩
                · exact absurd c1 (nI_m1 w0 (by omega))
                · exact absurd c1 (nI_m1 R1 (by omega))
                · rw [hw]; exact c4
              · rw [b16.2.1 28 q0 ⟨by omega, fun _ => ⟨by omega, hnqR⟩, by omega⟩, fa2, v8]
              · rcases b17 with ⟨c1, _⟩ | ⟨_, c1, _⟩ | ⟨q9, _, c2, c3, _, c5, c6⟩
                · exact absurd c1 (nI_m1 w0 (by omega))
                · exact absurd c1 (nI_m1 R1 (by omega))
                · have := (nI_eq (a := R1) (b := q9) (by omega) (by omega)).mp c3
                  subst this
                  refine ⟨by omega, by omega, ?_, ?_, y, z', ?_, c5, ?_, ?_⟩
                  · rw [b16.2.1 26 R1 (by unfold okK; omega), fa2, v4]
                  · rw [b16.2.1 29 R1 (by unfold okK; omega), fa2, v7]
                  · rw [b16.2.1 27 R1 (by unfold okK; omega), fa2, v5, hy28]
                  · refine kdM_mono (τ := τ2) (Nat.le_refl _) (by omega) (fun i i1 i2 => ⟨b16.2.1 26 i (by unfold okK; omega), b16.2.1 27 i (by unfold okK; omega), b16.2.1 28 i ⟨by omega, fun _ => ⟨by omega, fun zz => by have := (nI_eq (a := i) (b := R1) (by omega) (by omega)).mp zz; omega⟩, by omega⟩, b16.2.1 29 i (by unfold okK; omega)⟩) t y (frT q0 t y (by omega) (fun i hi => by rw [hq]; intro zz; have := (nI_eq (a := i) (b := q0) (by omega) (by omega)).mp zz; omega) hkt)
                  · exact kdM_mono (τ := τ') hlo (Nat.le_refl _) (fun i _ _ => ⟨rfl, rfl, rfl, rfl⟩) _ z' c6
              · rw [show m + (k' - k) = (m + (k' - (k1 + 1))) + (k1 + 1 - k) by omega, hit, b18]
      · -- the last part
        refine ⟨(if w = -1 then nI x else x2), _, ?_, frKC_tr hfr1w (frW σ1 (nI x)) (Nat.le_refl _) (fun _ _ z => z), Or.inr ⟨k1, S1, R2, T1, x, (if w = -1 then z else R1), τ1, rfl, u2, fun la e hla => wW _ _ _ e hla, u3, u4, cW _ _ _ u5, by rw [gW]; exact u6, u7, u8, u9, q45, u10, ?_, ?_, ?_, u16, ?_, u17⟩⟩
        · rw [hbody, if_pos (nI_pos' (by omega)), c_sort hT u5, bi_some, if_neg q45, Pa_parseKind_46, if_pos rfl, h72, Pa_parseKind_93, if_pos rfl]
        · exact kdC_mono (σ := σ1) (Nat.le_refl _) (Nat.le_refl _) (fun i i1 i2 => ⟨hiW _ _ _ _ i1, hiW _ _ _ _ i1, hiW _ _ _ _ i1⟩) T1 x u11
        · rcases u15 with v | ⟨_, _, _, _, v, _⟩ | ⟨_, _, _, _, _, _, v, _⟩
          · rw [v.2.1]; exact u13
          · omega
          · omega
        · rcases u15 with v | ⟨w0, v0, v1, _, v, _⟩ | ⟨w0, _, v0, _, v1, _, v, _⟩
          · rw [v.2.1]; split <;> omega
          · have : w ≠ -1 := by rw [← e31, v1]; exact nI_m1 w0 (by omega)
            rw [if_neg this]; omega
          · have : w ≠ -1 := by rw [← e31, v1]; exact nI_m1 w0 (by omega)
            rw [if_neg this]; omega
        · rcases u15 with ⟨v1, v2, v3, v4⟩ | ⟨w0, v0, v1, v2, v3, v4, v5, v6, v7, v8, v9⟩ | ⟨w0, q0, v0, v00, v1, v2, v3, v4, v5, v6, v7, v8, v9, v10⟩
          · have hw : w = -1 := by rw [← e31]; exact v1
            rw [if_pos hw]
            exact Or.inl ⟨hw, v3, by rw [v2]; exact u12⟩
          · have hw : w = nI w0 := by rw [← e31]; exact v1
            have hq : q = -1 := by rw [← e32]; exact v2
            have hwn : w ≠ -1 := by rw [hw]; exact nI_m1 w0 (by omega)
            rw [if_neg hwn]
            have hkt : kdM τ lo R t w0 := by
              rcases hct with ⟨q1, _⟩ | ⟨y, q1, q2, q3, q4⟩ | ⟨w9, q0, y, q1, q2, q3, q4, q5, q6⟩
              · exact absurd q1 hwn
              · rw [hw] at q2
                have := (nI_eq (a := w0) (b := y) (by omega) (by omega)).mp q2
                subst this
                exact q4
              · rw [hq] at q5
                exact absurd q5.symm (nI_m1 q0 (by omega))
            refine Or.inr (Or.inl ⟨hwn, hq, v8, by omega, by omega, by omega, v4, v7, w0, z, v5, v6, ?_, ?_⟩)
            · exact kdM_mono (τ := τ) (Nat.le_refl _) (by omega) (fun i i1 i2 => ⟨u16.2.1 26 i (by unfold okK; omega), u16.2.1 27 i (by unfold okK; omega), u16.2.1 28 i ⟨by omega, fun _ => ⟨by omega, by rw [hq]; exact nI_m1 i (by omega)⟩, by omega⟩, u16.2.1 29 i (by unfold okK; omega)⟩) t w0 hkt
            · exact kdM_mono (τ := τ1) hlo (by omega) (fun i _ _ => ⟨rfl, rfl, rfl, rfl⟩) T1 z u12
          · have hw : w = nI w0 := by rw [← e31]; exact v1
            have hq : q = nI q0 := by rw [← e32]; exact v2
            have hwn : w ≠ -1 := by rw [hw]; exact nI_m1 w0 (by omega)
            rw [if_neg hwn]
            obtain ⟨y, hqR, hloq, hy28, hkt⟩ : ∃ y, q0 < R ∧ lo ≤ q0 ∧ ga τ 28 q0 = nI y ∧ kdM τ lo q0 t y := by
              rcases hct with ⟨q1, _⟩ | ⟨y, q1, q2, q3, q4⟩ | ⟨w9, q9, y, q1, q2, q3, q4, q5, q6, q7⟩
              · exact absurd q1 hwn
              · rw [hq] at q3
                exact absurd q3 (nI_m1 q0 (by omega))
              · rw [hq] at q5
                have := (nI_eq (a := q0) (b := q9) (by omega) (by omega)).mp q5
                subst this
                exact ⟨y, q2, q3, q6, q7⟩
            refine Or.inr (Or.inr ⟨q0, hwn, hqR, hq, by rw [v9, hw], v8, by omega, by omega, v4, v7, y, z, by rw [v5, hy28], v6, ?_, ?_⟩)
            · exact kdM_mono (τ := τ) (Nat.le_refl _) (by omega) (fun i i1 i2 => ⟨u16.2.1 26 i (by unfold okK; omega), u16.2.1 27 i (by unfold okK; omega), u16.2.1 28 i ⟨by omega, fun _ => ⟨by omega, by rw [hq]; intro zz; have := (nI_eq (a := i) (b := q0) (by omega) (by omega)).mp zz; omega⟩, by omega⟩, u16.2.1 29 i (by unfold okK; omega)⟩) t y hkt
            · exact kdM_mono (τ := τ1) hlo (by omega) (fun i _ _ => ⟨rfl, rfl, rfl, rfl⟩) T1 z u12
end PK
