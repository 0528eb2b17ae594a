/-! All groups in both. Own text. -/
section A
variable {F : Nat} {D M N S R K : Nat} {TL : List TR} {Nn : Nat → Nat → Bool}
theorem GK_tx {σ τ τ' : zS} {G H : SG} {k : Nat} (h : GK σ τ G H Nn D M N TL S R k) (hs : sx [71] [48] τ τ') : GK σ τ' G H Nn D M N TL S R k := by
  obtain ⟨h1, h2, h3, h4, h5, h6, h7, h8, h9, h10, h11, h12, h13, h14, h15, h16⟩ := h
  refine ⟨TS_cg h1 ⟨fun _ _ => rfl, fun _ _ => rfl, fun _ _ => rfl, fun _ _ _ => rfl, fun _ _ _ => rfl, fun _ => rfl⟩ (trS_sx hs (by decide) (by decide)), h2, MS_sx hs (by decide) (by decide) (by decide) (by decide) (by decide) h3, h4, h5, h6, h7, (hs.1 8 (by decide)).trans h8, h9, fun y hy => ?_, h11, fun i hi hr => ?_, h13, ?_, h15, h16⟩
  · unfold dPr
    rw [hs.2.1 49 (by decide), hs.2.1 50 (by decide), hs.2.1 52 (by decide)]
    exact h10 y hy
  · rw [hs.2.1 44 (by decide)]; exact h12 i hi hr
  · rw [lfG_cg (hs.2.1 2 (by decide)) (hs.2.1 4 (by decide))]; exact h14
theorem GK_c0 {σ σ' τ τ' : zS} {G H : SG} (h : GK σ τ G H Nn D M N TL S R 0) (hs : sx [101, 200, 201, 412] [36, 37, 38, 39, 48] σ σ') (h200 : gi σ' 200 = 0) (ht : sx [8, 9, 71] [46, 47, 48] τ τ') (h8 : gi τ' 8 = 0) : GK σ' τ' G H Nn D M N TL S R 0 := by
  obtain ⟨h1, h2, h3, h4, h5, ⟨lo, h6⟩, h7, _, h9, h10, h11, h12, h13, h14, h15, h16⟩ := h
  have dn0 : ∀ y, dnK Nn D 0 y = false := by
    intro y
    show (decide (y < D) && (none : Option Nat).isSome) = false
    simp
  have hfr : frS σ σ' := by
    exact ⟨fun r hr => hs.1 r (fun z => hr ((show ∀ r, r ∈ [101, 200, 201, 412] → r ∈ [101, 200, 201, 306, 307, 308, 309, 310, 412, 807, 811, 814, 815] from by decide) r z)), fun a ha => hs.2.1 a (fun z => ha ((show ∀ a, a ∈ [36, 37, 38, 39, 48] → a ∈ [23, 24, 25, 26, 27, 28, 35, 36, 37, 38, 39, 40, 41, 42, 48, 49, 50, 51, 52, 53, 54, 56] from by decide) a z)), fun b _ => sx_gb hs b, fun j _ _ => by rw [sx_mi hs], fun a _ _ => by rw [sx_ma hs], fun a => sx_mb hs a⟩
  refine ⟨TS_cg h1 hfr (trS_sx ht (by decide) (by decide)), CS_sx hs (by decide) (by decide) (by decide) (by decide) h2, MS_sx ht (by decide) (by decide) (by decide) (by decide) (by decide) h3, h4, h5, ⟨lo, (hs.1 307 (by decide)).trans h6.1, h6.2⟩, h200, h8, h9, fun y hy => ?_, fun y hy hn => ?_, fun i hi hr => ?_, h13, ?_, h15, h16.1, fun o t nn As me _ hd => by rw [dn0] at hd; cases hd⟩
  · rw [dn0] at hy; cases hy
  · rw [hs.2.1 35 (by decide)]; exact h11 y hy hn
  · rw [hs.2.1 43 (by decide)] at hr
    have ec : c4 σ' i = c4 σ i := c4_fr i (fun j _ => by rw [hs.2.1 43 (by decide)])
    rw [hs.2.1 47 (by decide), ec, ht.2.1 44 (by decide)]
    exact h12 i hi hr
  · rw [lfG_cg (ht.2.1 2 (by decide)) (ht.2.1 4 (by decide))]; exact h14
/-- what the class holds of its groups -/
def grS (σ : zS) (Nn : Nat → Nat → Bool) (D K : Nat) : Prop := gi σ 412 = nI K ∧ ∀ l, l < K → ∃ i, ld Nn D l = some i ∧ mS1 (ga σ 39 l) (fun j => decide (j < D) && tg Nn i j)
theorem sl_all (hF : 20000 ≤ F) (hKD : K ≤ D) (hD : D ≤ 16) (hNone : ld Nn D K = none) (htr : ∀ i k j, Nn i k = true → Nn k j = true → Nn i j = true) : ∀ (d f f' k : Nat) (σ τ : zS) (G H : SG), k + d = K → d < f → D + 2 ≤ f' + k → Nn = cw (nbA σ D M) D → GK σ τ G H Nn D M N TL S R k → grS σ Nn D K → gR τ D (gS Nn D k) → gi τ 71 = nI k → rwR τ 46 Nn → ∃ σ' τ', So_solveText_2 F f σ (nI k) = some σ' ∧ Md_solveAll_30 F f' τ (nI k) = some τ' ∧ frGC σ σ' ∧ ((∃ G' H', GK σ' τ' G' H' Nn D M N TL S R K ∧ gi σ' 201 = gi σ 201 ∧ sx [48, 71] [6, 26, 27, 28, 29, 30, 48, 49, 50, 51, 52, 53, 54] τ τ' ∧ gR τ' D (gS Nn D K) ∧ gi τ' 71 = nI K) ∨ (six σ' τ' ∧ (∃ G', CS σ' G' ∧ noO G' ∧ gi σ' 307 = nI (gn G') ∧ gn G' ≤ 1113) ∧ sx [8, 9, 10, 48, 71, 79, 80] [6, 26, 27, 28, 29, 30, 48, 49, 50, 51, 52, 53, 54] τ τ' ∧ knd τ' 3000)) := by
  intro d
  induction d with
  | zero =>
    intro f f' k σ τ G H hk hf hf' hN h hg hR h71 hrw
    obtain ⟨f, rfl⟩ : ∃ f2, f = f2 + 1 := ⟨f - 1, by omega⟩
    obtain rfl : k = K := by omega
    have h52 : gi τ 52 = nI D := h.1.1.1.2.1
    refine ⟨σ, τ, ?_, ?_, ⟨fun _ _ => rfl, fun _ _ => rfl, fun _ _ => rfl, fun _ => rfl, fun _ => rfl, fun _ _ _ => rfl, fun _ _ _ => rfl, fun _ => rfl⟩, Or.inl ⟨G, H, h, rfl, sx_rfl _ _ _, hR, h71⟩⟩
    · rw [So_solveText_2, So_solveText_b2, hg.1, if_pos (nI_le (Nat.le_refl _) (by omega))]; rfl
    · exact so_rest (F := F) (by omega) htr h52 hD hrw hKD hR h.2.2.2.2.2.2.2.1 hNone (D - k) f' k (by omega) (by omega)
  | succ d ih =>
    intro f f' k σ τ G H hk hf hf' hN h hg hR h71 hrw
    obtain ⟨f, rfl⟩ : ∃ f2, f = f2 + 1 := ⟨f - 1, by omega⟩
    obtain ⟨f', rfl⟩ : ∃ f2, f' = f2 + 1 := ⟨f' - 1, by omega⟩
    have h52 : gi τ 52 = nI D := h.1.1.1.2.1
    have h8 : gi τ 8 = 0 := h.2.2.2.2.2.2.2.1
    have h200 : gi σ 200 = 0 := h.2.2.2.2.2.2.1
    obtain ⟨i, hi, hx⟩ := hg.2 k (by omega)
    obtain ⟨gq, q1, q2⟩ := so_turn (F := F) (by omega) htr h52 hD hrw (k := k) (i := i) (by omega) hR h71 h8 hi f'
    have s48 : sx [71] [48] τ (sA τ 48 gq) := sx_sA (sx_rfl _ _ _) (by decide) _
    obtain ⟨σ1, τ1, r1, r2, r3, r4⟩ := round_ok (F := F) (x1 := ga σ 39 k) hF hN (GK_tx h s48) hi hx q2 (by omega)
    have eC : So_solveText_2 F (f + 1) σ (nI k) = So_solveText_2 F f σ1 (nI (k + 1)) := by
      rw [So_solveText_2, So_solveText_b2, hg.1, if_neg (nI_ge (by omega) (by omega)), fa_there, h200, if_pos rfl, bi_some]
      show (if (0 : Int32) = 0 then _ else _) = _
      rw [if_pos rfl, gd_t (inb_nI (by omega) (by omega)), nI_clamp (by omega), r1, nI_1]
    rw [eC, q1, r2, bv_some]
    rcases r4 with ⟨G1, H1, u1, u2, u3⟩ | ⟨u1, u2, u3, u4⟩
    · have h71' : gi τ1 71 = nI k := by rw [u3.1 71 (by decide)]; simp only [zs]; exact h71
      rw [h71', nI_1]
      have s71 : sx [71] [48] τ1 (si τ1 71 (nI (k + 1))) := sx_si (sx_rfl _ _ _) (by decide) _
      obtain ⟨σ', τ', v1, v2, v3, v4⟩ := ih f f' (k + 1) σ1 (si τ1 71 (nI (k + 1))) G1 H1 (by omega) (by omega) (by omega) (by
          rw [hN]
          congr 1
          funext a b
          exact (nbA_cg (r3.2.1 43 (by decide)) (r3.2.1 46 (by decide)) (r3.2.1 29 (by decide)) (r3.2.2.1 44 (by decide)) (r3.2.2.1 30 (by decide)) M a b).symm) (GK_tx u1 s71) ⟨(r3.1 412 (by decide)).trans hg.1, fun l hl => by rw [r3.2.1 39 (by decide)]; exact hg.2 l hl⟩ (fun y hy => by
          show ga (si τ1 71 (nI (k + 1))) 48 y = _
          simp only [zs]
          rw [u3.2.1 48 (by decide)]
          exact q2 y hy) (by simp [zs]) (fun a b ha hb => by
          simp only [zs]
          rw [u3.2.1 46 (by decide)]
          have : ga (sA τ 48 gq) 46 = ga τ 46 := by simp only [zs]; rfl
          rw [this]
          exact hrw a b ha hb)
      have sT : sx [48, 71] [6, 26, 27, 28, 29, 30, 48, 49, 50, 51, 52, 53, 54] τ (si τ1 71 (nI (k + 1))) := sx_si (sx_tr (sx_mono (by decide) (by decide) s48) (sx_mono (by decide) (by decide) u3)) (by decide) _
      refine ⟨σ', τ', v1, v2, frGC_tr r3 v3, ?_⟩
      rcases v4 with ⟨G2, H2, w1, w2, w3, w4, w5⟩ | ⟨w1, w2, w3, w4⟩
      · exact Or.inl ⟨G2, H2, w1, w2.trans u2, sx_tr sT w3, w4, w5⟩
      · exact Or.inr ⟨w1, w2, sx_tr (sx_mono (by decide) (by decide) sT) w3, w4⟩
    · have h8' : gi τ1 8 = 6 := by obtain ⟨_, _, _, _, _, _, _, w, _⟩ := u1; exact w
      have h200' : gi σ1 200 = 6 := by obtain ⟨_, _, _, _, _, w, _⟩ := u1; exact w
      obtain ⟨f, rfl⟩ : ∃ f2, f = f2 + 1 := ⟨f - 1, by omega⟩
      obtain ⟨f', rfl⟩ : ∃ f2, f' = f2 + 1 := ⟨f' - 1, by omega⟩
      obtain ⟨τ2, hτ2⟩ : ∃ s, s = si τ1 71 (gi τ1 71 + 1) := ⟨_, rfl⟩
      have s71 : sx [71] [] τ1 τ2 := by rw [hτ2]; exact sx_si (sx_rfl _ _ _) (by decide) _
      rw [← hτ2]
      refine ⟨σ1, τ2, ?_, so_flt (F := F) (by omega) (by rw [s71.1 8 (by decide), h8']; decide) f' _, r3, Or.inr ⟨?_, u2, sx_tr (sx_mono (by decide) (by decide) s48) (sx_tr (sx_mono (by decide) (by decide) u3) (sx_mono (by decide) (by decide) s71)), by obtain ⟨R4, k1, k2⟩ := u4; exact ⟨R4, (s71.1 48 (by decide)).trans k1, k2⟩⟩⟩
      · have ft : Fa_isThere F σ1 = some (1, σ1) := by rw [Fa_isThere, h200', if_neg (by decide)]; rfl
        rw [So_solveText_2, So_solveText_b2, ft, bi_some]
        split
        · rfl
        · rfl
      · obtain ⟨p, Hx, x, y, dd, x1, x2, x3, x4, x5, x6, x7, x8, x9, x10, x11, x12, x13, x14, x15⟩ := u1
        exact ⟨p, Hx, x, y, dd, x1, x2, (s71.1 8 (by decide)).trans x3, (s71.1 9 (by decide)).trans x4, (s71.1 10 (by decide)).trans x5, MS_sx s71 (by decide) (by decide) (by decide) (by decide) (by decide) x6, x7, x8, (s71.1 79 (by decide)).trans x9, (s71.1 80 (by decide)).trans x10, x11, x12, x13, x14, x15⟩
end A
