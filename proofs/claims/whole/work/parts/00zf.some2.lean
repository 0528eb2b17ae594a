/-! Both readers side by side: a some from its first token. Own text. -/
theorem nd_lt {τ : zS} {pr me : Int32} {lo hi : Nat} : ∀ (t : TE) (n : Nat) (As : List AE), nd τ pr me lo hi t n As → lo ≤ n ∧ n < hi
  | .var _, _, _, h => ⟨h.1, h.2.1⟩
  | .op (.op (.var 0) _) _, _, _, h => ⟨h.1, h.2.1⟩
  | .op (.op (.var 1) _) _, _, _, h => ⟨h.1, h.2.1⟩
  | .op (.op (.var 2) (.var _)) _, _, _, h => ⟨h.1, h.2.1⟩
  | .op (.op (.var 3) (.var _)) t, n, As, h => nd_lt t n As h
section J
variable {F : Nat} {B : Nat → Int32} {n c X N0 : Nat} {h : Int32} {σ τ : zS} {k M s N a L : Nat}
/-- a token that begins no one -/
theorem c_one0 (hT : tEnd B n c) (hC : cS B n c X σ k M s) (hst : ¬ stO (tkS B n k)) (rT : zS → Int32 → Option (Int32 × zS)) (x : Int32) : ∃ σ', Pa_parseOne_m F rT σ x = some (0, σ') ∧ gi σ' 200 = 1 ∧ gi σ' 201 = nI (tkP B n k) ∧ frC X M s σ σ' := by
  obtain ⟨σ', t1, t2⟩ := c_misfit (F := F) hT hC
  refine ⟨σ', ?_, t2⟩
  unfold stO at hst
  rw [Pa_parseOne_m, c_sort hT hC, bi_some, c_start hT hC, bi_some, if_neg (fun z => hst (Or.inl z)), if_neg (fun z => hst (Or.inr (Or.inl z))), if_neg (fun z => hst (Or.inr (Or.inr (Or.inl z)))), if_neg (fun z => hst (Or.inr (Or.inr (Or.inr z)))), t1, bi_some]
  rfl
theorem c_some_m (hT : tEnd B n c) (hX : isRow X = true) (hC : cS B n c X σ k M s) (rO : zS → Int32 → Option (Int32 × zS)) (x : Int32) : Pa_parseSome_m F rO σ x = Pa_parseSome_32 F rO σ x (nI s) (nI M) (if tkS B n k = 2 then 1 else 0) := by
  rw [Pa_parseSome_m, hC.2.2.2.2.1, gd_t hX, c_sort hT hC, bi_some, hC.2.2.2.2.2.1, hC.2.2.2.2.2.2.1]
  split <;> rfl
theorem c_some0 (hT : tEnd B n c) (hX : isRow X = true) (hC : cS B n c X σ k M s) (hst : ¬ stO (tkS B n k)) (rT : zS → Int32 → Option (Int32 × zS)) (x : Int32) : ∃ σ', Pa_parseSome_m F (Pa_parseOne_m F rT) σ x = some (0, σ') ∧ gi σ' 200 = 1 ∧ gi σ' 201 = nI (tkP B n k) ∧ frC X M s σ σ' := by
  obtain ⟨σ', t1, t2⟩ := c_one0 (F := F) hT hC hst rT x
  refine ⟨σ', ?_, t2⟩
  rw [c_some_m hT hX hC, Pa_parseSome_32, t1, bi_some, if_pos rfl]
theorem some_ok (hT : tEnd B n c) (hX : isRow X = true) (hF : 1300 ≤ F) (hN0 : N0 ≤ 500) (hL : L ≤ 8) (hh3 : ¬ (L = 0 ∧ h = 3)) {rT : zS → Int32 → Option (Int32 × zS)} (hO : ∀ σ τ k M s N a, JR B n c X N0 σ τ k M s N a L → stO (tkS B n k) → lvO τ L → OneR F B n c X N0 h σ τ k M s N a L (Pa_parseOne_m F rT σ (nI L))) (hJ : JR B n c X N0 σ τ k M s N a L) {x hd bh sp w la wp : Int32} (hv : lvM τ L x hd bh sp w la wp) (hx : x < 0) : ∃ r σ', Pa_parseSome_m F (Pa_parseOne_m F rT) σ (nI L) = some (r, σ') ∧ frC X M s σ σ' ∧ (badR F B n c X N0 h τ k M s N a L r σ' ∨ (r = 1 ∧ stO (tkS B n k) ∧ SomeG F B n c X N0 h τ k L k M s N a (gi τ 32) (gi τ 67) w la (if wp < 0 then nI (tkP B n k) else wp) (gi σ 606) σ')) := by
  have hB := hT.1
  have hc := tE_c hT
  have hJ0 := hJ
  obtain ⟨hC, hMs, hne, hme, hmb, hs2, hN, ha, how⟩ := hJ
  have h8 := (m_flt hMs hne).1
  by_cases hst : stO (tkS B n k)
  · have hk := tEnd_s hT hC.2.1 (show tkS B n k ≠ 1 by intro z; rw [z] at hst; rcases hst with q | q | q | q <;> exact absurd q (by decide))
    obtain ⟨r, σ1, e1, fr1, res⟩ := hO σ τ k M s N a hJ0 hst (Or.inl (by rw [hv.1]; exact hx))
    obtain ⟨x4, hx4⟩ : ∃ x4 : Int32, x4 = if tkS B n k = 2 then 1 else 0 := ⟨_, rfl⟩
    have hw : x4 = 0 ∨ x4 = 1 := by rw [hx4]; split; exact Or.inr rfl; exact Or.inl rfl
    have hcl : Pa_parseSome_m F (Pa_parseOne_m F rT) σ (nI L) = if r = 0 then some ((0 : Int32), σ1) else Pa_parseSome_50 F (Pa_parseOne_m F rT) F σ1 (nI L) (nI s) (nI M) x4 0 0 := by
      rw [c_some_m hT hX hC, Pa_parseSome_32, e1, bi_some, ← hx4]
    rcases res with ⟨f, p, τ', hf, hdm, hfl, hro⟩ | ⟨hr1, k', M', s', N', a', t, As, nn, τ1, g1, g2, g3, gJ, gfr, gok, gisR, gs, ga', gA, gN, gN2, grw, gnd, gac, gpl, gle, gMe2, gbig, gro⟩
    · rcases hdm with ⟨d1, d2, d3⟩ | ⟨d1, d2, kb, Mb, sb, dC, ds1, ds2, dM1, dM2, dS, dp⟩
      · subst d1
        exact ⟨0, σ1, by rw [hcl, if_pos rfl], fr1, Or.inl ⟨f, p, τ', hf, Or.inl ⟨rfl, d2, d3⟩, hfl, hro⟩⟩
      · subst d1 d2
        obtain ⟨m, rfl⟩ : ∃ m', F = m' + 1 := ⟨F - 1, by omega⟩
        -- the count at the head does not matter here
        have h84 : ∃ σ2, Pa_parseSome_84 (m + 1) (Pa_parseOne_m (m + 1) rT) σ1 (nI s) (nI M) x4 0 = some (1, σ2) ∧ cS B n c X σ2 kb Mb sb ∧ frC X M s σ1 σ2 := by
          have e0 : ma σ1 (rA X 2) s + 0 = ma σ1 (rA X 2) s := by simp
          have cs : (nI s).toNatClampNeg = s := nI_clamp (by omega)
          have hgr : gr σ1 605 = X := dC.2.2.2.2.1
          have hsame : ta σ1 (rA X 2) s (ma σ1 (rA X 2) s) = σ1 := by
            unfold ta tA
            have : fu σ1.2.2.2.2.2.2.1 (rA X 2) (upd (ma σ1 (rA X 2)) s (ma σ1 (rA X 2) s)) = σ1.2.2.2.2.2.2.1 := by
              funext j
              unfold fu
              split
              · rename_i q
                funext i
                rw [up_at]
                split
                · rename_i q2
                  rw [q, q2]
                  rfl
                · rw [q]; rfl
              · rfl
            rw [this]
          have e84 : Pa_parseSome_84 (m + 1) (Pa_parseOne_m (m + 1) rT) σ1 (nI s) (nI M) x4 0 = if x4 = 0 then Pa_parseSome_113 (m + 1) (Pa_parseOne_m (m + 1) rT) σ1 else bv (Me_setValue (m + 1) σ1 (nI M) 0) (fun σ4 => Pa_parseSome_113 (m + 1) (Pa_parseOne_m (m + 1) rT) σ4) := by
            rw [Pa_parseSome_84, hgr, gd_t hX, gd_t (inb_nI (by omega) (by omega)), cs, e0, hsame]
          rcases hw with z | z
          · refine ⟨σ1, by rw [e84, if_pos z]; rfl, dC, frC_rfl _ _ _ _⟩
          · rcases Nat.lt_or_ge M Mb with q | q
            · obtain ⟨σ2, f1, f2, f3, _⟩ := c_setVal (F := m + 1) dC dM2 q 0
              exact ⟨σ2, by rw [e84, if_neg (by rw [z]; decide), f1, bv_some]; rfl, f2, frC_tr (frC_rfl X M s σ1) f3 (Nat.le_refl _) (by omega)⟩
            · exact ⟨σ1, by rw [e84, if_neg (by rw [z]; decide), c_setVal0 dC q (by omega), bv_some]; rfl, dC, frC_rfl _ _ _ _⟩
        obtain ⟨σ2, f1, f2, f3⟩ := h84
        refine ⟨1, σ2, ?_, frC_tr fr1 f3 (Nat.le_refl _) (Nat.le_refl _), Or.inl ⟨1, p, τ', hf, Or.inr ⟨rfl, rfl, kb, Mb, sb, f2, ds1, ds2, dM1, dM2, dS, dp⟩, hfl, hro⟩⟩
        rw [hcl, if_neg (by decide)]
        show Pa_parseSome_b50 (m + 1) (Pa_parseOne_m (m + 1) rT) (Pa_parseSome_50 (m + 1) (Pa_parseOne_m (m + 1) rT) m) σ1 (nI L) (nI s) (nI M) x4 0 0 = _
        rw [Pa_parseSome_b50, if_neg (by decide), (c_starts hT dC).2 (by rw [dS]; unfold stO; decide), bi_some, if_pos rfl, f1]
    · subst hr1
      obtain ⟨jC, jM, jne, jme, jmb, js, jN, ja, jow⟩ := gJ
      obtain ⟨jZ, jcu⟩ := mS_Z jM
      have hln : 0 < lnT t := by unfold lnT; omega
      have lv1 : lvM τ1 L x hd bh sp w la wp := by
        obtain ⟨v1, v2, v3, v4, v5, v6, v7⟩ := hv
        have q := gfr.2.1
        exact ⟨(q 19 L (by unfold okM; omega)).trans v1, (q 20 L (by unfold okM; omega)).trans v2, (q 21 L (by unfold okM; omega)).trans v3, (q 22 L (by unfold okM; omega)).trans v4, (q 23 L (by unfold okM; omega)).trans v5, (q 24 L (by unfold okM; omega)).trans v6, (q 25 L (by unfold okM; omega)).trans v7⟩
      obtain ⟨τ2, a1, aZ, ai, al, afr, alv, age, agb, l17, l18⟩ := m_add1 (F := F) jZ (by omega) lv1 hx (nI nn) (if tkS B n k = 2 then nI M else -1) (nI (tkP B n k))
      have jM2 : mS B n τ2 k' M' s' N' a' L := mZ_S aZ (curT_of jcu (ai 3) (ai 4) (ai 5) (ai 7) (ai 8) (ai 9) (al 6))
      have hmeS : ∀ i, i < M' → meR σ1 τ2 i := by
        intro i hi
        have q := jme i hi
        unfold meR at q ⊢
        rw [age 10 (by omega), agb 11, age 12 (by omega), age 13 (by omega), age 15 (by omega), age 16 (by omega)]
        exact q
      have frt : frM L N a M τ τ2 := frM_tr (frM_tr (frM_rfl L N a M τ) gfr (Nat.le_succ _) (Nat.le_refl _) (Nat.le_refl _) (Nat.le_refl _)) (afr N a M) (Nat.le_refl _) (Nat.le_refl _) (Nat.le_refl _) (Nat.le_refl _)
      have hJ2 : JR B n c X N0 σ1 τ2 k' M' s' N' a' L := ⟨jC, jM2, jne, hmeS, jmb, js, jN, ja, ownR_fr fr1 frt how⟩
      have hro2 : ∀ m, Md_readOpen_10 F (m + (k' - k)) τ h = Md_readOpen_10 F m τ2 h := fun m => gro m τ2 a1
      have e32 : gi τ2 32 = gi τ 32 := frt.1 32 (by unfold exM; omega)
      have e67 : gi τ2 67 = gi τ 67 := frt.1 67 (by unfold exM; omega)
      have nlow : ∀ i, ga τ2 2 i = ga τ1 2 i ∧ gb τ2 3 i = gb τ1 3 i ∧ ga τ2 4 i = ga τ1 4 i ∧ ga τ2 5 i = ga τ1 5 i := fun i => ⟨by rw [age 2 (by omega)], by rw [agb], by rw [age 4 (by omega)], by rw [age 5 (by omega)]⟩
      have ndt : nd τ2 (gi τ 32) (gi τ 67) N N' t nn As := nd_mono (τ := τ1) (Nat.le_refl _) (Nat.le_refl _) (fun i _ _ => nlow i) t nn As gnd
      have hnn : nn < N' := (nd_lt t nn As ndt).2
      obtain ⟨r, σ', q1, q2, q3⟩ := some_loop (h := h) hT hX hF hN0 hL hh3 hO (k0 := k) (M0 := M) (s0 := s) (Ns := N) (as := a) (pr := gi τ 32) (me := gi τ 67) (w := w) (la := la) (wp := if wp < 0 then nI (tkP B n k) else wp) (ow := gi σ 606) hx4 (c - k') F k' M' s' N' a' 0 σ1 τ2 t nn As (hdT t) rfl (by omega) hJ2 g3 e32 e67 gok gisR gs ga' gA gN gN2 (by rfl) grw ndt (acL_fr As a (fun j j1 j2 => ⟨by rw [age 7 (by omega)], by rw [age 8 (by omega)], by rw [age 9 (by omega)]⟩) gac) gpl gle gMe2 (fr1.1 606 (by decide) (by decide) (by decide) (by decide)) (by omega) alv (fun z => by
          obtain ⟨z1, z2, z3, z4⟩ := gbig z
          exact ⟨⟨z1.1, z1.2⟩, by rw [age 15 (by omega)]; exact z2⟩) (by omega)
      refine ⟨r, σ', by rw [hcl, if_neg (by decide)]; exact q1, frC_tr fr1 q2 (Nat.le_refl _) (Nat.le_refl _), ?_⟩
      rcases q3 with ⟨f, p, τ', u1, u2, u3, u4⟩ | ⟨u0, kf, Mf, sf, Nf, af, tf, Asf, nnf, bf, τf, u1, u2, u3, u4, u5, u6, u7, u8, u9, u10, u11, u12, u13, u14, u15, u16, u17, u18, u19, u20, u21, u22, u23, u24, u25, v0, v1, v2, u26, u27, u28, u29, u30⟩
      · left
        refine ⟨f, p, τ', u1, u2, flM_tr frt u3 (Nat.le_refl _) (Nat.le_refl _) (Nat.le_refl _) (Nat.le_refl _), fun m => ?_⟩
        rw [show m + (c + 2 - k) = (m + (c + 2 - k')) + (k' - k) by omega, hro2, u4]
      · right
        refine ⟨u0, hst, kf, Mf, sf, Nf, af, tf, Asf, nnf, bf, τf, by omega, u2, u3, u4, u5, u6, u7, u8, u9, u10, u11, u12, u13, u14, u15, u16, u17, u18, u19, u20, u21, u22, u23, u24, u25, v0, v1, v2, u26, frM_tr frt u27 (Nat.le_refl _) (Nat.le_refl _) (Nat.le_refl _) (Nat.le_refl _), ?_, ?_, fun m => ?_⟩
        · rw [u28, l17, gfr.2.1 17 L (by unfold okM; omega)]
        · rw [u29, l18, gfr.2.1 18 L (by unfold okM; omega)]
        · rw [show m + (kf - k) = (m + (kf - k')) + (k' - k) by omega, hro2, u30]
  · -- nothing that begins a one
    obtain ⟨σ', t1, t2, t3, t4⟩ := c_some0 (F := F) hT hX hC hst rT (nI L)
    obtain ⟨w1, w2⟩ := m_wrong (F := F) (L := L) (N := N) (a := a) (M := M) h8 (f := 1) (p := nI (tkP B n k)) (by decide)
    have hk := hC.2.1
    refine ⟨0, σ', t1, t4, Or.inl ⟨1, tkP B n k, _, by decide, Or.inl ⟨rfl, t2, t3⟩, ⟨w2, by simp [zs], by simp [zs], ⟨a, by omega, by simp [zs, hMs.2.2.2.2.2.2.1]⟩, N, by omega, by simp [zs, hMs.2.2.2.2.2.1]⟩, fun m => ?_⟩⟩
    have hcan : Md_cannot F τ = some (si (si τ 8 1) 9 (nI (tkP B n k))) := by
      rw [Md_cannot, (m_flt hMs hne).2.2.1, w1, bv_some]
    have h42 := hMs.2.2.2.2.2.2.2.1
    rw [show m + (c + 2 - k) = (m + (c - k) + 1) + 1 by omega, ro_it _ _ h8 (hh_it hMs hL (fun z => hh3 ⟨z.1, z.2.1⟩)), Md_readOpen_55, (m_canB hB hMs hne).2 hst, bi_some, if_pos rfl, h42, gd_t (inb_nI (by omega) (by omega)), nI_clamp (by omega), hv.1, if_neg (show ¬ 0 ≤ x by rw [Int32.le_iff_toInt_le]; rw [Int32.lt_iff_toInt_lt] at hx; omega), hcan, bv_some, ro_end _ _ (by simp [zs])]
end J
