/-! Both readers side by side: a one in brackets. Own text. -/
section J
variable {F : Nat} {B : Nat → Int32} {n c X N0 : Nat} {h : Int32} {σ τ : zS} {k M s N a L : Nat}
theorem c_spot {s' : Nat} (hC : cS B n c X σ k M s') (p : Nat) : cS B n c X (ta σ (rA X 3) s (nI p)) k M s' ∧ frC X M s σ (ta σ (rA X 3) s (nI p)) := by
  obtain ⟨h1, h2, h3, h4, h5, h6, h7, h8⟩ := hC
  refine ⟨⟨by simp [zs, h1], h2, by simp [zs, h3], by simpa [zs] using h4, by simp [zs, h5], by simp [zs, h6], by simp [zs, h7], by simp [zs, h8]⟩, fun j _ _ _ _ => by simp [zs], fun j i _ => by simp [zs], fun j => by simp [zs], fun j i _ => by simp [zs], fun j => by simp [zs], fun j _ => by simp [zs], fun j i hji => ?_, fun j i _ => by simp [zs]⟩
  simp only [at_sa]
  have r3 : rA X 3 = rA X 0 + 3 := by unfold rA; omega
  rw [if_neg (by omega)]
theorem c_spotL {e : QE} {l : List QE} (hr : rwL σ X s (e :: l)) (p : Nat) : rwL (ta σ (rA X 3) s (nI p)) X s ((e.1, e.2.1, e.2.2.1, p) :: l) := by
  obtain ⟨⟨g1, g2, g3, g4⟩, g5⟩ := hr
  have n03 : rA X 0 ≠ rA X 3 := rA_ne (by decide)
  have n23 : rA X 2 ≠ rA X 3 := rA_ne (by decide)
  refine ⟨⟨?_, ?_, ?_, ?_⟩, rwL_fr l (s + 1) (fun j j1 j2 => ?_) g5⟩
  · simp only [at_sa]; rw [if_neg (fun z => n03 z.1)]; exact g1
  · simp only [at_sa]; exact g2
  · simp only [at_sa]; rw [if_neg (fun z => n23 z.1)]; exact g3
  · simp only [at_sa, and_self, if_true]
  · simp only [at_sa]
    rw [if_neg (by omega), if_neg (by omega), if_neg (by omega)]
    refine ⟨?_, ?_, ?_, ?_⟩ <;> first | rfl | trivial
theorem one_brk (hT : tEnd B n c) (hX : isRow X = true) (hF : 1300 ≤ F) (hN0 : N0 ≤ 500) (hJ : JR B n c X N0 σ τ k M s N a L) (hL : L ≤ 8) (hs : tkS B n k = 40 ∨ tkS B n k = 91) (hv : lvO τ L) (hh : ¬ (L = 0 ∧ h = 3 ∧ ¬ ga τ 19 0 < 0)) (rT : zS → Int32 → Option (Int32 × zS))
    (hTy : L < 8 → ∀ σ τ k M s N a, JR B n c X N0 σ τ k M s N a (L + 1) → ga τ 19 (L + 1) = -1 → ga τ 23 (L + 1) = -1 → ga τ 24 (L + 1) = -1 → ga τ 25 (L + 1) = -1 → TyR F B n c X N0 h σ τ k M s N a (L + 1) (rT σ (nI (L + 1))))
    (hBad : L < 8 → ∀ σ k M s, cS B n c X σ k M s → tkS B n k = 0 → ∃ σ', rT σ (nI (L + 1)) = some (0, σ') ∧ gi σ' 200 = 1 ∧ gi σ' 201 = nI (tkP B n k) ∧ frC X M s σ σ') : OneR F B n c X N0 h σ τ k M s N a L (Pa_parseOne_m F rT σ (nI L)) := by
  have hB := hT.1
  have hc := tE_c hT
  have hJ0 := hJ
  obtain ⟨hC, hM, hne, hme, hmb, hs2, hN, ha, how⟩ := hJ
  have hk := tEnd_s hT hC.2.1 (show tkS B n k ≠ 1 by rcases hs with q | q <;> rw [q] <;> decide)
  have h8 := (m_flt hM hne).1
  have hit := fun m => ro_it (F := F) m h h8 (hh_it hM hL hh)
  have hcl : Pa_parseOne_m F rT σ (nI L) = Pa_parseOne_103 F rT σ (nI L) (tkS B n k) (nI (tkP B n k)) := by
    rw [Pa_parseOne_m, c_sort hT hC, bi_some, c_start hT hC, bi_some]
    rcases hs with q | q
    · rw [if_neg (by rw [q]; decide), if_neg (by rw [q]; decide), if_pos q]
    · rw [if_neg (by rw [q]; decide), if_neg (by rw [q]; decide), if_neg (by rw [q]; decide), if_pos q]
  have hgr : gr σ 605 = X := hC.2.2.2.2.1
  have hms : mi σ (100 * X + 4) = nI s := hC.2.2.2.2.2.1
  have hn2 : ¬ tkS B n k = 2 := by rcases hs with q | q <;> rw [q] <;> decide
  -- a fault 2 of both, at the bracket
  have full : (L = 8 ∨ (tkS B n k = 91 ∧ s = 200)) → (∃ σ', Pa_parseOne_m F rT σ (nI L) = some (0, σ') ∧ gi σ' 200 = 2 ∧ gi σ' 201 = nI (tkP B n k) ∧ frC X M s σ σ') → OneR F B n c X N0 h σ τ k M s N a L (Pa_parseOne_m F rT σ (nI L)) := by
    intro hx hσ
    obtain ⟨σ', t1, t2, t3, t4⟩ := hσ
    obtain ⟨τ', t5, t6⟩ := m_open0 (F := F) (N0 := N0) hB hM hs hL hs2 hx (by omega) (by omega)
    refine ⟨0, σ', t1, t4, Or.inl ⟨2, tkP B n k, τ', by decide, Or.inl ⟨rfl, t2, t3⟩, flM_tr (frM_rfl L N a M τ) t5 (Nat.le_succ _) (Nat.le_refl _) (Nat.le_refl _) (Nat.le_refl _), ?_⟩⟩
    intro m
    rw [show m + (c + 2 - k) = (m + (c - k)) + 1 + 1 by omega, hit, t6, ro_end _ _ (by rw [t5.2.1]; decide)]
  rcases Nat.lt_or_ge L 8 with qL | qL
  · by_cases qf : tkS B n k = 91 ∧ s = 200
    · refine full (Or.inr qf) ?_
      obtain ⟨q9, qs⟩ := qf
      subst qs
      obtain ⟨σ', t1, t2, t3, t4⟩ := c_tooMuch (F := F) hT hC
      refine ⟨σ', ?_, t2, t3, t4⟩
      rw [hcl, Pa_parseOne_103, if_pos (show nI L < (8 : Int32) from nI_lt (b := 8) qL (by omega)), hgr, gd_t hX, if_pos q9, c_roful hX hC, bi_some, if_pos rfl, t1, bi_some]
      rfl
    · have hs91 : tkS B n k = 91 → s < 200 := fun z => by
        rcases Nat.lt_or_ge s 200 with q | q
        · exact q
        · exact absurd ⟨z, by omega⟩ qf
      obtain ⟨τ1, frt, mS1, l17, l18, l19, l23, l24, l25, hstep⟩ := m_open (F := F) hB hF hM hs qL hs91
      obtain ⟨s1, hs1⟩ : ∃ s1, s1 = if tkS B n k = 91 then s + 1 else s := ⟨_, rfl⟩
      rw [← hs1] at mS1
      have hs1b : s ≤ s1 ∧ s1 ≤ s + 1 ∧ s1 ≤ 200 := by
        by_cases z : tkS B n k = 91
        · rw [if_pos z] at hs1; have := hs91 z; omega
        · rw [if_neg z] at hs1; omega
      -- the class as far as the inner type
      obtain ⟨σ1, C1, fr1, e1, rwB⟩ : ∃ σ1, cS B n c X σ1 k M s1 ∧ frC X M s σ σ1 ∧ Pa_parseOne_103 F rT σ (nI L) (tkS B n k) (nI (tkP B n k)) = Pa_parseOne_149 F rT σ1 (nI L) (tkS B n k) (nI (tkP B n k)) (nI s) ∧ (tkS B n k = 91 → rw1 σ1 X s (91, 0, 1, tkP B n k)) := by
        by_cases z : tkS B n k = 91
        · obtain ⟨σ1, e1, C1, fr1, w1, _⟩ := c_roadd (F := F) hX hC (hs91 z) 91 0 1 (tkP B n k)
          rw [if_pos z] at hs1
          subst hs1
          refine ⟨σ1, C1, fr1, ?_, fun _ => w1⟩
          rw [Pa_parseOne_103, if_pos (show nI L < (8 : Int32) from nI_lt (b := 8) qL (by omega)), hgr, gd_t hX, if_pos z, show (1 : Int32) = nI 1 from rfl, e1, bi_some, if_neg (by decide), hms]
        · rw [if_neg z] at hs1
          subst hs1
          refine ⟨σ, hC, frC_rfl _ _ _ _, ?_, fun z' => absurd z' z⟩
          rw [Pa_parseOne_103, if_pos (show nI L < (8 : Int32) from nI_lt (b := 8) qL (by omega)), hgr, gd_t hX, if_neg z, hms]
      obtain ⟨e2, C2, fr2⟩ := c_step (F := F) hT C1 (show tkS B n k ≠ 1 by rcases hs with q | q <;> rw [q] <;> decide)
      have fr12 : frC X M s σ (si σ1 106 (nI (k + 1))) := frC_tr fr1 fr2 (Nat.le_refl _) hs1b.1
      have hmb1 := mB_step hmb hk.2
      have hcl3 : Pa_parseOne_m F rT σ (nI L) = bi (rT (si σ1 106 (nI (k + 1))) (nI (L + 1))) (fun r4 σ3 => if r4 = 0 then (some ((0 : Int32), σ3)) else (gd (isRow (gr σ3 605)) (gd (inb (nI s) 200) (if tkS B n k = (91 : Int32) then (Pa_parseOne_193 F rT (ta σ3 (rA (gr σ3 605) 3) (nI s).toNatClampNeg (nI (tkP B n k))) (93 : Int32)) else (Pa_parseOne_193 F rT (ta σ3 (rA (gr σ3 605) 3) (nI s).toNatClampNeg (nI (tkP B n k))) (41 : Int32)))))) := by
        rw [hcl, e1, Pa_parseOne_149, e2, bv_some, nI_1]
      have hro1 : ∀ m, Md_readOpen_10 F (m + 1) τ h = Md_readOpen_10 F m τ1 h := fun m => by rw [hit m, hstep]
      by_cases hb : tkS B n (k + 1) = 0
      · -- the next token is bad
        obtain ⟨σ', t1, t2, t3, t4⟩ := hBad qL _ _ _ _ C2 hb
        have hcu := (mS_Z mS1).2.2.2.1 hb
        refine ⟨0, σ', ?_, frC_tr fr12 t4 (Nat.le_refl _) hs1b.1, Or.inl ⟨1, tkP B n (k + 1), τ1, by decide, Or.inl ⟨rfl, t2, t3⟩, ⟨frM_tr (frM_rfl L N a M τ) frt (Nat.le_succ _) (Nat.le_refl _) (Nat.le_refl _) (Nat.le_refl _), hcu.1, hcu.2, ⟨a, by omega, (mS_Z mS1).1.2.2.2.2.2.1⟩, N, by omega, (mS_Z mS1).1.2.2.2.2.1⟩, ?_⟩⟩
        · rw [hcl3, t1, bi_some, if_pos rfl]
        · intro m
          rw [show m + (c + 2 - k) = (m + (c - k)) + 1 + 1 by omega, hro1, ro_end _ _ (by rw [hcu.1]; decide)]
      · have hJ1 : JR B n c X N0 (si σ1 106 (nI (k + 1))) τ1 (k + 1) M s1 N a (L + 1) := ⟨C2, mS1, hb, fun i hi => meR_fr fr12 frt hi (hme i hi), hmb1, by omega, by omega, by omega, ownR_fr fr12 frt how⟩
        obtain ⟨r, σ3, e3, fr3, res⟩ := hTy qL _ _ _ _ _ _ _ hJ1 l19 l23 l24 l25
        have fr13 : frC X M s σ σ3 := frC_tr fr12 fr3 (Nat.le_refl _) hs1b.1
        have cs : (nI s).toNatClampNeg = s := nI_clamp (by omega)
        obtain ⟨q, hq, hqs, hcl4⟩ : ∃ q, (q = 41 ∨ q = 93) ∧ (q = 93 ↔ tkS B n k = 91) ∧ ∀ σ3, gr σ3 605 = X → s < 200 → (gd (isRow (gr σ3 605)) (gd (inb (nI s) 200) (if tkS B n k = (91 : Int32) then (Pa_parseOne_193 F rT (ta σ3 (rA (gr σ3 605) 3) (nI s).toNatClampNeg (nI (tkP B n k))) (93 : Int32)) else (Pa_parseOne_193 F rT (ta σ3 (rA (gr σ3 605) 3) (nI s).toNatClampNeg (nI (tkP B n k))) (41 : Int32))))) = Pa_parseOne_193 F rT (ta σ3 (rA X 3) s (nI (tkP B n k))) (nI q) := by
          by_cases z : tkS B n k = 91
          · refine ⟨93, Or.inr rfl, ⟨fun _ => z, fun _ => rfl⟩, fun σ3 g g2 => ?_⟩
            rw [g, gd_t hX, gd_t (inb_nI g2 (by omega)), if_pos z, cs]
            rfl
          · refine ⟨41, Or.inl rfl, ⟨fun z' => absurd z' (by decide), fun z' => absurd z' z⟩, fun σ3 g g2 => ?_⟩
            rw [g, gd_t hX, gd_t (inb_nI g2 (by omega)), if_neg z, cs]
            rfl
        rcases res with ⟨f, p, τ', hf, hd, hfl, hro⟩ | ⟨hr1, k', M', s', N', a', t, As, nn, τ2, g1, g2, g3, gJ, gfr, gok, gs, ga', gA, gN, gN2, grw, gnd, gac, gpl, gle, gMe, g23, g25, g17, g18, gro⟩
        · -- a fault inside
          have hrofin : ∀ m, Md_readOpen_10 F (m + (c + 2 - k)) τ h = some (0, τ') := by
            intro m
            rw [show m + (c + 2 - k) = (m + (c + 2 - (k + 1))) + 1 by omega, hro1, hro]
          have hfl2 : flM N0 L N a M τ τ' f p := flM_tr (frM_tr (frM_rfl L N a M τ) frt (Nat.le_succ _) (Nat.le_refl _) (Nat.le_refl _) (Nat.le_refl _)) hfl (Nat.le_succ _) (Nat.le_refl _) (Nat.le_refl _) (Nat.le_refl _)
          rcases hd with ⟨d1, d2, d3⟩ | ⟨d1, d2, kb, Mb, sb, dC, ds1, ds2, dM1, dM2, dS, dp⟩
          · subst d1
            refine ⟨0, σ3, ?_, fr13, Or.inl ⟨f, p, τ', hf, Or.inl ⟨rfl, d2, d3⟩, hfl2, hrofin⟩⟩
            rw [hcl3, e3, bi_some, if_pos rfl]
          · subst d1 d2
            obtain ⟨sp1, sp2⟩ := c_spot (s := s) dC (tkP B n k)
            obtain ⟨σ4, t1, t2, t3, t4⟩ := c_expect0 (F := F) hT sp1 (x := nI q) (by rw [dS]; rcases hq with z | z <;> rw [z] <;> decide)
            have frr : frC X M s σ σ4 := frC_tr (frC_tr fr13 (frC_tr (frC_rfl X M s σ3) sp2 (by omega) (Nat.le_refl _)) (Nat.le_refl _) (Nat.le_refl _)) t4 (by omega) (by omega)
            refine ⟨0, σ4, ?_, frr, Or.inl ⟨1, p, τ', hf, Or.inl ⟨rfl, t2, by rw [dp]; exact t3⟩, hfl2, hrofin⟩⟩
            rw [hcl3, e3, bi_some, if_neg (by decide), hcl4 σ3 dC.2.2.2.2.1 (by omega), Pa_parseOne_193, t1, bi_some]
            rfl
        · -- the inner type is read
          subst hr1
          obtain ⟨jC, jM, jne, jme, jmb, js, jN, ja, jow⟩ := gJ
          have hlt : 0 < lnT t := by unfold lnT; omega
          obtain ⟨sp1, sp2⟩ := c_spot (s := s) jC (tkP B n k)
          have fr14 : frC X M s σ (ta σ3 (rA X 3) s (nI (tkP B n k))) := frC_tr fr13 (frC_tr (frC_rfl X M s σ3) sp2 (by omega) (Nat.le_refl _)) (Nat.le_refl _) (Nat.le_refl _)
          have hcl5 : Pa_parseOne_m F rT σ (nI L) = Pa_parseOne_193 F rT (ta σ3 (rA X 3) s (nI (tkP B n k))) (nI q) := by
            rw [hcl3, e3, bi_some, if_neg (by decide), hcl4 σ3 jC.2.2.2.2.1 (by omega)]
          -- the tree and its row
          obtain ⟨t', ht', okt', isR', lnt', rwt', plt', ndq⟩ : ∃ t', (t' = if q = 93 then tI (tkP B n k) t else tW (tkP B n k) t) ∧ okT t' ∧ isR t' = false ∧ s' = s + lnT t' ∧ rwL (ta σ3 (rA X 3) s (nI (tkP B n k))) X s (hdT t' :: tlT t') ∧ plT t' = tkP B n k ∧ lnT t ≤ lnT t' := by
            rcases hq with z | z
            · subst z
              have z9 : ¬ tkS B n k = 91 := fun z' => absurd (hqs.mpr z') (by decide)
              rw [if_neg z9] at hs1
              subst hs1
              refine ⟨_, rfl, ?_, ?_, ?_, ?_, ?_, ?_⟩
              · rw [if_neg (by decide)]; exact gok
              · rw [if_neg (by decide)]; rfl
              · rw [if_neg (by decide)]; exact gs
              · rw [if_neg (by decide)]; exact c_spotL grw _
              · rw [if_neg (by decide)]; rfl
              · rw [if_neg (by decide)]; exact Nat.le_refl _
            · subst z
              have z9 : tkS B n k = 91 := hqs.mp rfl
              rw [if_pos z9] at hs1
              subst hs1
              refine ⟨_, rfl, ?_, ?_, ?_, ?_, ?_, ?_⟩
              · rw [if_pos rfl]; exact gok
              · rw [if_pos rfl]; rfl
              · rw [if_pos rfl]
                have : lnT (tI (tkP B n k) t) = lnT t + 1 := rfl
                omega
              · rw [if_pos rfl]
                have w1 := rwB z9
                have w2 : rw1 σ3 X s (91, 0, 1, tkP B n k) := by
                  obtain ⟨v1, v2, v3, v4⟩ := w1
                  have k7 := fr3.2.2.2.2.2.2.1
                  have k8 := fr3.2.2.2.2.2.2.2
                  refine ⟨?_, ?_, ?_, ?_⟩
                  · rw [k7 _ _ (by omega)]; simpa only [zs] using v1
                  · rw [k8 _ _ (by omega)]; simpa only [zs] using v2
                  · rw [k7 _ _ (by omega)]; simpa only [zs] using v3
                  · rw [k7 _ _ (by omega)]; simpa only [zs] using v4
                exact c_spotL (e := (91, 0, 1, tkP B n k)) ⟨w2, grw⟩ _
              · rw [if_pos rfl]; rfl
              · rw [if_pos rfl]
                have : lnT (tI (tkP B n k) t) = lnT t + 1 := rfl
                omega
          have l17' : ga τ2 17 (L + 1) = (if q = 93 then 2 else 1) := by
            rw [g17, l17]
            rcases hq with z | z
            · rw [if_neg (fun z' => absurd (hqs.mpr z') (by rw [z]; decide)), if_neg (by rw [z]; decide)]
            · rw [if_pos (hqs.mp z), if_pos z]
          have l18' : ga τ2 18 (L + 1) = nI (tkP B n k) := by rw [g18, l18]
          obtain ⟨τ3, N3, a3, n3, c1, cZ, cfr, c93, c41, cme, cme2, cgood, cbad⟩ := m_close (F := F) (s := s') hB hF jM jne qL (by omega) (by omega) hq l17' l18' g23 g25
          have fr02 : frM (L + 1) N a M τ τ2 := frM_tr frt gfr (Nat.le_refl _) (Nat.le_refl _) (Nat.le_refl _) (Nat.le_refl _)
          have fr03 : frM (L + 1) N a M τ τ3 := frM_tr fr02 cfr (Nat.le_refl _) (by omega) (by omega) (by omega)
          have bnd : N ≤ N3 ∧ N' ≤ N3 ∧ N3 + 1 ≤ N + 2 * lnT t' ∧ a' ≤ a3 ∧ a3 + 1 ≤ a + lnT t' ∧ N3 < 1000 ∧ a3 < 400 := by
            have e0 : s1 + lnT t = s + lnT t' := by omega
            rcases hq with z | z
            · obtain ⟨_, w2, w3⟩ := c41 z
              have z9 : ¬ tkS B n k = 91 := fun z' => absurd (hqs.mpr z') (by rw [z]; decide)
              rw [if_neg z9] at hs1
              omega
            · obtain ⟨_, w2, w3, _⟩ := c93 z
              rw [if_pos (hqs.mp z)] at hs1
              omega
          have h185 : ∀ (m : Nat) τ', Md_addOne F τ3 (nI n3) (-1) (nI (tkP B n k)) = some τ' → Md_readOpen_10 F (m + (k' + 1 - k)) τ h = Md_readOpen_10 F m τ' h := by
            intro m τ' e
            have n0 : ¬ gi τ2 42 = 0 := by
              rw [jM.2.2.2.2.2.2.2.1]
              exact nI_ne0 (by omega) (by omega)
            rw [show m + (k' + 1 - k) = (m + (k' - (k + 1)) + 1) + 1 by omega, hro1, gro, Md_readOpen_185, if_neg n0, c1, e, bv_some, bv_some]
          have hlv3 : lvO τ3 L := lvO_fr fr03 (Nat.lt_succ_self _) hv
          obtain ⟨τ4, ea, fra, q8, q9, ⟨a4, ha4, q23⟩, N4, hN4, q16⟩ := m_addok (F := F) (M0 := M) cZ (by omega) (by omega) (by omega) hlv3 (nI n3) (nI (tkP B n k)) (Or.inl rfl)
          have fr04 : frM L N a M τ τ4 := frM_tr (frM_tr (frM_rfl L N a M τ) fr03 (Nat.le_succ _) (Nat.le_refl _) (Nat.le_refl _) (Nat.le_refl _)) fra (Nat.le_refl _) (by omega) (by omega) (Nat.le_refl _)
          by_cases hcls : tkS B n k' = nI q
          · have e6 := c_expect1 (F := F) hT sp1 hcls (by rcases hq with z | z <;> rw [z] <;> decide)
            obtain ⟨_, C6, fr6⟩ := c_step (F := F) hT sp1 (show tkS B n k' ≠ 1 by rw [hcls]; rcases hq with z | z <;> rw [z] <;> decide)
            have fr16 : frC X M s σ (si (ta σ3 (rA X 3) s (nI (tkP B n k))) 106 (nI (k' + 1))) := frC_tr fr14 fr6 (by omega) (by omega)
            have hfin : Pa_parseOne_m F rT σ (nI L) = some (1, si (ta σ3 (rA X 3) s (nI (tkP B n k))) 106 (nI (k' + 1))) := by
              rw [hcl5, Pa_parseOne_193, e6, bi_some]; rfl
            have hkk := tEnd_s hT jC.2.1 (show tkS B n k' ≠ 1 by rw [hcls]; rcases hq with z | z <;> rw [z] <;> decide)
            have cu := cgood hcls
            refine ⟨1, _, hfin, fr16, ?_⟩
            by_cases hb2 : tkS B n (k' + 1) = 0
            · left
              have hcu := cu.2.2.1 hb2
              refine ⟨1, tkP B n (k' + 1), τ4, by decide, Or.inr ⟨rfl, rfl, k' + 1, M', s', C6, by omega, by omega, by omega, ?_, hb2, rfl⟩, ⟨fr04, by rw [q8]; exact hcu.1, by rw [q9]; exact hcu.2, ⟨a4, ha4, q23⟩, N4, by omega, q16⟩, ?_⟩
              · have := jmb.1; have := hB.1; omega
              · intro m
                rw [show m + (c + 2 - k) = (m + (c - (k' + 1)) + 1 + 1) + (k' + 1 - k) by omega, h185 _ τ4 ea, ro_end _ _ (by rw [q8, hcu.1]; decide)]
            · right
              have hmS3 := mZ_S cZ cu
              refine ⟨rfl, k' + 1, M', s', N3, a3, t', (if q = 93 then As ++ [(1, nn, plT t)] else As), n3, τ3, by omega, by omega, g3, ⟨C6, hmS3, hb2, ?_, mB_step jmb hkk.2, by omega, by omega, by omega, ownR_fr fr16 fr03 how⟩, fr03, okt', isR', lnt', ?_, ?_, bnd.1, bnd.2.2.1, ?_, ?_, ?_, plt', ?_, ?_, fun z => absurd z hn2, ?_⟩
              · intro i hi
                have := jme i hi
                unfold meR at this ⊢
                rw [cme 10 (by omega) (by omega), cme2, cme 12 (by omega) (by omega), cme 13 (by omega) (by omega), cme 15 (by omega) (by omega), cme 16 (by omega) (by omega)]
                simpa only [zs] using this
              · rcases hq with z | z
                · rw [if_neg (by rw [z]; decide), (c41 z).2.2, ga']
                · rw [if_pos z, (c93 z).2.2.1, ga']; simp; omega
              · rcases hq with z | z
                · rw [if_neg (by rw [z]; decide)]; omega
                · rw [if_pos z, ht', if_pos z]; simp only [List.length_append, List.length_cons, List.length_nil]
                  have : lnT (tI (tkP B n k) t) = lnT t + 1 := rfl
                  omega
              · exact rwL_fr _ _ (fun j _ _ => ⟨by simp only [zs], by simp only [zs], by simp only [zs], by simp only [zs]⟩) rwt'
              · have fr32 := cfr
                have ndm : nd τ3 (gi τ 32) (gi τ 67) N N3 t nn As := by
                  refine nd_mono (τ := τ2) (Nat.le_refl _) bnd.2.1 (fun i i1 i2 => ⟨?_, ?_, ?_, ?_⟩) t nn As ?_
                  · exact fr32.2.1 2 i (by unfold okM; omega)
                  · exact fr32.2.2.2.1 3 i (by omega) (by omega)
                  · exact fr32.2.1 4 i (by unfold okM; omega)
                  · exact fr32.2.1 5 i (by unfold okM; omega)
                  · have e32 : gi τ1 32 = gi τ 32 := frt.1 32 (by unfold exM; omega)
                    have e67 : gi τ1 67 = gi τ 67 := frt.1 67 (by unfold exM; omega)
                    rw [e32, e67] at gnd
                    exact gnd
                rcases hq with z | z
                · rw [ht', if_neg (by rw [z]; decide), if_neg (by rw [z]; decide), (c41 z).1]
                  exact ndm
                · rw [ht', if_pos z, if_pos z]
                  obtain ⟨w1, w2, w3, w4, w5, w6⟩ := c93 z
                  rw [w1]
                  exact ⟨by omega, by omega, w4, nn, As, w5, ndm, rfl⟩
              · have acm : acL τ3 a As := acL_fr As a (fun j j1 j2 => ⟨cfr.2.1 7 j (by unfold okM; omega), cfr.2.1 8 j (by unfold okM; omega), cfr.2.1 9 j (by unfold okM; omega)⟩) gac
                rcases hq with z | z
                · rw [if_neg (by rw [z]; decide)]; exact acm
                · rw [if_pos z, acL_app]
                  obtain ⟨w1, w2, w3, w4, w5, w6⟩ := c93 z
                  rw [ga', ← gpl] at w6
                  exact ⟨acm, w6⟩
              · have e6 : gi (si σ1 106 (nI (k + 1))) 606 = gi σ 606 := fr12.1 606 (by decide) (by decide) (by decide) (by decide)
                rw [e6] at gle
                have el : lvs t' = lvs t := by rw [ht']; split <;> rfl
                have ev : vaL σ3 M (hdT t' :: tlT t') := by
                  rw [ht']
                  rcases hq with z | z
                  · rw [if_neg (by rw [z]; decide)]
                    exact vaL_hd (e := hdT t) rfl (Nat.le_refl _) gle.2
                  · rw [if_pos z]
                    exact (vaL_n (show ¬ ((91 : Int32) = 2 ∨ (91 : Int32) = 3) by decide)).mpr gle.2
                refine ⟨?_, vaL_fr _ _ (fun j _ _ => by simp only [zs]) ev⟩
                rw [el]
                exact leL_fr _ _ (fun j _ _ => ⟨by simp only [zs], by simp only [zs], by simp only [zs]⟩) gle.1
              · have el : lvs t' = lvs t := by rw [ht']; split <;> rfl
                rw [el]
                exact gMe
              · intro m τ' e
                rw [if_neg hn2] at e
                exact h185 m τ' e
          · obtain ⟨σ6, t1, t2, t3, t4⟩ := c_expect0 (F := F) hT sp1 (x := nI q) hcls
            have hcb := cbad hcls
            refine ⟨0, σ6, ?_, frC_tr fr14 t4 (by omega) (by omega), Or.inl ⟨1, tkP B n k', τ4, by decide, Or.inl ⟨rfl, t2, t3⟩, ⟨fr04, by rw [q8]; exact hcb.1, by rw [q9]; exact hcb.2, ⟨a4, ha4, q23⟩, N4, by omega, q16⟩, ?_⟩⟩
            · rw [hcl5, Pa_parseOne_193, t1, bi_some]; rfl
            · intro m
              rw [show m + (c + 2 - k) = (m + (c - k') + 1) + (k' + 1 - k) by omega, h185 _ τ4 ea, ro_end _ _ (by rw [q8, hcb.1]; decide)]
  · have : L = 8 := by omega
    subst this
    refine full (Or.inl rfl) ?_
    obtain ⟨σ', t1, t2, t3, t4⟩ := c_tooMuch (F := F) hT hC
    refine ⟨σ', ?_, t2, t3, t4⟩
    rw [hcl, Pa_parseOne_103, if_neg (by decide), t1, bi_some]
    rfl
end J
