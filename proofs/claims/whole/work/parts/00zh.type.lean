/-! Both readers side by side: a type. Own text. -/
section J
variable {F : Nat} {B : Nat → Int32} {n c X N0 : Nat} {h : Int32} {σ τ : zS} {k M s N a L : Nat}
theorem lnT_tR (l r : TE) : lnT (tR l r) = lnT l + lnT r + 1 := by
  unfold lnT
  rw [(tT.2.2.1 l r).2]
  simp only [List.length_append, List.length_cons]
  omega
theorem fT_app (t T : TE) : ∀ ls : List TE, fT (ls ++ [t]) T = fT ls (tR t T)
  | [] => rfl
  | l :: ls => by show tR l (fT (ls ++ [t]) T) = tR l (fT ls (tR t T)); rw [fT_app t T ls]
theorem ty_loop (hT : tEnd B n c) (hX : isRow X = true) (hF : 1300 ≤ F) (hN0 : N0 ≤ 500) (hL : L ≤ 8) (hh3 : ¬ (L = 0 ∧ h = 3)) {rT : zS → Int32 → Option (Int32 × zS)} (hO : ∀ σ τ k M s N a, JR B n c X N0 σ τ k M s N a L → stO (tkS B n k) → lvO τ L → OneR F B n c X N0 h σ τ k M s N a L (Pa_parseOne_m F rT σ (nI L))) {pr me : Int32} {lo : Nat} : ∀ (d m k M s N a x2 : Nat) (σ τ : zS) (ls : List TE) (x hd bh sp w la wp : Int32) (Ap : List AE), c - k = d → d < m → JR B n c X N0 σ τ k M s N a L → lvM τ L x hd bh sp w la wp → x < 0 → pdM τ pr me lo N ls w la Ap → lo ≤ N → gi τ 32 = pr → gi τ 67 = me → x2 ≤ s → ∃ r σ', Pa_parseType_2 F (Pa_parseSome_m F (Pa_parseOne_m F rT)) m σ (nI L) (nI x2) = some (r, σ') ∧ frC X M s σ σ' ∧ (badR F B n c X N0 h τ k M s lo a L r σ' ∨ (r = 1 ∧ ∃ k' M' s' N' a' T As nn τ2, k < k' ∧ k' ≤ c ∧ M ≤ M' ∧ JR B n c X N0 σ' τ2 k' M' s' N' a' L ∧ frM L lo a M τ τ2 ∧ okT T ∧ s' = s + lnT T ∧ a' = a + As.length ∧ As.length ≤ lnT T ∧ (ls = [] → As.length + 1 ≤ lnT T) ∧ N ≤ N' ∧ N' ≤ N + 2 * lnT T ∧ (ls = [] → N' + 1 ≤ N + 2 * lnT T) ∧ rwL σ' X s (hdT T :: tlT T) ∧ nd τ2 pr me lo N' (fT ls T) nn (Ap ++ As) ∧ acL τ2 a As ∧ plT T = tkP B n k ∧ lvA σ' (gi σ 606) M T ∧ M' = M + (lvs T).length ∧ ga τ2 23 L = nI nn ∧ ga τ2 25 L = (if wp < 0 then nI (tkP B n k) else wp) ∧ ga τ2 17 L = ga τ 17 L ∧ ga τ2 18 L = ga τ 18 L ∧ ∀ m, Md_readOpen_10 F (m + (k' - k) + 1) τ h = Md_readOpen_185 F (Md_readOpen_10 F m) τ2 h)) := by
  have hB := hT.1
  have hc := tE_c hT
  intro d
  induction d using Nat.strongRecOn with
  | _ d ih =>
    intro m k M s N a x2 σ τ ls x hd bh sp w la wp Ap hd0 hm hJ hv hx hp hlo hpr hme hx2
    have hJ0 := hJ
    obtain ⟨hC, hMs, hne, hmeR, hmb, hs2, hN, ha, how⟩ := hJ
    obtain ⟨m, rfl⟩ : ∃ m', m = m' + 1 := ⟨m - 1, by omega⟩
    have hturn : ∀ b : Nat, b ≤ 200 → ¬ (200 : Int32) < nI b := fun b hb => nI_nlt (a := 200) hb (by omega)
    obtain ⟨r, σ1, e1, fr1, res⟩ := some_ok (h := h) hT hX hF hN0 hL hh3 hO hJ0 hv hx
    have hbody : Pa_parseType_2 F (Pa_parseSome_m F (Pa_parseOne_m F rT)) (m + 1) σ (nI L) (nI x2) = if r = 0 then some ((0 : Int32), σ1) else (bi (Ta_sort F σ1) (fun r8 σ7 => if r8 = (45 : Int32) then (gd (isRow (gr σ7 605)) (bi (Ro_isFull F σ7 (gr σ7 605)) (fun r13 σ11 => if r13 = 0 then (gd (isRow (gr σ11 605)) (bv (Ro_insertArrow F σ11 (gr σ11 605) (nI s)) (fun σ16 => bv (Ta_step F σ16) (fun σ19 => Pa_parseType_2 F (Pa_parseSome_m F (Pa_parseOne_m F rT)) m σ19 (nI L) (nI (x2 + 1)))))) else (bi (Pa_tooMuch F σ11) (fun r22 σ21 => gd (isB r22) (some (r22, σ21))))))) else (some ((1 : Int32), σ7)))) := by
      show Pa_parseType_b2 F (Pa_parseSome_m F (Pa_parseOne_m F rT)) (Pa_parseType_2 F (Pa_parseSome_m F (Pa_parseOne_m F rT)) m) σ (nI L) (nI x2) = _
      rw [Pa_parseType_b2, if_neg (hturn x2 (by omega)), hC.2.2.2.2.1, gd_t hX, e1, bi_some, hC.2.2.2.2.2.1, nI_1]
    rcases res with ⟨f, p, τ', hf, hdm, hfl, hro⟩ | ⟨hr1, hst0, k', M', s', N', a', t, As, nn, b, τ1, g1, g2, g3, gC, gM, gne, gst, gme, gmP, gmb, gs2, gN0, gas, gow, gok, gR, gs, ga', gA, gN, gN2, grw, gnd, gac, gpl, gbl, gle, gMe, glv, gfr, g17, g18, gro⟩
    · have hfl2 : flM N0 L lo a M τ τ' f p := flM_tr (frM_rfl L lo a M τ) hfl (Nat.le_refl _) hlo (Nat.le_refl _) (Nat.le_refl _)
      rcases hdm with ⟨d1, d2, d3⟩ | ⟨d1, d2, kb, Mb, sb, dC, ds1, ds2, dM1, dM2, dS, dp⟩
      · subst d1
        exact ⟨0, σ1, by rw [hbody, if_pos rfl], fr1, Or.inl ⟨f, p, τ', hf, Or.inl ⟨rfl, d2, d3⟩, hfl2, hro⟩⟩
      · subst d1 d2
        refine ⟨1, σ1, ?_, fr1, Or.inl ⟨1, p, τ', hf, Or.inr ⟨rfl, rfl, kb, Mb, sb, dC, ds1, ds2, dM1, dM2, dS, dp⟩, hfl2, hro⟩⟩
        rw [hbody, if_neg (by decide), c_sort hT dC, bi_some, if_neg (by rw [dS]; decide)]
    · subst hr1
      have hkk : k < k' := by
        rcases Nat.lt_or_ge k k' with q | q
        · exact q
        · have : k = k' := by omega
          subst this
          exact absurd hst0 gst
      have hln : 0 < lnT t := by unfold lnT; omega
      have hM6 : M' ≤ 600 := by have := gmb.1; have := tkP_le B n k'; have := hB.1; omega
      have hhd : (if tkS B n k = 2 then nI M else -1) = -1 ∨ ∃ m, (if tkS B n k = 2 then nI M else -1) = nI m ∧ m < 1400 ∧ M ≤ m := by
        by_cases z : tkS B n k = 2
        · right; exact ⟨M, by rw [if_pos z], by omega, Nat.le_refl _⟩
        · left; rw [if_neg z]
      have hdm : ∀ m, (if tkS B n k = 2 then nI M else -1) = nI m → m < 1400 → tkS B n k = 2 ∧ m = M := by
        intro m' e hm'
        by_cases z : tkS B n k = 2
        · rw [if_pos z] at e
          exact ⟨z, ((nI_eq (a := M) (b := m') (by omega) (by omega)).mp e).symm⟩
        · rw [if_neg z] at e
          have := nI_pos (n := m') (by omega)
          rw [← e] at this
          exact absurd (by decide) this
      have hp1 : pdM τ1 pr me lo N ls w la Ap := pdM_fr (Nat.le_refl _) (fun i hi => ⟨gfr.2.1 2 i (by unfold okM; omega), gfr.2.2.2.1 3 i (by omega) (by omega), gfr.2.1 4 i (by unfold okM; omega), gfr.2.1 5 i (by unfold okM; omega)⟩) hp
      rw [hpr, hme] at gnd
      -- the mentions, once endSome() has told the ones behind
      have meFin : ∀ (σ2 τ2 : zS), (∀ j, 43 ≤ j → j ≤ 47 → ga σ2 j = ga σ1 j) → gb σ2 44 = gb σ1 44 → (∀ j, 10 ≤ j → j < 16 → ga τ2 j = ga τ1 j) → (∀ j, gb τ2 j = gb τ1 j) → (∀ m, (if tkS B n k = 2 then nI M else -1) = nI m → m < 1400 → ga τ2 16 m = nI b) → (∀ i, (∀ m, (if tkS B n k = 2 then nI M else -1) = nI m → m < 1400 → i ≠ m) → ga τ2 16 i = ga τ1 16 i) → ∀ i, i < M' → meR σ2 τ2 i := by
        intro σ2 τ2 q1 q2 q3 q4 q5 q6 i hi
        by_cases z : tkS B n k = 2 ∧ i = M
        · obtain ⟨z1, z2⟩ := z
          subst z2
          obtain ⟨_, p1, p2, p3, p4, p5, p6⟩ := gmP z1
          have := q5 i (by rw [if_pos z1]) (by omega)
          unfold meR
          rw [q1 43 (by omega) (by omega), q1 45 (by omega) (by omega), q1 46 (by omega) (by omega), q1 47 (by omega) (by omega), q2, q3 10 (by omega) (by omega), q3 12 (by omega) (by omega), q3 13 (by omega) (by omega), q3 15 (by omega) (by omega), q4 11, this]
          exact ⟨p1, p2, p3, p4, fun _ => Or.inl ⟨p5, p6.symm, b, by omega, p6⟩⟩
        · have q := gme i hi (fun z1 z2 => z ⟨z1, z2⟩)
          have := q6 i (fun m' e hm' zi => by
            obtain ⟨w1, w2⟩ := hdm m' e hm'
            exact z ⟨w1, by omega⟩)
          unfold meR at q ⊢
          rw [q1 43 (by omega) (by omega), q1 45 (by omega) (by omega), q1 46 (by omega) (by omega), q1 47 (by omega) (by omega), q2, q3 10 (by omega) (by omega), q3 12 (by omega) (by omega), q3 13 (by omega) (by omega), q3 15 (by omega) (by omega), q4 11, this]
          exact q
      have g8 := (m_flt gM gne).1
      have hit1 := fun m => ro_it (F := F) m h g8 (hh_it gM hL (fun z => hh3 ⟨z.1, z.2.1⟩))
      have h67 : gi τ1 67 = gi τ 67 := gfr.1 67 (by unfold exM; omega)
      have h32 : gi τ1 32 = gi τ 32 := gfr.1 32 (by unfold exM; omega)
      by_cases q45 : tkS B n k' = 45
      · -- an arrow
        obtain ⟨τ3, N3, w3, la3, n1, n2, n3, frt, hS3, hF3, h23, m1, m2, m3, m4, lv3, l17, l18, pd3, ac3, ac3', h55⟩ := m_arrow (F := F) hB hF gM gne q45 (by omega) (by omega) (by omega) gs2 glv hhd hp1 hlo gN gnd gR
        have frt0 : frM L lo a M τ τ3 := frM_tr (frM_tr (frM_rfl L lo a M τ) gfr (Nat.le_refl _) hlo (Nat.le_refl _) (Nat.le_refl _)) frt (Nat.le_refl _) (Nat.le_refl _) (by omega) (Nat.le_refl _)
        have hro3 : ∀ m, Md_readOpen_10 F (m + (k' + 1 - k)) τ h = Md_readOpen_10 F m τ3 h := by
          intro m
          rw [show m + (k' + 1 - k) = (m + 1) + (k' - k) by omega, gro, hit1, h55]
        have hk' := tEnd_s hT gC.2.1 (show tkS B n k' ≠ 1 by rw [q45]; decide)
        rcases Nat.lt_or_ge s' 200 with qs | qs
        · obtain ⟨σ2, i1, i2, i3, i4, i5, i6, i7⟩ := c_insert (F := F) hX gC qs (st := s) (e := hdT t) (l := tlT t) (by rw [gs]; unfold lnT; omega) grw
          obtain ⟨j1, j2, j3⟩ := c_step (F := F) hT i2 (show tkS B n k' ≠ 1 by rw [q45]; decide)
          have hcl : Pa_parseType_2 F (Pa_parseSome_m F (Pa_parseOne_m F rT)) (m + 1) σ (nI L) (nI x2) = Pa_parseType_2 F (Pa_parseSome_m F (Pa_parseOne_m F rT)) m (si σ2 106 (nI (k' + 1))) (nI L) (nI (x2 + 1)) := by
            rw [hbody, if_neg (by decide), c_sort hT gC, bi_some, if_pos q45, gC.2.2.2.2.1, gd_t hX, (c_isFull hX gC gs2).1 qs, bi_some, if_pos rfl, gC.2.2.2.2.1, gd_t hX, i1, bv_some, j1, bv_some]
          have frc : frC X M s σ (si σ2 106 (nI (k' + 1))) := frC_tr (frC_tr fr1 (frC_tr (frC_rfl X M s σ1) i3 (by omega) (Nat.le_refl _)) (Nat.le_refl _) (Nat.le_refl _)) j3 (by omega) (by omega)
          have hmS := hS3 qs
          have hmb1 := mB_step gmb hk'.2
          by_cases hb : tkS B n (k' + 1) = 0
          · -- the token behind the arrow is bad
            obtain ⟨σ', t1, t2, t3, t4⟩ := c_some0 (F := F) hT hX j2 (by rw [hb]; unfold stO; decide) rT (nI L)
            have hcu := hmS.2.2.1.2.2.1 hb
            refine ⟨0, σ', ?_, frC_tr frc t4 (by omega) (by omega), Or.inl ⟨1, tkP B n (k' + 1), τ3, by decide, Or.inl ⟨rfl, t2, t3⟩, ⟨frt0, hcu.1, hcu.2, ⟨a' + 1, by omega, h23.1⟩, N3, by omega, h23.2⟩, fun m => ?_⟩⟩
            · obtain ⟨m, rfl⟩ : ∃ m', m = m' + 1 := ⟨m - 1, by omega⟩
              rw [hcl]
              show Pa_parseType_b2 F (Pa_parseSome_m F (Pa_parseOne_m F rT)) (Pa_parseType_2 F (Pa_parseSome_m F (Pa_parseOne_m F rT)) m) (si σ2 106 (nI (k' + 1))) (nI L) (nI (x2 + 1)) = _
              rw [Pa_parseType_b2, if_neg (hturn (x2 + 1) (by omega)), j2.2.2.2.2.1, gd_t hX, t1, bi_some, if_pos rfl]
            · rw [show m + (c + 2 - k) = (m + (c - k') + 1) + (k' + 1 - k) by omega, hro3, ro_end _ _ (by rw [hcu.1]; decide)]
          · have hme3 : ∀ i, i < M' → meR (si σ2 106 (nI (k' + 1))) τ3 i := meFin _ _ (fun j _ _ => by simp only [zs]; rw [i6]) (by simp only [zs]; rw [i7]) m1 m2 m3 m4
            have hJ3 : JR B n c X N0 (si σ2 106 (nI (k' + 1))) τ3 (k' + 1) M' (s' + 1) N3 (a' + 1) L := ⟨j2, hmS, hb, hme3, hmb1, by omega, by omega, by omega, ownR_fr frc frt0 how⟩
            obtain ⟨r, σ', q1, q2, q3⟩ := ih (c - (k' + 1)) (by omega) m (k' + 1) M' (s' + 1) N3 (a' + 1) (x2 + 1) _ τ3 (ls ++ [t]) _ _ _ _ _ _ _ _ rfl (by omega) hJ3 lv3 (by decide) pd3 (by omega) (by rw [frt0.1 32 (by unfold exM; omega), hpr]) (by rw [frt0.1 67 (by unfold exM; omega), hme]) (by omega)
            refine ⟨r, σ', by rw [hcl, q1], frC_tr frc q2 (by omega) (by omega), ?_⟩
            rcases q3 with ⟨f, p, τ', u1, u2, u3, u4⟩ | ⟨u0, kf, Mf, sf, Nf, af, T, Asf, nnf, τf, u1, u2, u3, u4, u5, u6, u7, u8, u9, u10, u11, u12, u13, u14, u15, u16, u17, v1, v2, u18, u19, u20, u21, u22⟩
            · left
              refine ⟨f, p, τ', u1, ?_, flM_tr frt0 u3 (Nat.le_refl _) (Nat.le_refl _) (by omega) (by omega), fun m => ?_⟩
              · rcases u2 with v | ⟨v1, v2, kb, Mb, sb, v3, v4, v5, v6, v7, v8, v9⟩
                · exact Or.inl v
                · exact Or.inr ⟨v1, v2, kb, Mb, sb, v3, by omega, v5, by omega, v7, v8, v9⟩
              · rw [show m + (c + 2 - k) = (m + (c + 2 - (k' + 1))) + (k' + 1 - k) by omega, hro3, u4]
            · right
              have hlnT : 0 < lnT T := by unfold lnT; omega
              have lnR := lnT_tR t T
              have assoc : Ap ++ (As ++ (1, nn, plT t) :: Asf) = Ap ++ (As ++ [(1, nn, plT t)]) ++ Asf := by simp
              refine ⟨u0, kf, Mf, sf, Nf, af, tR t T, As ++ ((1, nn, plT t) :: Asf), nnf, τf, by omega, u2, by omega, u4, frM_tr frt0 u5 (Nat.le_refl _) (Nat.le_refl _) (by omega) (by omega), ⟨gok, u6⟩, by omega, ?_, ?_, fun _ => ?_, by omega, by omega, fun z => ?_, ?_, ?_, ?_, ?_, ?_, ?_, u18, ?_, ?_, ?_, fun m => ?_⟩
              · simp only [List.length_append, List.length_cons]; omega
              · simp only [List.length_append, List.length_cons]; omega
              · simp only [List.length_append, List.length_cons]; omega
              · have := n3 z; omega
              · rw [(tT.2.2.1 t T).1, (tT.2.2.1 t T).2]
                have e0 : (((45 : Int32), (0 : Int64), 2, (hdT t).2.2.2) :: hdT t :: (tlT t ++ hdT T :: tlT T)) = (((45 : Int32), (0 : Int64), 2, (hdT t).2.2.2) :: hdT t :: tlT t) ++ (hdT T :: tlT T) := rfl
                rw [e0, rwL_app]
                constructor
                · refine rwL_fr _ _ (fun j jj1 jj2 => ?_) i4
                  have q7 := q2.2.2.2.2.2.2.1
                  have q8 := q2.2.2.2.2.2.2.2
                  simp only [List.length_cons] at jj2
                  unfold lnT at gs
                  refine ⟨?_, ?_, ?_, ?_⟩
                  · rw [q7 _ _ (by omega)]; simp only [zs]
                  · rw [q8 _ _ (by omega)]; simp only [zs]
                  · rw [q7 _ _ (by omega)]; simp only [zs]
                  · rw [q7 _ _ (by omega)]; simp only [zs]
                · have : s + (((45 : Int32), (0 : Int64), 2, (hdT t).2.2.2) :: hdT t :: tlT t).length = s' + 1 := by
                    simp only [List.length_cons]
                    unfold lnT at gs
                    omega
                  rw [this]
                  exact u14
              · rw [fT_app] at u15
                rw [assoc]
                exact u15
              · rw [acL_app]
                constructor
                · refine acL_fr As a (fun j jj1 jj2 => ?_) gac
                  obtain ⟨y1, y2, y3⟩ := ac3 j (by omega)
                  exact ⟨(u5.2.1 7 j (by unfold okM; omega)).trans y1, (u5.2.1 8 j (by unfold okM; omega)).trans y2, (u5.2.1 9 j (by unfold okM; omega)).trans y3⟩
                · rw [← ga']
                  refine ⟨⟨?_, ?_, ?_⟩, u16⟩
                  · rw [u5.2.1 7 a' (by unfold okM; omega)]; exact ac3'.1
                  · rw [u5.2.1 8 a' (by unfold okM; omega)]; exact ac3'.2.1
                  · rw [u5.2.1 9 a' (by unfold okM; omega), gpl]; exact ac3'.2.2
              · rw [← gpl]; show (hdT (tR t T)).2.2.2 = (hdT t).2.2.2; rw [(tT.2.2.1 t T).1]
              · have e6 : gi (si σ2 106 (nI (k' + 1))) 606 = gi σ 606 := frc.1 606 (by decide) (by decide) (by decide) (by decide)
                rw [e6] at v1
                refine ⟨?_, ?_⟩
                rotate_left
                · rw [vaL_n (e := hdT (tR t T)) (show ¬ ((45 : Int32) = 2 ∨ (45 : Int32) = 3) by decide), (tT.2.2.1 t T).2, show hdT t :: (tlT t ++ hdT T :: tlT T) = (hdT t :: tlT t) ++ (hdT T :: tlT T) from rfl, vaL_app, nLf_t t gok, ← gMe]
                  refine ⟨vaL_fr _ _ (fun j jj1 jj2 => ?_) gle.2, v1.2⟩
                  rw [nLf_t t gok] at jj2
                  rw [q2.2.1 47 j (by omega)]; simp only [zs]; rw [i6]
                show leL σ' (gi σ 606) M (lvs t ++ lvs T)
                rw [leL_app, ← gMe]
                refine ⟨leL_fr _ _ (fun j jj1 jj2 => ⟨?_, ?_, ?_⟩) gle.1, v1.1⟩
                · rw [q2.2.1 43 j (by omega)]; simp only [zs]; rw [i6]
                · rw [q2.2.2.2.1 44 j (by omega)]; simp only [zs]; rw [i7]
                · rw [q2.2.1 46 j (by omega)]; simp only [zs]; rw [i6]
              · show Mf = M + (lvs t ++ lvs T).length
                rw [List.length_append]
                omega
              · rw [u19]
                by_cases z : wp < 0
                · rw [if_pos z, if_neg (nI_pos (by have := tkP_le B n k; have := hB.1; omega))]
                · rw [if_neg z, if_neg z]
              · rw [u20, l17, g17]
              · rw [u21, l18, g18]
              · rw [show m + (kf - k) + 1 = (m + (kf - (k' + 1)) + 1) + (k' + 1 - k) by omega, hro3, u22]
        · -- no room for the arrow
          have hs200 : s' = 200 := by omega
          subst hs200
          obtain ⟨σ', t1, t2, t3, t4⟩ := c_tooMuch (F := F) hT gC
          have hf3 := hF3 rfl
          refine ⟨0, σ', ?_, frC_tr fr1 t4 (by omega) (by omega), Or.inl ⟨2, tkP B n k', τ3, by decide, Or.inl ⟨rfl, t2, t3⟩, ⟨frt0, hf3.1, hf3.2, ⟨a' + 1, by omega, h23.1⟩, N3, by omega, h23.2⟩, fun m => ?_⟩⟩
          · rw [hbody, if_neg (by decide), c_sort hT gC, bi_some, if_pos q45, gC.2.2.2.2.1, gd_t hX, (c_isFull hX gC gs2).2 rfl, bi_some, if_neg (by decide), t1, bi_some]
            rfl
          · rw [show m + (c + 2 - k) = (m + (c - k') + 1) + (k' + 1 - k) by omega, hro3, ro_end _ _ (by rw [hf3.1]; decide)]
      · -- the end of the type
        obtain ⟨τ3, N3, nw, n1, n2, n3, frt, hS3, m1, m2, m3, m4, l23, l25, l17, l18, nd3, ac3, ac3', h55⟩ := m_tend (F := F) hB gM gne gst q45 (by omega) (by omega) (by omega) glv hhd hp1 hlo gN gnd gR
        have frt0 : frM L lo a M τ τ3 := frM_tr (frM_tr (frM_rfl L lo a M τ) gfr (Nat.le_refl _) hlo (Nat.le_refl _) (Nat.le_refl _)) frt (Nat.le_refl _) (Nat.le_refl _) (by omega) (Nat.le_refl _)
        have hme3 : ∀ i, i < M' → meR σ1 τ3 i := meFin _ _ (fun j _ _ => rfl) rfl m1 m2 m3 m4
        refine ⟨1, σ1, ?_, fr1, Or.inr ⟨rfl, k', M', s', N3, (if ls = [] then a' else a' + 1), t, As ++ (if ls = [] then [] else [(1, nn, plT t)]), nw, τ3, hkk, g2, g3, ⟨gC, hS3, gne, hme3, gmb, gs2, by omega, ?_, ownR_fr fr1 frt0 how⟩, frt0, gok, gs, ?_, ?_, fun z => ?_, by omega, by omega, fun z => ?_, grw, nd3, ?_, gpl, gle, gMe, l23, l25, ?_, ?_, fun m => ?_⟩⟩
        · rw [hbody, if_neg (by decide), c_sort hT gC, bi_some, if_neg q45]
        · split <;> omega
        · split <;> simp only [List.length_append, List.length_cons, List.length_nil] <;> omega
        · split <;> simp only [List.length_append, List.length_cons, List.length_nil] <;> omega
        · rw [if_pos z]; simp only [List.length_append, List.length_nil]; omega
        · have := n3 z; omega
        · rw [acL_app]
          constructor
          · exact acL_fr As a (fun j jj1 jj2 => ac3 j (by omega)) gac
          · split
            · trivial
            · rename_i z
              rw [← ga', gpl]
              exact ⟨ac3' z, trivial⟩
        · rw [l17, g17]
        · rw [l18, g18]
        · rw [show m + (k' - k) + 1 = (m + 1) + (k' - k) by omega, gro, hit1, h55]
end J
