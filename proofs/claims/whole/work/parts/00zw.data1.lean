/-! A text while it is read: data. Own text. -/
section T
variable {F : Nat} {B : Nat → Int32} {n c : Nat} {σ0 τ0 σ τ : zS} {k M s N a D o S R : Nat} {TL : List TR} {so q it : Nat}
theorem op_con (hT : tEnd B n c) (hF : 1300 ≤ F) (h : JD B n c σ0 τ0 σ τ k M s N a o S R TL so q it) (hk : tkS B n k = 2) (hit6 : it < 6) : ∃ σ' τ', (∀ K : zS → Option (Int32 × zS), bv (Me_add F (sa σ 34 o (nI (it + 1))) 1 (nI o)) (fun σ8 => bv (Ta_step F σ8) (fun σ10 => K σ10)) = K σ') ∧ (∀ K : zS → Option zS, bv (Md_tell F (sa τ 38 o (nI (it + 1))) 2 (-1)) (fun σ7 => bv (Md_next F σ7) (fun σ9 => K σ9)) = K τ') ∧ JD B n c σ0 τ0 σ' τ' (k + 1) (M + 1) s N a o S R TL so q (it + 1) ∧ frP τ τ' := by
  have hB := hT.1
  have hb := h.1.2.1
  have hso := h.2.2.2.2.2.2.2.2.1
  have hq3 := h.2.2.2.2.2.2.2.2.2.1
  obtain ⟨σ1, τ1, t1, t2, X1, dc1, ec, ab1, p39, p606, p32, p29, p32', p34, pCL, frp⟩ := op_item0 (F := F) hT h (Or.inl hk) 1 (Or.inl rfl) hit6
  have h0 : tkS B n k ≠ 0 := by rw [hk]; decide
  obtain ⟨τ2, e2, fr2, cu2⟩ := m_nx (F := F) hB hF X1.1.2.1 h0
  obtain ⟨s2, X2, fc2, fm2⟩ := TXn_step (F := F) hT X1 (by rw [hk]; decide) h0 fr2 cu2
  have c4e : c4 (si σ1 106 (nI (k + 1))) (M + 1) = c4 σ M := by rw [c4_fr (σ := σ1) (M + 1) (fun i _ => by simp [zs]), ec]
  refine ⟨si σ1 106 (nI (k + 1)), τ2, fun K => by rw [t1, bv_some, s2, bv_some], fun K => by
    have t2' : Md_tell F (sa τ 38 o (nI (it + 1))) 2 (-1) = some τ1 := t2
    rw [t2', bv_some, e2, bv_some], ⟨⟨X2, (bnT_tell hT (Or.inl hk) hb c4e).2, DC_fr fc2 fm2 dc1⟩, AB_fr fm2 ab1, by rw [fm2.2.1 39 o (by unfold okM; omega), p39], by rw [fc2.1 606 (by decide) (by decide) (by decide) (by decide), p606], by rw [fm2.1 32 (by unfold exM; omega), p32], by rw [fc2.2.1 29 o (by omega), p29], by rw [fc2.2.1 32 o (by omega), p32'], by rw [fc2.2.1 34 o (by omega), p34], hso, hq3, by omega, fun i hi => by rw [fc2.2.1 29 i (by omega), fc2.2.1 32 i (by omega)]; exact pCL i hi⟩, frP_tr frp (frP_M fm2)⟩
/-- the types of a constructor -/
theorem con_loop (hT : tEnd B n c) (hF : 1300 ≤ F) (rc2 : zS → Int32 → Option (Int32 × zS)) (cn : Int32) : ∀ (d m m2 k M s N a x2 : Nat) (TL : List TR) (σ τ : zS), c - k = d → d < m → d + 1 < m2 → JD B n c σ0 τ0 σ τ k M s N a o S R TL 0 q it → MCp τ TL → x2 ≤ s → ∃ σ', (∃ f p τ', (f = 1 ∨ f = 2) ∧ ((Pa_parseCons_76 F rc2 m σ cn (nI x2) = some (0, σ') ∧ FC σ0 σ' f p) ∨ (Pa_parseCons_76 F rc2 m σ cn (nI x2) = Pa_parseCons_120 F rc2 σ' cn ∧ dmT B n c σ0 1 σ' f p)) ∧ Md_readCon_56 F m2 τ = some τ' ∧ FS τ0 τ' f p ∧ gi τ' 32 = nI o) ∨ (∃ k' M' s' N' a' TL' τ', k ≤ k' ∧ Pa_parseCons_76 F rc2 m σ cn (nI x2) = Pa_parseCons_120 F rc2 σ' cn ∧ Md_readCon_56 F m2 τ = some τ' ∧ JD B n c σ0 τ0 σ' τ' k' M' s' N' a' o S R TL' 0 q it ∧ MCp τ' TL' ∧ (∃ L, TL' = TL ++ L) ∧ ga τ' 33 = ga τ 33 ∧ tkS B n k' ≠ 0) := by
  have hB := hT.1
  have hc := tE_c hT
  intro d
  induction d using Nat.strongRecOn with
  | _ d ih =>
    intro m m2 k M s N a x2 TL σ τ hd hm hm2 h hmc hx2
    have hR16 := TX_R hT h.1
    obtain ⟨ho, t36, t38, t33⟩ := JD_dc h
    obtain ⟨m, rfl⟩ : ∃ m', m = m' + 1 := ⟨m - 1, by omega⟩
    obtain ⟨m2, rfl⟩ : ∃ m', m2 = m' + 1 := ⟨m2 - 1, by omega⟩
    have hC := h.1.1.1.1
    have hM := h.1.1.1.2.1
    obtain ⟨g605, g606⟩ := JD_rg h
    have hturn : ¬ (200 : Int32) < nI x2 := nI_nlt (a := 200) (by omega) (by omega)
    have b1 : Pa_parseCons_76 F rc2 (m + 1) σ cn (nI x2) = bi (Pa_startsOne F σ) (fun r3 σ2 => if r3 = 0 then (Pa_parseCons_120 F rc2 σ2 cn) else (gd (isRow (gr σ2 605)) (bi (Ro_beginTerm F σ2 (gr σ2 605) (gi σ2 606)) (fun r8 σ6 => if r8 = 0 then (Pa_parseCons_112 F σ6) else (bi (Pa_parseOne F 12 σ6 (0 : Int32)) (fun r12 σ11 => if r12 = 0 then (Pa_parseCons_112 F σ11) else (Pa_parseCons_76 F rc2 m σ11 cn (nI (x2 + 1))))))))) := by
      show Pa_parseCons_b76 F rc2 (Pa_parseCons_76 F rc2 m) σ cn (nI x2) = _
      rw [Pa_parseCons_b76, if_neg hturn, nI_1]
    have b2 : Md_readCon_56 F (m2 + 1) τ = bi (Md_canBegin F τ) (fun r2 σ1 => if r2 = 0 then (some σ1) else (bi (Md_readOne F σ1) (fun r6 σ5 => bv (Md_act F σ5 (1 : Int32) r6 (gi σ5 19)) (fun σ8 => Md_readCon_56 F m2 σ8)))) := rfl
    by_cases h0 : tkS B n k = 0
    · obtain ⟨d1, d2⟩ := TX_dm hT h.1 h0
      refine ⟨σ, Or.inl ⟨1, tkP B n k, τ, Or.inl rfl, Or.inr ⟨?_, d1⟩, ?_, d2, h.2.2.2.2.1⟩⟩
      · rw [b1, (dm_sort (F := F) hT d1).2, bi_some, if_pos rfl]
      · rw [b2, fs_canB (by rw [d2.1]; decide), bi_some, if_pos rfl]
    · by_cases hst : stO (tkS B n k)
      · have hcb : Md_canBegin F τ = some (1, τ) := by
          have hmS : mS B n (si (si τ 42 (nI 0)) 18 (nI 0)) k M s N a 0 := by
            obtain ⟨m1, m2', m3, m31, m17, m16, m23, m18⟩ := hM
            exact ⟨by simp [zs, m1], by simp [zs, m2'], curT_of m3 (by simp [zs]) (by simp [zs]) (by simp [zs]) (by simp [zs]) (by simp [zs]) (by simp [zs]) (by simp [zs]), by simp [zs, m31], by simp [zs, m17], by simp [zs, m16], by simp [zs, m23], by simp [zs], by simp [zs]⟩
          have := (m_canB (F := F) hB hmS h0).1 hst
          have g8 : gi τ 8 = 0 := (hM.2.2.1.2.2.2.1 h0).1
          have g4 := hM.2.2.1.2.1
          have s40 := m_signO (F := F) hB hM h0 (y := 40) (by omega) (by omega)
          have s91 := m_signO (F := F) hB hM h0 (y := 91) (by omega) (by omega)
          rw [show sgM (nI 40) = 40 by decide, show nI 40 = (40 : Int32) from rfl] at s40
          rw [show sgM (nI 91) = 91 by decide, show nI 91 = (91 : Int32) from rfl] at s91
          rw [Md_canBegin, if_pos g8, g4]
          rcases hst with w | w | w | w
          · rw [w, if_pos (by decide)]; rfl
          · rw [w, if_neg (by decide), if_pos (by decide)]; rfl
          · have z1 := s40.1 w
            rw [w, if_neg (by decide), if_neg (by decide), z1, bi_some, if_neg (by decide)]; rfl
          · have z1 := s40.2 (by rw [w]; decide)
            have z2 := s91.1 w
            rw [w, if_neg (by decide), if_neg (by decide), z1, bi_some, if_pos rfl, z2, bi_some, if_neg (by decide)]; rfl
        have hst1 : tkS B n k ≠ 1 := by intro z; rw [z] at hst; rcases hst with w | w | w | w <;> exact absurd w (by decide)
        have hk := tEnd_s hT hC.2.1 hst1
        obtain ⟨σ1, e1, e2, e3⟩ := op_begin (F := F) hT h h0
        have hR := rd_one (F := F) hT (by decide) hF (by omega) e3 hst
        have hme2 : gi τ 67 = (if 0 = 2 then nI (mcT τ TL) else -1) := by rw [if_neg (by decide), hmc.2]
        obtain ⟨r, σ2, c1, c2⟩ := op_term hT h hme2 (fun z => absurd z (by decide)) e2 hR
        have hcl : Pa_parseCons_76 F rc2 (m + 1) σ cn (nI x2) = if r = 0 then some (0, σ2) else Pa_parseCons_76 F rc2 m σ2 cn (nI (x2 + 1)) := by
          rw [b1, (c_starts hT hC).1 hst, bi_some, if_neg (by decide), g605, gd_t (by decide), g606, e1, bi_some, if_neg (by decide), c1, bi_some]
          rfl
        rcases c2 with ⟨f, p, τ3, u1, u2, u3, u4, ⟨a3, u5, u5'⟩, u6⟩ | ⟨u0, k3, M3, s3, N3, a3, t, As, nn, τ3, u1, u2, u3, u4, u5, u6, u7⟩
        · have hact := m_act (F := F) (τ := τ3) (a := a3) u5' (by omega) 1 0 (gi τ3 19)
          have hFS : FS τ0 (si (sa (sa (sa τ3 7 a3 1) 8 a3 0) 9 a3 (gi τ3 19)) 23 (nI (a3 + 1))) f p := by
            obtain ⟨h1, h2, h3, _, ⟨N2, h5, h5'⟩, R', h6, h6'⟩ := u4
            refine ⟨by simp [zs, h1], by simp [zs, h2], frTM_tr h3 ⟨fun j hj => ?_, fun j hj => ?_, fun j _ => by simp [zs], fun j _ _ _ _ _ => by simp [zs], fun _ => ⟨by simp [zs], by simp [zs]⟩, fun _ => by simp [zs]⟩, ⟨a3 + 1, by omega, by simp [zs]⟩, ⟨N2, h5, by simp [zs, h5']⟩, R', h6, by simp [zs, h6']⟩
            · unfold exMi at hj
              have j1 : j ≠ 23 := by omega
              simp [zs, j1]
            · unfold exMa at hj
              have j1 : j ≠ 7 := by omega
              have j2 : j ≠ 8 := by omega
              have j3 : j ≠ 9 := by omega
              simp [zs, j1, j2, j3]
          have href : Md_readCon_56 F (m2 + 1) τ = some (si (sa (sa (sa τ3 7 a3 1) 8 a3 0) 9 a3 (gi τ3 19)) 23 (nI (a3 + 1))) := by
            rw [b2, hcb, bi_some, if_neg (by decide), u3, bi_some, hact, bv_some]
            obtain ⟨m2, rfl⟩ : ∃ m', m2 = m' + 1 := ⟨m2 - 1, by omega⟩
            show Md_readCon_b56 F (Md_readCon_56 F m2) _ = _
            rw [Md_readCon_b56, fs_canB (by rw [hFS.1]; exact (f_pos u1).1), bi_some, if_pos rfl]
          rcases u2 with ⟨z1, z2⟩ | ⟨z1, z2, z3⟩
          · subst z1
            exact ⟨σ2, Or.inl ⟨f, p, _, u1, Or.inl ⟨by rw [hcl, if_pos rfl], z2⟩, href, hFS, by simp [zs, u6]⟩⟩
          · subst z1
            have hdm : dmT B n c σ0 1 σ2 f p := Or.inr ⟨rfl, z2, z3⟩
            refine ⟨σ2, Or.inl ⟨f, p, _, u1, Or.inr ⟨?_, hdm⟩, href, hFS, by simp [zs, u6]⟩⟩
            obtain ⟨m, rfl⟩ : ∃ m', m = m' + 1 := ⟨m - 1, by omega⟩
            rw [hcl, if_neg (by decide)]
            show Pa_parseCons_b76 F rc2 (Pa_parseCons_76 F rc2 m) σ2 cn (nI (x2 + 1)) = _
            by_cases w : (200 : Int32) < nI (x2 + 1)
            · rw [Pa_parseCons_b76, if_pos w]
            · rw [Pa_parseCons_b76, if_neg w, (dm_sort (F := F) hT hdm).2, bi_some, if_pos rfl]
        · subst u0
          rw [if_neg (by decide), if_neg (by decide)] at u7
          have hact := m_act (F := F) (τ := τ3) (a := a3) u6 u5 1 (nI nn) (gi τ3 19)
          obtain ⟨τ4, e4⟩ : ∃ τ4, τ4 = si (sa (sa (sa τ3 7 a3 1) 8 a3 (nI nn)) 9 a3 (gi τ3 19)) 23 (nI (a3 + 1)) := ⟨_, rfl⟩
          rw [← e4] at u7 hact
          have href : Md_readCon_56 F (m2 + 1) τ = Md_readCon_56 F m2 τ4 := by
            rw [b2, hcb, bi_some, if_neg (by decide), u2, bi_some, hact, bv_some]
          have q33 : ga τ4 33 = ga τ 33 := by
            rw [e4]; simp only [zs]; rw [if_neg (by decide), if_neg (by decide), if_neg (by decide), u4.2.2.2]
          have hmc4 : MCp τ4 (TL ++ [(o, t, nn, As, gi τ 67)]) := by
            constructor
            · have em : mcT τ4 TL = mcT τ TL := mcT_fr (fun i _ => by rw [q33]) TL 0 h.1.1.2.1.2.2.2
              rw [mcT_app, em]
              simp only [mcT]
              rw [if_neg (by rw [q33, t33]; decide), e4]
              simp only [zs]
              rw [if_neg (by decide), u4.1, hmc.1]
              rfl
            · rw [e4]
              simp only [zs]
              rw [if_neg (by decide), u4.2.1, hmc.2]
          have hs3 : s < s3 := by
            have w1 := u7.1.1.2.2.1
            have w2 := h.1.1.2.2.1
            rw [lenT_app] at w1
            simp only [lenT] at w1
            unfold lnT at w1
            omega
          obtain ⟨σ', res⟩ := ih (c - k3) (by omega) m m2 k3 M3 s3 N3 (a3 + 1) (x2 + 1) _ σ2 τ4 rfl (by omega) (by omega) u7 hmc4 (by omega)
          refine ⟨σ', ?_⟩
          rcases res with ⟨f, p, τ', v1, v2, v3, v4, v5⟩ | ⟨k', M', s', N', a', TL', τ', v1, v2, v3, v4, v5, ⟨L, v6⟩, v7, v8⟩
          · left
            refine ⟨f, p, τ', v1, ?_, by rw [href, v3], v4, v5⟩
            rw [hcl, if_neg (by decide)]
            exact v2
          · right
            exact ⟨k', M', s', N', a', TL', τ', by omega, by rw [hcl, if_neg (by decide), v2], by rw [href, v3], v4, v5, ⟨(o, t, nn, As, gi τ 67) :: L, by rw [v6]; simp⟩, by rw [v7, q33], v8⟩
      · have hcb : Md_canBegin F τ = some (0, τ) := by
          have g8 : gi τ 8 = 0 := (hM.2.2.1.2.2.2.1 h0).1
          have g4 := hM.2.2.1.2.1
          have s40 := m_signO (F := F) hB hM h0 (y := 40) (by omega) (by omega)
          have s91 := m_signO (F := F) hB hM h0 (y := 91) (by omega) (by omega)
          rw [show sgM (nI 40) = 40 by decide, show nI 40 = (40 : Int32) from rfl] at s40
          rw [show sgM (nI 91) = 91 by decide, show nI 91 = (91 : Int32) from rfl] at s91
          have hst' := hst
          unfold stO at hst'
          have z1 := s40.2 (fun z => hst' (Or.inr (Or.inr (Or.inl z))))
          have z2 := s91.2 (fun z => hst' (Or.inr (Or.inr (Or.inr z))))
          rw [Md_canBegin, if_pos g8, g4, if_neg (fun z => hst' (Or.inl ((tokM_big hB).1.mpr z))), if_neg (fun z => hst' (Or.inr (Or.inl ((tokM_big hB).2.1.mpr z)))), z1, bi_some, if_pos rfl, z2, bi_some, if_pos rfl]
          rfl
        refine ⟨σ, Or.inr ⟨k, M, s, N, a, TL, τ, Nat.le_refl _, ?_, ?_, h, hmc, ⟨[], by simp⟩, rfl, h0⟩⟩
        · rw [b1, (c_starts hT hC).2 hst, bi_some, if_pos rfl]
        · rw [b2, hcb, bi_some, if_pos rfl]
end T
