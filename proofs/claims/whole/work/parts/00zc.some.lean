/-! Both readers side by side: a some. Own text. -/
section J
variable {F : Nat} {B : Nat → Int32} {n c X N0 : Nat} {h : Int32} {σ τ : zS} {k M s N a L : Nat}
theorem c_setVal0 (hC : cS B n c X σ k M s) {m : Nat} (hm : M ≤ m) (hm2 : m ≤ 600) (w : Int32) : Me_setValue F σ (nI m) w = some σ := by
  rw [Me_setValue, hC.2.2.2.2.2.2.1, if_pos (nI_le hm (by omega)), Me_setValue_15]
/-- the end of parseSome() in the class -/
theorem c_84 (hX : isRow X = true) (hC : cS B n c X σ k M s) (hs : s ≤ 200) (hM : M ≤ 600) {s0 M0 b : Nat} (h0 : s0 < s) (h1 : M0 ≤ M) {e : QE} {w : Int32} (hw : w = 0 ∨ w = 1) (rO : zS → Int32 → Option (Int32 × zS)) (hcnt : ma σ (rA X 2) s0 = nI e.2.2.1) : ∃ σ', Pa_parseSome_84 F rO σ (nI s0) (nI M0) w (nI b) = some (1, σ') ∧ cS B n c X σ' k M s ∧ frC X M0 s0 σ σ' ∧ (∀ l, rwL σ X s0 (e :: l) → rwL σ' X s0 ((e.1, e.2.1, e.2.2.1 + b, e.2.2.2) :: l)) ∧ (∀ j, gi σ' j = gi σ j) ∧ (∀ j, gb σ' j = gb σ j) ∧ (∀ j, j ≠ 47 → ga σ' j = ga σ j) ∧ (∀ i, (w = 1 → i ≠ M0) → ga σ' 47 i = ga σ 47 i) ∧ (w = 1 → M0 < M → ga σ' 47 M0 = nI b) := by
  have hgr : gr σ 605 = X := hC.2.2.2.2.1
  have cs : (nI s0).toNatClampNeg = s0 := nI_clamp (by omega)
  obtain ⟨σ1, e1⟩ : ∃ σ1, σ1 = ta σ (rA X 2) s0 (nI (e.2.2.1 + b)) := ⟨_, rfl⟩
  have n02 : rA X 0 ≠ rA X 2 := rA_ne (by decide)
  have n23 : rA X 3 ≠ rA X 2 := rA_ne (by decide)
  have C1 : cS B n c X σ1 k M s := by
    obtain ⟨h1, h2, h3, h4, h5, h6, h7, h8⟩ := hC
    subst e1
    exact ⟨by simp [zs, h1], h2, by simp [zs, h3], by simpa [zs] using h4, by simp [zs, h5], by simp [zs, h6], by simp [zs, h7], by simp [zs, h8]⟩
  have fr1 : frC X M0 s0 σ σ1 := by
    subst e1
    refine ⟨fun j _ _ _ _ => by simp [zs], fun j i _ => by simp [zs], fun j => by simp [zs], fun j i _ => by simp [zs], fun j => by simp [zs], fun j _ => by simp [zs], fun j i hji => ?_, fun j i _ => by simp [zs]⟩
    simp only [at_sa]
    have r2 : rA X 2 = rA X 0 + 2 := by unfold rA; omega
    have r3 : rA X 3 = rA X 0 + 3 := by unfold rA; omega
    rw [if_neg (by omega)]
  have rwl : ∀ l, rwL σ X s0 (e :: l) → rwL σ1 X s0 ((e.1, e.2.1, e.2.2.1 + b, e.2.2.2) :: l) := by
    intro l hr
    obtain ⟨⟨g1, g2, g3, g4⟩, g5⟩ := hr
    subst e1
    refine ⟨⟨?_, ?_, ?_, ?_⟩, rwL_fr l (s0 + 1) (fun j j1 j2 => ?_) g5⟩
    · simp only [at_sa]; rw [if_neg (fun z => n02 z.1)]; exact g1
    · simp only [at_sa]; exact g2
    · simp only [at_sa, and_self, if_true]
    · simp only [at_sa]; rw [if_neg (fun z => n23 z.1)]; exact g4
    · simp only [at_sa]
      rw [if_neg (by omega), if_neg (by omega), if_neg (by omega)]
      refine ⟨?_, ?_, ?_, ?_⟩ <;> first | rfl | trivial
  have e84 : Pa_parseSome_84 F rO σ (nI s0) (nI M0) w (nI b) = if w = 0 then Pa_parseSome_113 F rO σ1 else bv (Me_setValue F σ1 (nI M0) (nI b)) (fun σ4 => Pa_parseSome_113 F rO σ4) := by
    rw [Pa_parseSome_84, hgr, gd_t hX, gd_t (inb_nI (by omega) (by omega)), cs, hcnt, nI_add, ← e1]
  rcases hw with z | z
  · subst z
    refine ⟨σ1, by rw [e84, if_pos rfl]; rfl, C1, fr1, rwl, fun j => by rw [e1]; simp [zs], fun j => by rw [e1]; simp [zs], fun j _ => by rw [e1]; simp [zs], fun i _ => by rw [e1]; simp [zs], fun z => absurd z (by decide)⟩
  · subst z
    rcases Nat.lt_or_ge M0 M with q | q
    · obtain ⟨σ2, f1, f2, f3, f4, f5, f6, f7, f8, f9, f10⟩ := c_setVal (F := F) C1 hM q (nI b)
      refine ⟨σ2, by rw [e84, if_neg (by decide), f1, bv_some]; rfl, f2, frC_tr fr1 (frC_tr (frC_rfl X M0 s0 σ1) f3 (Nat.le_refl _) (by omega)) (Nat.le_refl _) (Nat.le_refl _), fun l hl => rwL_fr _ _ (fun j _ _ => ⟨by rw [f8], by rw [f9], by rw [f8], by rw [f8]⟩) (rwl l hl), fun j => by rw [f10, e1]; simp [zs], fun j => by rw [f7, e1]; simp [zs], fun j hj => by rw [f5 j hj, e1]; simp [zs], fun i hi => by rw [f6 i (hi rfl), e1]; simp [zs], fun _ _ => f4⟩
    · refine ⟨σ1, by rw [e84, if_neg (by decide), c_setVal0 C1 q (by omega), bv_some]; rfl, C1, fr1, rwl, fun j => by rw [e1]; simp [zs], fun j => by rw [e1]; simp [zs], fun j _ => by rw [e1]; simp [zs], fun i _ => by rw [e1]; simp [zs], fun _ z => absurd z (by omega)⟩
/-- a mention whose ones behind it are counted, and told in the class alone -/
def meP (σ τ : zS) (i b : Nat) : Prop := gb τ 11 i = gb σ 44 i ∧ ga τ 12 i = ga σ 45 i ∧ ga τ 10 i = rlM (ga σ 43 i) ∧ (ga τ 13 i = ga σ 46 i ∨ (ga σ 46 i = -1 ∧ ga τ 13 i < 0)) ∧ ga τ 15 i = 1 ∧ ga σ 47 i = nI b
/-- a some has been read, from the loop's state τ at token k; the some's first token k0 stood at M0, s0, Ns, as -/
def SomeG (F : Nat) (B : Nat → Int32) (n c X N0 : Nat) (h : Int32) (τ : zS) (k L k0 M0 s0 Ns as : Nat) (pr me w la wp ow : Int32) (σ' : zS) : Prop :=
  ∃ k' M' s' N' a' t As nn b τ1, k ≤ k' ∧ k' ≤ c ∧ M0 ≤ M' ∧ cS B n c X σ' k' M' s' ∧ mS B n τ1 k' M' s' N' a' L ∧ tkS B n k' ≠ 0 ∧ ¬ stO (tkS B n k') ∧ (∀ i, i < M' → (tkS B n k0 = 2 → i ≠ M0) → meR σ' τ1 i) ∧ (tkS B n k0 = 2 → M0 < M' ∧ meP σ' τ1 M0 b) ∧ mB B n k' M' ∧ s' ≤ 200 ∧ N' ≤ N0 + 2 * s' ∧ a' ≤ s' ∧ ownR σ' τ1 ∧ okT t ∧ isR t = false ∧ s' = s0 + lnT t ∧ a' = as + As.length ∧ As.length + 1 ≤ lnT t ∧ Ns ≤ N' ∧ N' + 1 ≤ Ns + 2 * lnT t ∧ rwL σ' X s0 (hdT t :: tlT t) ∧ nd τ1 pr me Ns N' t nn As ∧ acL τ1 as As ∧ plT t = tkP B n k0 ∧ b + 1 ≤ lnT t ∧ lvA σ' ow M0 t ∧ M' = M0 + (lvs t).length ∧ lvM τ1 L (nI nn) (if tkS B n k0 = 2 then nI M0 else -1) (nI b) (nI (tkP B n k0)) w la wp ∧ frM L Ns as M0 τ τ1 ∧ ga τ1 17 L = ga τ 17 L ∧ ga τ1 18 L = ga τ 18 L ∧ ∀ m, Md_readOpen_10 F (m + (k' - k)) τ h = Md_readOpen_10 F m τ1 h
theorem some_loop (hT : tEnd B n c) (hX : isRow X = true) (hF : 1300 ≤ F) (hN0 : N0 ≤ 500) (hL : L ≤ 8) (hh3 : ¬ (L = 0 ∧ h = 3)) {rO : zS → Int32 → Option (Int32 × zS)} (hO : ∀ σ τ k M s N a, JR B n c X N0 σ τ k M s N a L → stO (tkS B n k) → lvO τ L → OneR F B n c X N0 h σ τ k M s N a L (rO σ (nI L))) {k0 M0 s0 Ns as : Nat} {pr me w la wp x4 ow : Int32} (hx4 : x4 = if tkS B n k0 = 2 then 1 else 0) : ∀ (d m k M s N a b : Nat) (σ τ : zS) (t : TE) (nn : Nat) (As : List AE) (e : QE), c - k = d → d < m → JR B n c X N0 σ τ k M s N a L → M0 ≤ M → gi τ 32 = pr → gi τ 67 = me → okT t → isR t = false → s = s0 + lnT t → a = as + As.length → As.length + 1 ≤ lnT t → Ns ≤ N → N + 1 ≤ Ns + 2 * lnT t → hdT t = (e.1, e.2.1, e.2.2.1 + b, e.2.2.2) → rwL σ X s0 (e :: tlT t) → nd τ pr me Ns N t nn As → acL τ as As → plT t = tkP B n k0 → (leL σ ow M0 (lvs t) ∧ vaL σ M0 (e :: tlT t)) → M = M0 + (lvs t).length → gi σ 606 = ow → b + 1 ≤ lnT t → lvM τ L (nI nn) (if tkS B n k0 = 2 then nI M0 else -1) (nI b) (nI (tkP B n k0)) w la wp → (tkS B n k0 = 2 → (M0 < M ∧ e.1 = 2) ∧ ga τ 15 M0 = 1) → nn < 1000 → ∃ r σ', Pa_parseSome_50 F rO m σ (nI L) (nI s0) (nI M0) x4 (nI b) (nI b) = some (r, σ') ∧ frC X M0 s0 σ σ' ∧ (badR F B n c X N0 h τ k M0 s0 Ns as L r σ' ∨ (r = 1 ∧ SomeG F B n c X N0 h τ k L k0 M0 s0 Ns as pr me w la wp ow σ')) := by
  have hB := hT.1
  have hc := tE_c hT
  have hw : x4 = 0 ∨ x4 = 1 := by rw [hx4]; split; exact Or.inr rfl; exact Or.inl rfl
  intro d
  induction d using Nat.strongRecOn with
  | _ d ih =>
    intro m k M s N a b σ τ t nn As e hd hm hJ hM0 hpr hme okt isRt hs hA hA2 hNs hN2 hhd hrw hnd hac hpl hle hMe how6 hb hlv h15 hnn
    have hJ0 := hJ
    obtain ⟨hC, hMs, hne, hmeR, hmb, hs2, hN, ha, how⟩ := hJ
    obtain ⟨m, rfl⟩ : ∃ m', m = m' + 1 := ⟨m - 1, by omega⟩
    have hM6 : M ≤ 600 := by have := hmb.1; have := tkP_le B n k; have := hB.1; omega
    have hbody : Pa_parseSome_50 F rO (m + 1) σ (nI L) (nI s0) (nI M0) x4 (nI b) (nI b) = Pa_parseSome_b50 F rO (Pa_parseSome_50 F rO m) σ (nI L) (nI s0) (nI M0) x4 (nI b) (nI b) := rfl
    have hturn : ∀ b : Nat, b ≤ 200 → ¬ (200 : Int32) < nI b := fun b hb => nI_nlt (a := 200) hb (by omega)
    by_cases hst : stO (tkS B n k)
    · -- one more
      obtain ⟨r, σ1, e1, fr1, res⟩ := hO σ τ k M s N a hJ0 hst (Or.inr ⟨nn, b, hnn, hlv.1, hlv.2.2.1⟩)
      have hstep : Pa_parseSome_50 F rO (m + 1) σ (nI L) (nI s0) (nI M0) x4 (nI b) (nI b) = if r = 0 then some ((0 : Int32), σ1) else Pa_parseSome_50 F rO m σ1 (nI L) (nI s0) (nI M0) x4 (nI (b + 1)) (nI (b + 1)) := by
        rw [hbody, Pa_parseSome_b50, if_neg (hturn b (by omega)), (c_starts hT hC).1 hst, bi_some, if_neg (by decide), e1, bi_some, nI_1]
      have frw : frC X M0 s0 σ σ1 := frC_tr (frC_rfl X M0 s0 σ) fr1 hM0 (by omega)
      rcases res with ⟨f, p, τ', hf, hdm, hfl, hro⟩ | ⟨hr1, k', M', s', N', a', t2, As2, nn2, τ1, g1, g2, g3, gJ, gfr, gok, gisR, gs, ga', gA, gN, gN2, grw, gnd, gac, gpl, gle, gMe2, gbig, gro⟩
      · have hfl2 : flM N0 L Ns as M0 τ τ' f p := flM_tr (frM_rfl L Ns as M0 τ) hfl (Nat.le_refl _) hNs (by omega) hM0
        rcases hdm with ⟨d1, d2, d3⟩ | ⟨d1, d2, kb, Mb, sb, dC, ds1, ds2, dM1, dM2, dS, dp⟩
        · subst d1
          exact ⟨0, σ1, by rw [hstep, if_pos rfl], frw, Or.inl ⟨f, p, τ', hf, Or.inl ⟨rfl, d2, d3⟩, hfl2, hro⟩⟩
        · subst d1 d2
          have hcnt : ma σ1 (rA X 2) s0 = nI e.2.2.1 := by
            rw [fr1.2.2.2.2.2.2.1 _ _ (by omega)]; exact hrw.1.2.2.1
          obtain ⟨σ2, f1, f2, f3, _⟩ := c_84 (F := F) (b := b + 1) hX dC ds2 dM2 (s0 := s0) (M0 := M0) (by omega) (by omega) (e := e) hw rO hcnt
          refine ⟨1, σ2, ?_, frC_tr frw f3 (Nat.le_refl _) (Nat.le_refl _), Or.inl ⟨1, p, τ', hf, Or.inr ⟨rfl, rfl, kb, Mb, sb, f2, by omega, ds2, by omega, dM2, dS, dp⟩, hfl2, hro⟩⟩
          obtain ⟨m, rfl⟩ : ∃ m', m = m' + 1 := by
            have hk := tEnd_s hT hC.2.1 (show tkS B n k ≠ 1 by intro z; rw [z] at hst; rcases hst with q | q | q | q <;> exact absurd q (by decide))
            exact ⟨m - 1, by omega⟩
          rw [hstep, if_neg (by decide)]
          show Pa_parseSome_b50 F rO (Pa_parseSome_50 F rO m) σ1 (nI L) (nI s0) (nI M0) x4 (nI (b + 1)) (nI (b + 1)) = _
          rw [Pa_parseSome_b50, if_neg (hturn (b + 1) (by omega)), (c_starts hT dC).2 (by rw [dS]; unfold stO; decide), bi_some, if_pos rfl, f1]
      · subst hr1
        obtain ⟨jC, jM, jne, jme, jmb, js, jN, ja, jow⟩ := gJ
        have hln2 : 0 < lnT t2 := by unfold lnT; omega
        obtain ⟨jZ, jcu⟩ := mS_Z jM
        have lv1 : lvM τ1 L (nI nn) (if tkS B n k0 = 2 then nI M0 else -1) (nI b) (nI (tkP B n k0)) w la wp := by
          obtain ⟨v1, v2, v3, v4, v5, v6, v7⟩ := hlv
          have q := gfr.2.1
          exact ⟨(q 19 L (by unfold okM; omega)).trans v1, (q 20 L (by unfold okM; omega)).trans v2, (q 21 L (by unfold okM; omega)).trans v3, (q 22 L (by unfold okM; omega)).trans v4, (q 23 L (by unfold okM; omega)).trans v5, (q 24 L (by unfold okM; omega)).trans v6, (q 25 L (by unfold okM; omega)).trans v7⟩
        have hMM : M < 1400 := by omega
        obtain ⟨mt, hmtd⟩ : ∃ mt : Int32, mt = if tkS B n k = 2 then nI M else -1 := ⟨_, rfl⟩
        have hmt : mt = -1 ∨ ∃ m, mt = nI m ∧ M ≤ m ∧ m < 1400 := by
          by_cases z : tkS B n k = 2
          · right; exact ⟨M, by rw [hmtd, if_pos z], Nat.le_refl _, by omega⟩
          · left; rw [hmtd, if_neg z]
        obtain ⟨τ2, a1, aZ, ai, al, afr, alv, ⟨an1, an2, an3⟩, ⟨aa1, aa2, aa3⟩, ame, a16, agb, a15, a15', l17, l18⟩ := m_addn (F := F) jZ (by omega) (by omega) (by omega) hnn lv1 (nI nn2) (nI (tkP B n k)) hmt
        rw [hmtd] at a1
        have jM2 : mS B n τ2 k' M' s' (N' + 1) (a' + 1) L := mZ_S aZ (curT_of jcu (ai 3 (by decide) (by decide)) (ai 4 (by decide) (by decide)) (ai 5 (by decide) (by decide)) (ai 7 (by decide) (by decide)) (ai 8 (by decide) (by decide)) (ai 9 (by decide) (by decide)) (al 6))
        have hmeS : ∀ i, i < M' → meR σ1 τ2 i := by
          intro i hi
          have q := jme i hi
          by_cases z : tkS B n k = 2 ∧ i = M
          · obtain ⟨z1, z2⟩ := z
            subst z2
            obtain ⟨_, b1, b2, b3⟩ := gbig z1
            have m15 : ga τ2 15 i = 0 := a15 i (by rw [hmtd, if_pos z1]) hMM
            unfold meR at q ⊢
            rw [ame 10 (by omega) (by omega), agb 11, ame 12 (by omega) (by omega), ame 13 (by omega) (by omega)]
            exact ⟨q.1, q.2.1, q.2.2.1, q.2.2.2.1, fun _ => Or.inr ⟨m15, b3⟩⟩
          · have m15 : ga τ2 15 i = ga τ1 15 i := by
              apply a15'
              intro m' em hm'
              by_cases z1 : tkS B n k = 2
              · rw [hmtd, if_pos z1] at em
                have := (nI_eq (a := M) (b := m') (by omega) (by omega)).mp em
                intro zi
                exact z ⟨z1, by omega⟩
              · rw [hmtd, if_neg z1] at em
                have := nI_pos (n := m') (by omega)
                rw [← em] at this
                exact absurd (by decide) this
            unfold meR at q ⊢
            rw [ame 10 (by omega) (by omega), agb 11, ame 12 (by omega) (by omega), ame 13 (by omega) (by omega), m15, a16]
            exact q
        have frt : frM L N a M τ τ2 := frM_tr (frM_tr (frM_rfl L N a M τ) gfr (Nat.le_succ _) (Nat.le_refl _) (Nat.le_refl _) (Nat.le_refl _)) afr (Nat.le_refl _) (by omega) (by omega) (Nat.le_refl _)
        have hJ2 : JR B n c X N0 σ1 τ2 k' M' s' (N' + 1) (a' + 1) L := ⟨jC, jM2, jne, hmeS, jmb, js, by omega, by omega, ownR_fr fr1 frt how⟩
        have hro2 : ∀ m, Md_readOpen_10 F (m + (k' - k)) τ h = Md_readOpen_10 F m τ2 h := fun m => gro m τ2 a1
        have e32 : gi τ2 32 = pr := by rw [frt.1 32 (by unfold exM; omega), hpr]
        have e67 : gi τ2 67 = me := by rw [frt.1 67 (by unfold exM; omega), hme]
        have lnO : lnT (tO t t2) = lnT t + lnT t2 := by
          unfold lnT
          rw [(tT.2.1 t t2).2]
          simp only [List.length_append, List.length_cons]
          omega
        have ndt : nd τ2 pr me Ns (N' + 1) t nn As := nd_mono (τ := τ) (Nat.le_refl _) (by omega) (fun i i1 i2 => ⟨frt.2.1 2 i (by unfold okM; omega), frt.2.2.2.1 3 i (by omega) (by omega), frt.2.1 4 i (by unfold okM; omega), frt.2.1 5 i (by unfold okM; omega)⟩) t nn As hnd
        have ndt2 : nd τ2 pr me Ns (N' + 1) t2 nn2 As2 := by
          rw [hpr, hme] at gnd
          exact nd_mono (τ := τ1) hNs (by omega) (fun i i1 i2 => ⟨afr.2.1 2 i (by unfold okM; omega), afr.2.2.2.1 3 i (by omega) (by omega), afr.2.1 4 i (by unfold okM; omega), afr.2.1 5 i (by unfold okM; omega)⟩) t2 nn2 As2 gnd
        obtain ⟨r, σ', q1, q2, q3⟩ := ih (c - k') (by omega) m k' M' s' (N' + 1) (a' + 1) (b + 1) σ1 τ2 (tO t t2) N' (As ++ As2 ++ [(0, N', plT t2)]) e rfl (by omega) hJ2 (by omega) e32 e67 ⟨okt, gok⟩ rfl (by omega) (by simp only [List.length_append, List.length_cons, List.length_nil]; omega) (by simp only [List.length_append, List.length_cons, List.length_nil]; omega) (by omega) (by omega) (by rw [(tT.2.1 t t2).1, hhd]; rfl) (by
            rw [(tT.2.1 t t2).2]
            have : (e :: (tlT t ++ hdT t2 :: tlT t2)) = (e :: tlT t) ++ (hdT t2 :: tlT t2) := rfl
            rw [this, rwL_app]
            constructor
            · refine rwL_fr _ _ (fun j j1 j2 => ?_) hrw
              have q7 := fr1.2.2.2.2.2.2.1
              have q8 := fr1.2.2.2.2.2.2.2
              simp only [List.length_cons] at j2
              unfold lnT at hs
              exact ⟨q7 _ _ (by omega), q8 _ _ (by omega), q7 _ _ (by omega), q7 _ _ (by omega)⟩
            · have : s0 + (e :: tlT t).length = s := by
                simp only [List.length_cons]
                unfold lnT at hs
                omega
              rw [this]
              exact grw) ⟨by omega, by omega, an1, nn, nn2, As, As2, an2, an3, ndt, ndt2, rfl⟩ (by
            rw [acL_app, acL_app]
            refine ⟨⟨?_, ?_⟩, ?_⟩
            · exact acL_fr As as (fun j j1 j2 => ⟨frt.2.1 7 j (by unfold okM; omega), frt.2.1 8 j (by unfold okM; omega), frt.2.1 9 j (by unfold okM; omega)⟩) hac
            · rw [← hA]
              exact acL_fr As2 a (fun j j1 j2 => ⟨afr.2.1 7 j (by unfold okM; omega), afr.2.1 8 j (by unfold okM; omega), afr.2.1 9 j (by unfold okM; omega)⟩) gac
            · have : as + (As ++ As2).length = a' := by simp only [List.length_append]; omega
              rw [this]
              exact ⟨⟨aa1, aa2, by rw [gpl]; exact aa3⟩, trivial⟩) (by rw [← hpl]; show (hdT (tO t t2)).2.2.2 = (hdT t).2.2.2; rw [(tT.2.1 t t2).1]) (by
            rw [how6] at gle
            refine ⟨?_, ?_⟩
            · show leL σ1 ow M0 (lvs t ++ lvs t2)
              rw [leL_app, ← hMe]
              exact ⟨leL_fr _ _ (fun j j1 j2 => ⟨fr1.2.1 43 j (by omega), fr1.2.2.2.1 44 j (by omega), fr1.2.1 46 j (by omega)⟩) hle.1, gle.1⟩
            · have nl : nLf (e :: tlT t) = (lvs t).length := by rw [← nLf_t t okt]; exact nLf_e (by rw [hhd])
              rw [(tT.2.1 t t2).2, show e :: (tlT t ++ hdT t2 :: tlT t2) = (e :: tlT t) ++ (hdT t2 :: tlT t2) from rfl, vaL_app, nl, ← hMe]
              exact ⟨vaL_fr _ _ (fun j j1 j2 => by rw [fr1.2.1 47 j (by omega)]) hle.2, gle.2⟩) (by
            show M' = M0 + (lvs t ++ lvs t2).length
            rw [List.length_append]
            omega) (by rw [fr1.1 606 (by decide) (by decide) (by decide) (by decide), how6]) (by omega) alv (fun z => by
            obtain ⟨z1, z2⟩ := h15 z
            refine ⟨⟨by omega, z1.2⟩, ?_⟩
            rw [frt.2.1 15 M0 (by unfold okM; omega)]
            exact z2) (by omega)
        have hstep2 : Pa_parseSome_50 F rO (m + 1) σ (nI L) (nI s0) (nI M0) x4 (nI b) (nI b) = some (r, σ') := by rw [hstep, if_neg (by decide), q1]
        refine ⟨r, σ', hstep2, frC_tr frw q2 (Nat.le_refl _) (Nat.le_refl _), ?_⟩
        have frt0 : frM L Ns as M0 τ τ2 := frM_tr (frM_rfl L Ns as M0 τ) frt (Nat.le_refl _) hNs (by omega) hM0
        rcases q3 with ⟨f, p, τ', u1, u2, u3, u4⟩ | ⟨u0, kf, Mf, sf, Nf, af, tf, Asf, nnf, bf, τf, u1, u2, u3, u4, u5, u6, u7, u8, u9, u10, u11, u12, u13, u14, u15, u16, u17, u18, u19, u20, u21, u22, u23, u24, u25, v0, v1, v2, u26, u27, u28, u29, u30⟩
        · left
          refine ⟨f, p, τ', u1, u2, flM_tr frt0 u3 (Nat.le_refl _) (Nat.le_refl _) (Nat.le_refl _) (Nat.le_refl _), fun m => ?_⟩
          rw [show m + (c + 2 - k) = (m + (c + 2 - k')) + (k' - k) by omega, hro2, u4]
        · right
          refine ⟨u0, kf, Mf, sf, Nf, af, tf, Asf, nnf, bf, τf, by omega, u2, u3, u4, u5, u6, u7, u8, u9, u10, u11, u12, u13, u14, u15, u16, u17, u18, u19, u20, u21, u22, u23, u24, u25, v0, v1, v2, u26, frM_tr frt0 u27 (Nat.le_refl _) (Nat.le_refl _) (Nat.le_refl _) (Nat.le_refl _), ?_, ?_, fun m => ?_⟩
          · rw [u28, l17, gfr.2.1 17 L (by unfold okM; omega)]
          · rw [u29, l18, gfr.2.1 18 L (by unfold okM; omega)]
          · rw [show m + (kf - k) = (m + (kf - k')) + (k' - k) by omega, hro2, u30]
    · -- the end
      obtain ⟨σ2, f1, f2, f3, f4, f5, f6, f7, f8, f9⟩ := c_84 (F := F) (b := b) hX hC hs2 hM6 (s0 := s0) (M0 := M0) (by omega) hM0 (e := e) hw rO hrw.1.2.2.1
      refine ⟨1, σ2, ?_, f3, Or.inr ⟨rfl, k, M, s, N, a, t, As, nn, b, τ, Nat.le_refl _, hC.2.1, hM0, f2, hMs, hne, hst, ?_, ?_, hmb, hs2, hN, ha, ?_, okt, isRt, hs, hA, hA2, hNs, hN2, ?_, hnd, hac, hpl, hb, ?_, hMe, hlv, frM_rfl _ _ _ _ _, rfl, rfl, ?_⟩⟩
      · rw [hbody, Pa_parseSome_b50, if_neg (hturn b (by omega)), (c_starts hT hC).2 hst, bi_some, if_pos rfl, f1]
      · intro i hi hi2
        have q := hmeR i hi
        unfold meR at q ⊢
        rw [f6, f7 45 (by decide), f7 43 (by decide), f7 46 (by decide), f8 i (fun z => hi2 (by
          by_cases z2 : tkS B n k0 = 2
          · exact z2
          · rw [if_neg z2] at hx4; rw [hx4] at z; exact absurd z (by decide)))]
        exact q
      · intro z
        obtain ⟨z1, z2⟩ := h15 z
        rw [if_pos z] at hx4
        have q := hmeR M0 z1.1
        unfold meR at q
        unfold meP
        rw [f6, f7 45 (by decide), f7 43 (by decide), f7 46 (by decide)]
        exact ⟨z1.1, q.1, q.2.1, q.2.2.1, q.2.2.2.1, z2, f9 hx4 z1.1⟩
      · unfold ownR at how ⊢
        rw [f5]
        exact how
      · rw [hhd]
        exact f4 _ hrw
      · refine ⟨leL_fr _ _ (fun j _ _ => ⟨by rw [f7 43 (by decide)], by rw [f6], by rw [f7 46 (by decide)]⟩) hle.1, ?_⟩
        rw [hhd]
        by_cases z : tkS B n k0 = 2
        · obtain ⟨z1, z2⟩ := h15 z
          rw [if_pos z] at hx4
          have hv := hle.2
          rw [vaL_y (Or.inl z1.2)] at hv
          refine (vaL_y (e := (e.1, e.2.1, e.2.2.1 + b, e.2.2.2)) (Or.inl z1.2)).mpr ?_
          exact ⟨fun _ => ⟨b, f9 hx4 z1.1, Nat.le_add_left _ _⟩, vaL_fr _ _ (fun j j1 _ => f8 j (fun _ => by omega)) hv.2⟩
        · rw [if_neg z] at hx4
          exact vaL_hd (e := e) rfl (Nat.le_add_right _ _) (vaL_fr _ _ (fun j _ _ => f8 j (fun w => by rw [hx4] at w; exact absurd w (by decide))) hle.2)
      · intro m
        rw [Nat.sub_self]
        rfl
end J
