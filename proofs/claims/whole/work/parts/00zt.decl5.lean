/-! A text while it is read: one of its types. Own text. -/
theorem len_lenT : ∀ l : List TR, l.length ≤ lenT l
  | [] => Nat.le_refl _
  | (_, t, _, _, _) :: l => by simp only [List.length_cons, lenT]; have := len_lenT l; unfold lnT; omega
theorem soL_snoc {o : Nat} {t : TE} {nn : Nat} {As : List AE} {me : Int32} : ∀ (l : List TR) (lo : Nat), soL (o + 1) lo l → lo ≤ o → soL (o + 1) lo (l ++ [(o, t, nn, As, me)])
  | [], lo, _, hl => ⟨hl, by omega, trivial⟩
  | (_, _, _, _, _) :: l, lo, h, hl => ⟨h.1, h.2.1, soL_snoc l _ h.2.2 (by have := h.2.1; omega)⟩
theorem soL_up {D D' : Nat} (h : D ≤ D') : ∀ (l : List TR) (lo : Nat), soL D lo l → soL D' lo l
  | [], _, _ => trivial
  | (_, _, _, _, _) :: l, _, g => ⟨g.1, by have := g.2.1; omega, soL_up h l _ g.2.2⟩
theorem tkP_mono {B : Nat → Int32} {n c k : Nat} (hT : tEnd B n c) : ∀ d, k + d ≤ c → tkP B n k ≤ tkP B n (k + d)
  | 0, _ => Nat.le_refl _
  | d + 1, h => by
    have h1 := tkP_mono (k := k) hT d (by omega)
    have h2 := (tk_next (hT.2.2.2 (k + d) (by omega))).2
    show _ ≤ tkP B n (k + d + 1)
    omega
theorem WK_of {σ σ' τ τ' : zS} {M S R : Nat} (h : WK σ τ M S R) (h1 : gi σ' 306 = gi σ 306) (h2 : ∀ j, ga σ' j = ga σ j) (h3 : ∀ j, gb σ' j = gb σ j) (h4 : gi τ' 62 = gi τ 62) (h5 : gi τ' 48 = gi τ 48) (h5' : gi τ' 49 = gi τ 49) (h6 : gb τ' 42 = gb τ 42) (h7 : ∀ j, (j = 43 ∨ j = 44 ∨ j = 26 ∨ j = 27 ∨ j = 28 ∨ j = 29) → ga τ' j = ga τ j) : WK σ' τ' M S R := by
  obtain ⟨a1, a2, a3, a3', a4, a5, a6⟩ := h
  have ec : ∀ i, c4 σ' i = c4 σ i := fun i => c4_fr i (fun j _ => by rw [h2])
  refine ⟨by rw [h4, ec, a1], by rw [h1, a2], by rw [h5, a3], by rw [h5', a3'], a4, a5, fun i hi h => ?_⟩
  rw [ec]
  rw [h2] at h
  exact wiR_fr (a6 i hi h) (by rw [h3]) (by rw [h2]) (by rw [h2]) (by rw [h6]) (by rw [h7 43 (by omega)]) (by rw [h7 44 (by omega)]) (Nat.le_refl _) (Nat.le_refl _) (fun i _ => ⟨by rw [h2], by rw [h2], by rw [h2]⟩) (fun i _ => ⟨by rw [h7 26 (by omega)], by rw [h7 27 (by omega)], by rw [h7 28 (by omega)], by rw [h7 29 (by omega)]⟩)
theorem DC_of {σ σ' τ τ' : zS} {D : Nat} (h : DC σ τ D) (h1 : gi σ' 400 = gi σ 400) (h2 : ∀ j, j < 43 → ga σ' j = ga σ j) (h3 : ∀ j, j < 43 → gb σ' j = gb σ j) (h4 : gi τ' 52 = gi τ 52) (h5 : ∀ j, (j = 33 ∨ j = 35 ∨ j = 36 ∨ j = 38) → ga τ' j = ga τ j) (h6 : ∀ j, (j = 34 ∨ j = 37) → gb τ' j = gb τ j) : DC σ' τ' D := by
  obtain ⟨a1, a2, a3, a4⟩ := h
  exact ⟨by rw [h1, a1], by rw [h4, a2], a3, fun i hi => dcR_fr (a4 i hi) (fun j hj => by rw [h2 j (by omega)]) (by rw [h3 30 (by omega)]) (fun j _ => by rw [h3 33 (by omega)]) (fun j hj => by rw [h5 j hj]) (by rw [h6 34 (by omega)]) (fun j _ => by rw [h6 37 (by omega)])⟩
section T
variable {F : Nat} {B : Nat → Int32} {n c : Nat} {σ0 τ0 σ τ : zS} {k M s N a o S R : Nat} {TL : List TR} {so q it : Nat}
/-- the class has the fault of a text, or stands at the bad token -/
def dmT (B : Nat → Int32) (n c : Nat) (σ0 : zS) (r : Int32) (σ' : zS) (f : Int32) (p : Nat) : Prop := (r = 0 ∧ FC σ0 σ' f p) ∨ (r = 1 ∧ f = 1 ∧ frTC σ0 σ' ∧ ∃ k' M' s', cS B n c 10 σ' k' M' s' ∧ tkS B n k' = 0 ∧ p = tkP B n k')
theorem op_begin (hT : tEnd B n c) (h : JD B n c σ0 τ0 σ τ k M s N a o S R TL so q it) (h0 : tkS B n k ≠ 0) : ∃ σ1, Ro_beginTerm F σ 10 (nI o) = some (1, σ1) ∧ σ1 = ti (ta (ta σ 64 TL.length (nI s)) 65 TL.length (nI o)) 1007 (nI (TL.length + 1)) ∧ JO B n c 10 0 σ1 τ k M s N a := by
  obtain ⟨⟨hX, hb, hDC⟩, hAB, h39, h606, h32, h29, h32', h34, hso, hq3, hit, hCL⟩ := h
  obtain ⟨hJ, hL, hs, ha, hW, f1, f2⟩ := hX
  obtain ⟨jC, jM, jme, js, jN, ja⟩ := hJ
  have hlen := len_lenT TL
  have h1007 : mi σ (100 * 10 + 7) = nI TL.length := hL.1.1
  have h1004 : mi σ (100 * 10 + 4) = nI s := jC.2.2.2.2.2.1
  refine ⟨_, ?_, rfl, ?_⟩
  · rw [Ro_beginTerm, gd_t (by decide), h1007, h1004, if_pos (show nI TL.length ≤ (200 : Int32) from nI_le (b := 200) (by omega) (by omega)), gd_t (inb_nI (by omega) (by omega)), nI_clamp (by omega), nI_1]
    rfl
  · obtain ⟨c1, c2, c3, c4', c5, c6, c7, c8⟩ := jC
    refine ⟨⟨by simp [zs, c1], c2, by simp [zs, c3], by simpa only [zs] using c4', by simp [zs, c5], by simp only [zs] at c6 ⊢; simpa using c6, by simp [zs, c7], by simp [zs, c8]⟩, jM, h0, fun i hi => ?_, hb.1, js, by omega, ja, ?_⟩
    · have := jme i hi
      unfold meR at this ⊢
      simpa only [zs] using this
    · left
      simp only [zs]
      rw [h32, h606]
theorem op_term (hT : tEnd B n c) (h : JD B n c σ0 τ0 σ τ k M s N a o S R TL so q it) (hme : gi τ 67 = (if so = 2 then nI (mcT τ TL) else -1)) (hsy : so = 1 → soL o 0 TL) {σ1 : zS} (e1 : σ1 = ti (ta (ta σ 64 TL.length (nI s)) 65 TL.length (nI o)) 1007 (nI (TL.length + 1))) {oc oq : Option (Int32 × zS)} (hR : RdR B n c 10 0 σ1 τ k M s N a oc oq) : ∃ r σ2, oc = some (r, σ2) ∧ ((∃ f p τ', (f = 1 ∨ f = 2) ∧ dmT B n c σ0 r σ2 f p ∧ oq = some (0, τ') ∧ FS τ0 τ' f p ∧ (∃ a', a' ≤ 400 ∧ gi τ' 23 = nI a') ∧ gi τ' 32 = nI o) ∨ (r = 1 ∧ ∃ k' M' s' N' a' t As nn τ2, k < k' ∧ oq = some (nI nn, τ2) ∧ gi τ2 32 = nI o ∧ frP τ τ2 ∧ a' < 1600 ∧ gi τ2 23 = nI a' ∧ JD B n c σ0 τ0 σ2 (si (sa (sa (sa (if so = 1 then sa τ2 41 o (nI nn) else τ2) 7 a' (if so = 1 then 2 else 1)) 8 a' (nI nn)) 9 a' (gi τ2 19)) 23 (nI (a' + 1))) k' M' s' N' (a' + 1) o S R (TL ++ [(o, t, nn, As, gi τ 67)]) so q it)) := by
  have hB := hT.1
  have hR16 := TX_R hT h.1
  obtain ⟨ho, t36, t38, t33⟩ := JD_dc h
  obtain ⟨⟨hX, hb, hDC⟩, hAB, h39, h606, h32, h29, h32', h34, hso, hq3, hit, hCL⟩ := h
  obtain ⟨hJ, hL, hs, ha, hW, f1, f2⟩ := hX
  obtain ⟨jC, jM, jme, js, jN, ja⟩ := hJ
  have hlen := len_lenT TL
  have fT1 : frTC σ σ1 := by
    rw [e1]
    refine ⟨fun j _ => by simp [zs], fun j _ => by simp [zs], fun j => by simp [zs], fun j _ _ _ => by simp [zs], fun j => by simp [zs], fun j _ j2 => by simp [zs, j2], fun j hj => ?_, fun j _ => by simp [zs]⟩
    have j1 : j ≠ 64 := by omega
    have j2 : j ≠ 65 := by omega
    simp [zs, j1, j2]
  have g606 : gi σ1 606 = nI o := by rw [e1]; simp only [zs]; exact h606
  obtain ⟨r, σ2, eo, frc, res⟩ := hR
  refine ⟨r, σ2, eo, ?_⟩
  rcases res with ⟨f, p, τ', hf, hdm, hfl, eq⟩ | ⟨hr1, k', M', s', N', a', t, As, nn, τ2, u1, u2, u3, u4, u5, u6, u7, u8, u9, u10, u11, u12, u13, u14, u15, u16, u17, u18, u19⟩
  · left
    obtain ⟨v1, v2, v3, v4, N2, v5, v6⟩ := hfl
    refine ⟨f, p, τ', hf, ?_, eq, ⟨v2, v3, frTM_tr f2 (frTM_M v1), by obtain ⟨a', w1, w2⟩ := v4; exact ⟨a', by omega, w2⟩, ⟨N2, by omega, v6⟩, R, by omega, by rw [v1.1 48 (by unfold exM; omega), hW.2.2.1]⟩, v4, by rw [v1.1 32 (by unfold exM; omega), h32]⟩
    rcases hdm with ⟨d1, d2, d3⟩ | ⟨d1, d2, kb, Mb, sb, dC, _, _, _, _, dS, dp⟩
    · exact Or.inl ⟨d1, d2, d3, frTC_tr f1 (frTC_tr fT1 (frTC_C frc))⟩
    · exact Or.inr ⟨d1, d2, frTC_tr f1 (frTC_tr fT1 (frTC_C frc)), kb, Mb, sb, dC, dS, dp⟩
  · right
    subst hr1
    obtain ⟨oC, oM, one, ome, omb, os, oN, oa, oow⟩ := u4
    have p32 : gi τ2 32 = nI o := by rw [u5.1 32 (by unfold exM; omega), h32]
    have hlt : 0 < lnT t := by unfold lnT; omega
    refine ⟨rfl, k', M', s', N', a', t, As, nn, τ2, u1, u19, p32, frP_M u5, by omega, oM.2.2.2.2.2.2.1, ?_⟩
    obtain ⟨τ3, e3⟩ : ∃ τ3, τ3 = si (sa (sa (sa (if so = 1 then sa τ2 41 o (nI nn) else τ2) 7 a' (if so = 1 then 2 else 1)) 8 a' (nI nn)) 9 a' (gi τ2 19)) 23 (nI (a' + 1)) := ⟨_, rfl⟩
    rw [← e3]
    have z1 : ∀ j, j ≠ 23 → gi τ3 j = gi τ2 j := by intro j hj; rw [e3]; split <;> simp [zs, hj]
    have z2 : ∀ j, j ≠ 7 → j ≠ 8 → j ≠ 9 → j ≠ 41 → ga τ3 j = ga τ2 j := by intro j j1 j2 j3 j4; rw [e3]; split <;> simp [zs, j1, j2, j3, j4]
    have z3 : ∀ j, gb τ3 j = gb τ2 j := by intro j; rw [e3]; split <;> simp [zs]
    have z4 : ∀ j, gl τ3 j = gl τ2 j := by intro j; rw [e3]; split <;> simp [zs]
    have z41 : (so ≠ 1 → ga τ3 41 = ga τ2 41) ∧ (so = 1 → ga τ3 41 o = nI nn) ∧ ∀ i, i ≠ o → ga τ3 41 i = ga τ2 41 i := by
      refine ⟨fun hz => ?_, fun hz => ?_, fun i hi => ?_⟩
      · rw [e3, if_neg hz]; simp [zs]
      · rw [e3, if_pos hz]; simp [at_sa, at_si]
      · rw [e3]; split
        · simp [at_sa, at_si, hi]
        · simp [zs]
    have z7 : ∀ i, i < a' → ga τ3 7 i = ga τ2 7 i ∧ ga τ3 8 i = ga τ2 8 i ∧ ga τ3 9 i = ga τ2 9 i := by
      intro i hi
      have hi2 : i ≠ a' := by omega
      rw [e3]
      split <;> simp [at_sa, at_si, hi2]
    have z8 : ga τ3 7 a' = (if so = 1 then 2 else 1) ∧ ga τ3 8 a' = nI nn ∧ ga τ3 9 a' = nI (plT t) := by
      rw [e3, u18, u15]
      split <;> simp [at_sa, at_si]
    have z23 : gi τ3 23 = nI (a' + 1) := by rw [e3]; split <;> simp [zs]
    have q33 : ∀ i, ga τ3 33 i = ga τ 33 i := fun i => by rw [z2 33 (by decide) (by decide) (by decide) (by decide), u5.2.1 33 i (by unfold okM; omega)]
    have hmk := tkP_mono (k := k) hT (k' - k) (by omega)
    rw [show k + (k' - k) = k' by omega] at hmk
    have hne4 : ∀ i, M ≤ i → i < M' → ga σ2 43 i ≠ 4 := fun i i1 i2 => leL_ne4 _ _ u16.1 i i1 (by omega)
    have hW1 : WK σ1 τ M S R := WK_of hW (by rw [e1]; simp [zs]) (fun j => by rw [e1]; simp [zs]) (fun j => by rw [e1]; simp [zs]) rfl rfl rfl rfl (fun _ _ => rfl)
    have hW2 : WK σ2 τ2 M' S R := WK_fr frc u5 u3 hne4 hW1
    have hW3 : WK σ2 τ3 M' S R := WK_of hW2 rfl (fun _ => rfl) (fun _ => rfl) (z1 62 (by decide)) (z1 48 (by decide)) (z1 49 (by decide)) (z3 42) (fun j hj => z2 j (by omega) (by omega) (by omega) (by omega))
    have hc4 : c4 σ2 M' = c4 σ M := by
      have h1 := hW2.1
      rw [u5.1 62 (by unfold exM; omega), hW.1] at h1
      have b1 := c4_le σ M
      have b2 := c4_le σ2 M'
      have b3 : M' ≤ 600 := by have := omb.1; have := tkP_le B n k'; have := hB.1; omega
      exact ((nI_eq (a := c4 σ M) (b := c4 σ2 M') (by omega) (by omega)).mp h1).symm
    have hDC1 : DC σ1 τ (o + 1) := DC_of hDC (by rw [e1]; simp [zs]) (fun j _ => by rw [e1]; simp [zs]) (fun j _ => by rw [e1]; simp [zs]) rfl (fun _ _ => rfl) (fun _ _ => rfl)
    have hDC3 : DC σ2 τ3 (o + 1) := DC_of (DC_fr frc u5 hDC1) rfl (fun _ _ => rfl) (fun _ _ => rfl) (z1 52 (by decide)) (fun j hj => z2 j (by omega) (by omega) (by omega) (by omega)) (fun j _ => z3 j)
    have hsoL := hL.2.2.2
    obtain ⟨m1, m2, m3, m31, m17, m16, m23, m18⟩ := oM
    have hme3 : mcT τ3 TL = mcT τ TL := mcT_fr (fun i _ => q33 i) TL 0 hsoL
    have apo : ∀ i, i ≤ o → apos i (TL ++ [(o, t, nn, As, gi τ 67)]) = apos i TL := by
      intro i hi
      rw [apos_app]
      simp only [apos]
      rw [if_neg (by omega), Nat.add_zero]
    refine ⟨⟨⟨⟨oC, ⟨?_, ?_, ?_, ?_, ?_, ?_, z23, ?_⟩, fun i hi => ?_, os, by omega, by omega⟩, ⟨?_, ?_, ?_, soL_snoc TL 0 hsoL (Nat.zero_le _)⟩, ?_, ?_, hW3, frTC_tr f1 (frTC_tr fT1 (frTC_C frc)), frTM_tr f2 (frTM_tr (frTM_M u5) ?_)⟩, ⟨omb, by have := hb.2.1; omega, by have := hb.2.2; omega⟩, hDC3⟩, fun i hi => ?_, ?_, ?_, ?_, ?_, ?_, ?_, hso, hq3, hit, fun i hi => ?_⟩
    · rw [z2 1 (by decide) (by decide) (by decide) (by decide), m1]
    · rw [z1 2 (by decide), m2]
    · exact curT_of m3 (z1 3 (by decide)) (z1 4 (by decide)) (z1 5 (by decide)) (z1 7 (by decide)) (z1 8 (by decide)) (z1 9 (by decide)) (z4 6)
    · rw [z1 31 (by decide), m31]
    · rw [z1 17 (by decide), m17]
    · rw [z1 16 (by decide), m16]
    · rw [z1 18 (by decide), m18]
    · have w := ome i hi
      unfold meR at w ⊢
      rw [z2 10 (by decide) (by decide) (by decide) (by decide), z3 11, z2 12 (by decide) (by decide) (by decide) (by decide), z2 13 (by decide) (by decide) (by decide) (by decide), z2 15 (by decide) (by decide) (by decide) (by decide), z2 16 (by decide) (by decide) (by decide) (by decide)]
      exact w
    · refine ⟨by rw [frc.2.2.2.2.2.1 1007 (by decide), e1]; simp [zs], fun i hi h4 => ?_⟩
      rcases Nat.lt_or_ge i M with w | w
      · rw [frc.2.1 43 i (by omega), e1] at h4
        rw [frc.2.1 46 i (by omega), e1]
        simp only [zs] at h4 ⊢
        exact hL.1.2 i w h4
      · rw [g606] at u16
        have key : ∀ (l : List Nat) (i0 : Nat), leL σ2 (nI o) i0 l → ∀ j, i0 ≤ j → j < i0 + l.length → ga σ2 46 j = nI o := by
          intro l
          induction l with
          | nil => intro i0 _ j j1 j2; simp only [List.length_nil] at j2; omega
          | cons d l ih =>
            intro i0 hl j j1 j2
            simp only [List.length_cons] at j2
            rcases Nat.eq_or_lt_of_le j1 with y | y
            · subst y; exact hl.1.2.2
            · exact ih (i0 + 1) hl.2 j (by omega) (by omega)
        exact ⟨o, by omega, key _ M u16.1 i w (by omega)⟩
    · rw [cTL_app]
      have ma64 : ∀ i, ma σ2 64 i = ma σ1 64 i := fun i => frc.2.2.2.2.2.2.1 64 i (by unfold rA; omega)
      have ma65 : ∀ i, ma σ2 65 i = ma σ1 65 i := fun i => frc.2.2.2.2.2.2.1 65 i (by unfold rA; omega)
      constructor
      · refine cTL_fr u3 TL 0 0 (fun i hi => ?_) (fun i hi => ?_) (fun i hi => ?_) hL.2.1
        · have hi2 : i ≠ TL.length := by omega
          rw [ma64, ma65, e1]
          simp only [zs]
          simp [up_at, hi2]
        · rw [frc.2.2.2.2.2.2.1 60 i (by omega), frc.2.2.2.2.2.2.2 61 i (by omega), frc.2.2.2.2.2.2.1 62 i (by omega), frc.2.2.2.2.2.2.1 63 i (by omega), e1]
          simp [zs]
        · rw [frc.2.1 43 i (by omega), frc.2.2.2.1 44 i (by omega), frc.2.1 46 i (by omega), frc.2.1 47 i (by omega), e1]
          simp [zs]
      · rw [Nat.zero_add, Nat.zero_add]
        refine ⟨⟨?_, ?_, u6, ?_, ?_⟩, trivial⟩
        · rw [ma65, e1]; simp only [zs]; simp [up_at]
        · rw [ma64, e1, ← hs]; simp only [zs]; simp [up_at]
        · rw [← hs]; exact u12
        · rw [g606] at u16
          exact ⟨leL_lfM (lvs t) M u16.1 (by omega), lvA_in u6 u16 (by omega)⟩
    · rw [mTL_app]
      have low : ∀ i, ga τ3 2 i = ga τ2 2 i ∧ gb τ3 3 i = gb τ2 3 i ∧ ga τ3 4 i = ga τ2 4 i ∧ ga τ3 5 i = ga τ2 5 i := fun i => ⟨by rw [z2 2 (by decide) (by decide) (by decide) (by decide)], by rw [z3], by rw [z2 4 (by decide) (by decide) (by decide) (by decide)], by rw [z2 5 (by decide) (by decide) (by decide) (by decide)]⟩
      have lowN : ∀ i, i < N → ga τ3 2 i = ga τ 2 i ∧ gb τ3 3 i = gb τ 3 i ∧ ga τ3 4 i = ga τ 4 i ∧ ga τ3 5 i = ga τ 5 i := fun i hi => ⟨by rw [(low i).1, u5.2.1 2 i (by unfold okM; omega)], by rw [(low i).2.1, u5.2.2.2.1 3 i (by omega) (by omega)], by rw [(low i).2.2.1, u5.2.1 4 i (by unfold okM; omega)], by rw [(low i).2.2.2, u5.2.1 5 i (by unfold okM; omega)]⟩
      have lowA : ∀ i, i < a → ga τ3 7 i = ga τ 7 i ∧ ga τ3 8 i = ga τ 8 i ∧ ga τ3 9 i = ga τ 9 i := by
        intro i hi
        obtain ⟨w1, w2, w3⟩ := z7 i (by omega)
        exact ⟨by rw [w1, u5.2.1 7 i (by unfold okM; omega)], by rw [w2, u5.2.1 8 i (by unfold okM; omega)], by rw [w3, u5.2.1 9 i (by unfold okM; omega)]⟩
      have q41 : ∀ i, ga τ2 41 i = ga τ 41 i := fun i => u5.2.1 41 i (by unfold okM; omega)
      constructor
      · by_cases hz : so = 1
        · exact mTL_fr (D := o) u10 (fun i hi => ⟨q33 i, by rw [z41.2.2 i (by omega), q41]⟩) lowN TL 0 0 0 (hsy hz) (fun i hi => lowA i (by omega)) hL.2.2.1
        · exact mTL_fr (D := o + 1) u10 (fun i hi => ⟨q33 i, by rw [z41.1 hz, q41]⟩) lowN TL 0 0 0 hsoL (fun i hi => lowA i (by omega)) hL.2.2.1
      · rw [Nat.zero_add, Nat.zero_add, ← ha]
        have n33 : ga τ3 33 o = nI so := by rw [q33, t33]
        have e1' : (ga τ3 33 o = 1) ↔ so = 1 := by rw [n33]; exact nI_eq (a := so) (b := 1) (by omega) (by omega)
        have e2' : (ga τ3 33 o = 2) ↔ so = 2 := by rw [n33]; exact nI_eq (a := so) (b := 2) (by omega) (by omega)
        refine ⟨⟨?_, ?_, ?_, ?_, u9⟩, trivial⟩
        · rw [h32] at u13
          exact nd_mono (τ := τ2) (Nat.zero_le _) (Nat.le_refl _) (fun i _ _ => low i) t nn As u13
        · rw [acL_app]
          refine ⟨acL_fr As a (fun j j1 j2 => z7 j (by omega)) u14, ?_⟩
          rw [← u8]
          refine ⟨⟨?_, z8.2.1, z8.2.2⟩, trivial⟩
          rw [z8.1]
          by_cases hz : so = 1
          · rw [if_pos hz, if_pos (e1'.mpr hz)]; rfl
          · rw [if_neg hz, if_neg (fun w => hz (e1'.mp w))]; rfl
        · intro hz
          exact z41.2.1 (e1'.mp hz)
        · rw [hme, hme3]
          by_cases hz : so = 2
          · rw [if_pos hz, if_pos (e2'.mpr hz)]
          · rw [if_neg hz, if_neg (fun w => hz (e2'.mp w))]
    · rw [lenT_app]; simp only [lenT]; omega
    · rw [actT_app]; simp only [actT]; omega
    · refine ⟨fun j hj => ?_, fun j hj => ?_, fun j _ => z4 j, fun j _ _ _ _ _ => z3 j, fun _ => ⟨z1 8 (by decide), z1 9 (by decide)⟩, fun _ => z1 9 (by decide)⟩
      · unfold exMi at hj; exact z1 j (by omega)
      · unfold exMa at hj; exact z2 j (by omega) (by omega) (by omega) (by omega)
    · obtain ⟨w1, w2⟩ := hAB i hi
      rw [apo i (by omega), apo (i + 1) (by omega), z2 39 (by decide) (by decide) (by decide) (by decide), z2 40 (by decide) (by decide) (by decide) (by decide), u5.2.1 39 i (by unfold okM; omega), u5.2.1 40 i (by unfold okM; omega)]
      exact ⟨w1, w2⟩
    · rw [apo o (Nat.le_refl _), z2 39 (by decide) (by decide) (by decide) (by decide), u5.2.1 39 o (by unfold okM; omega), h39]
    · rw [frc.1 606 (by decide) (by decide) (by decide) (by decide), g606]
    · rw [z1 32 (by decide), p32]
    · rw [frc.2.1 29 o (by omega), e1]; simp only [zs]; exact h29
    · rw [frc.2.1 32 o (by omega), e1]; simp only [zs]; exact h32'
    · rw [frc.2.1 34 o (by omega), e1]; simp only [zs]; exact h34
    · rw [frc.2.1 29 i (by omega), frc.2.1 32 i (by omega), e1]; simp only [zs]; exact hCL i hi
end T
