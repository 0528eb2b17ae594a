/-! A text while it is read: the end of a declaration; synonyms. Own text. -/
/-- the methods' counter between declarations -/
def MCp (τ : zS) (TL : List TR) : Prop := gi τ 66 = nI (mcT τ TL) ∧ gi τ 67 = -1
/-- each synonym has its type -/
def SY (τ : zS) (D : Nat) (TL : List TR) : Prop := ∀ i, i < D → ga τ 33 i = 1 → ∃ L1 t nn As me L2, TL = L1 ++ (i, t, nn, As, me) :: L2 ∧ soL i 0 L1
/-- the outcome of a declaration: a fault of both, or one more declaration -/
def DG (B : Nat → Int32) (n c : Nat) (σ0 τ0 : zS) (k o S R : Nat) (r : Int32) (σ' : zS) (oq : Option zS) : Prop :=
  (∃ f p τ', (f = 1 ∨ f = 2) ∧ dmT B n c σ0 r σ' f p ∧ oq = some τ' ∧ FS τ0 τ' f p) ∨ (r = 1 ∧ ∃ k' M' s' N' a' TL' τ', k < k' ∧ oq = some τ' ∧ TX B n c σ0 τ0 σ' τ' k' M' s' N' a' (o + 1) S R TL' ∧ AB τ' (o + 1) TL' ∧ MCp τ' TL' ∧ SY τ' (o + 1) TL' ∧ CL σ' (o + 1) ∧ tkS B n k' ≠ 0)
theorem CL_up {σ : zS} {o so q : Nat} (h : CL σ o) (h29 : ga σ 29 o = nI so) (h32 : ga σ 32 o = nI q) (hs : so ≤ 2) (hq : so = 2 → q = 1) : CL σ (o + 1) := by
  intro i hi hz
  rcases Nat.lt_or_ge i o with w | w
  · exact h i w hz
  · have : i = o := by omega
    subst this
    rw [h29] at hz
    have := hq ((nI_eq (a := so) (b := 2) (by omega) (by omega)).mp hz)
    rw [h32, this]
    rfl
theorem mcT_app (τ : zS) : ∀ l1 l2 : List TR, mcT τ (l1 ++ l2) = mcT τ l1 + mcT τ l2 := by
  intro l1
  induction l1 with
  | nil => intro l2; simp [mcT]
  | cons e l ih => intro l2; obtain ⟨o', t', n', A', m'⟩ := e; simp only [List.cons_append, mcT, ih]; omega
/-- a text between declarations -/
def JT (B : Nat → Int32) (n c : Nat) (σ0 τ0 σ τ : zS) (k M s N a D S R : Nat) (TL : List TR) : Prop :=
  TX B n c σ0 τ0 σ τ k M s N a D S R TL ∧ AB τ D TL ∧ MCp τ TL ∧ SY τ D TL ∧ CL σ D
section T
variable {F : Nat} {B : Nat → Int32} {n c : Nat} {σ0 τ0 σ τ : zS} {k M s N a D o S R : Nat} {TL : List TR} {so q it : Nat}
theorem fs_216 {f : Int32} {p : Nat} (h : FS τ0 τ f p) (h32 : gi τ 32 = nI o) (ho : o ≤ 16) : ∃ τ', Md_readDecl_216 F τ = some τ' ∧ FS τ0 τ' f p := by
  obtain ⟨h1, h2, h3, ⟨a', h4, h4'⟩, ⟨N2, h5, h5'⟩, R', h6, h6'⟩ := h
  refine ⟨sa τ 40 o (gi τ 23), by rw [Md_readDecl_216, h32, gd_t (inb_nI (by omega) (by omega)), nI_clamp (by omega)], by simp [zs, h1], by simp [zs, h2], frTM_tr h3 ?_, ⟨a', h4, by simp [zs, h4']⟩, ⟨N2, h5, by simp [zs, h5']⟩, R', h6, by simp [zs, h6']⟩
  refine ⟨fun j _ => by simp [zs], fun j hj => ?_, fun j _ => by simp [zs], fun j _ _ _ _ _ => by simp [zs], fun _ => ⟨by simp [zs], by simp [zs]⟩, fun _ => by simp [zs]⟩
  unfold exMa at hj
  have j1 : j ≠ 40 := by omega
  simp [zs, j1]
theorem op_close (hT : tEnd B n c) (h : JD B n c σ0 τ0 σ τ k M s N a o S R TL so q it) : ∃ τ', Md_readDecl_216 F τ = some τ' ∧ TX B n c σ0 τ0 σ τ' k M s N a (o + 1) S R TL ∧ AB τ' (o + 1) TL ∧ frP τ τ' := by
  obtain ⟨ho, t36, t38, t33⟩ := JD_dc h
  obtain ⟨⟨hX, hb, hDC⟩, hAB, h39, h606, h32, h29, h32', h34, hso, hq3, hit, hCL⟩ := h
  have h23 : gi τ 23 = nI a := hX.1.2.1.2.2.2.2.2.2.1
  have fE : frE (o + 1) τ (sa τ 40 o (nI a)) := ⟨fun j _ _ _ _ => by simp [zs], fun j j1 j2 j3 j4 j5 j6 => by simp [zs, j6], fun i _ => by simp [zs], fun j => by simp [zs], fun j j1 j2 => by simp [zs]⟩
  have hsoL := hX.2.1.2.2.2
  refine ⟨sa τ 40 o (nI a), by rw [Md_readDecl_216, h32, gd_t (inb_nI (by omega) (by omega)), nI_clamp (by omega), h23], ⟨TXn_dc hX (frD_rfl σ) fE (Nat.le_refl _), hb, DC_of hDC rfl (fun _ _ => rfl) (fun _ _ => rfl) (by simp [zs]) (fun j hj => ?_) (fun j _ => by simp [zs])⟩, fun i hi => ?_, by simp [zs], by simp [zs], by simp [zs], by simp [zs]⟩
  · have j1 : j ≠ 40 := by omega
    simp [zs, j1]
  · rcases Nat.lt_or_ge i o with q | q
    · obtain ⟨w1, w2⟩ := hAB i q
      simp only [at_sa]
      rw [if_neg (by omega), if_neg (by omega)]
      exact ⟨w1, w2⟩
    · have : i = o := by omega
      subst this
      simp only [at_sa]
      rw [if_neg (by omega), if_pos (by simp), apos_all TL 0 hsoL, ← hX.2.2.2.1]
      refine ⟨h39, ?_⟩
      first | rfl | trivial
theorem JD_rg (h : JD B n c σ0 τ0 σ τ k M s N a o S R TL so q it) : gr σ 605 = 10 ∧ gi σ 606 = nI o := ⟨h.1.1.1.1.2.2.2.2.1, h.2.2.2.1⟩
theorem SY_up {τ' : zS} {TL' L : List TR} (h : SY τ o TL) (e : TL' = TL ++ L) (h33 : ∀ i, i < o → ga τ' 33 i = ga τ 33 i) (hn : ga τ' 33 o ≠ 1 ∨ ∃ L1 t nn As me L2, TL' = L1 ++ (o, t, nn, As, me) :: L2 ∧ soL o 0 L1) : SY τ' (o + 1) TL' := by
  intro i hi hs
  rcases Nat.lt_or_ge i o with q | q
  · rw [h33 i q] at hs
    obtain ⟨L1, t, nn, As, me, L2, e2, e3⟩ := h i q hs
    exact ⟨L1, t, nn, As, me, L2 ++ L, by rw [e, e2]; simp, e3⟩
  · have : i = o := by omega
    subst this
    rcases hn with z | z
    · exact absurd hs z
    · exact z
/-- a synonym behind its head -/
theorem decl_type (hT : tEnd B n c) (hF : 1300 ≤ F) (h : JD B n c σ0 τ0 σ τ k M s N a o S R TL 1 0 0) (hsy : soL o 0 TL) (hmc : MCp τ TL) (hSY : SY τ o TL) : ∃ r σ', (∀ K : Int32 → zS → Option zS, bi (Pa_parseParams F σ) (fun r32 σ31 => if r32 = 0 then K 0 σ31 else (bi (Pa_expect F σ31 (61 : Int32)) (fun r36 σ35 => if r36 = 0 then K 0 σ35 else (gd (isRow (gr σ35 605)) (bi (Ro_beginTerm F σ35 (gr σ35 605) (gi σ35 606)) (fun r41 σ39 => if r41 = 0 then K 0 σ39 else (bi (Pa_parseType F 12 σ39 (0 : Int32)) (fun r45 σ44 => if r45 = 0 then K 0 σ44 else K 1 σ44)))))))) = K r σ') ∧ DG B n c σ0 τ0 k o S R r σ' (bv (Md_readSides F τ 1) (fun x => Md_readDecl_216 F x)) := by
  have hB := hT.1
  obtain ⟨ho, t36, t38, t33⟩ := JD_dc h
  obtain ⟨r1, σ1, e1, res1⟩ := par_loop (F := F) hT hF 1 3 F F k M 0 σ τ (by omega) (by omega) (by omega) h
  have hpar : Pa_parseParams F σ = some (r1, σ1) := e1
  rcases res1 with ⟨f, p, τ1, v1, v2, v3, v4, v5⟩ | ⟨v0, k1, M1, q1, τ1, v1, v2, v3, v4, v5⟩
  · -- a fault among the parameters
    have hpos := f_pos v1
    have hτ8 : gi τ1 8 ≠ 0 := by rw [v4.1]; exact hpos.1
    obtain ⟨τ2, w1, w2⟩ := fs_216 (F := F) v4 v5 (by omega)
    have href : bv (Md_readSides F τ 1) (fun x => Md_readDecl_216 F x) = some τ2 := by
      rw [Md_readSides, v3, Md_readSides_22, fs_want hτ8, bv_some, if_neg (by rw [v4.1]; exact hpos.2.2), bv_some, w1]
    by_cases hr : r1 = 0
    · subst hr
      refine ⟨0, σ1, fun K => by rw [hpar, bi_some, if_pos rfl], Or.inl ⟨f, p, τ2, v1, v2, href, w2⟩⟩
    · have hr1 : r1 = 1 := by
        rcases v2 with ⟨z, _⟩ | ⟨z, _⟩
        · exact absurd z hr
        · exact z
      subst hr1
      obtain ⟨σ2, x1, x2⟩ := dm_expect (F := F) hT v2 (x := 61) (by decide)
      refine ⟨0, σ2, fun K => by rw [hpar, bi_some, if_neg (by decide), x1, bi_some, if_pos rfl], Or.inl ⟨f, p, τ2, v1, Or.inl ⟨rfl, x2⟩, href, w2⟩⟩
  · subst v0
    have hw := op_want (F := F) hT hF v3.1 v4 (y := 61) (by omega) (by omega)
    have e61 : sgM (nI 61) = 61 := by decide
    have n61 : nI 61 = (61 : Int32) := rfl
    rw [e61, n61] at hw
    by_cases hk : tkS B n k1 = 61
    · obtain ⟨τ2, x1, x2, x3, x4, x5⟩ := hw.1 hk
      have hJ2 := JD_step v3 x3 x4 x5
      have frp2 : frP τ τ2 := frP_tr v5 (frP_M x5)
      obtain ⟨g605, g606⟩ := JD_rg hJ2
      by_cases h02 : tkS B n (k1 + 1) = 0
      · -- the token behind the sign is bad
        obtain ⟨d1, d2⟩ := TX_dm hT x3 h02
        have hτ8 : gi τ2 8 ≠ 0 := by rw [d2.1]; decide
        obtain ⟨τ3, w1, w2⟩ := fs_216 (F := F) d2 hJ2.2.2.2.2.1 (by omega)
        have href : bv (Md_readSides F τ 1) (fun x => Md_readDecl_216 F x) = some τ3 := by
          rw [Md_readSides, v2, Md_readSides_22, x2, bv_some, if_neg (by rw [d2.1]; decide), bv_some, w1]
        have hC2 := x3.1.1.1
        have hlen := len_lenT TL
        have hs2 := x3.1.2.2.1
        have hs3 := x3.1.1.2.2.2.1
        obtain ⟨σ2, b1⟩ : ∃ σ2, Ro_beginTerm F (si σ1 106 (nI (k1 + 1))) 10 (nI o) = some (1, σ2) ∧ σ2 = ti (ta (ta (si σ1 106 (nI (k1 + 1))) 64 TL.length (nI s)) 65 TL.length (nI o)) 1007 (nI (TL.length + 1)) := by
          refine ⟨_, ?_, rfl⟩
          have h1007 : mi (si σ1 106 (nI (k1 + 1))) (100 * 10 + 7) = nI TL.length := x3.1.2.1.1.1
          have h1004 : mi (si σ1 106 (nI (k1 + 1))) (100 * 10 + 4) = nI s := hC2.2.2.2.2.2.1
          rw [Ro_beginTerm, gd_t (by decide), h1007, h1004, if_pos (show nI TL.length ≤ (200 : Int32) from nI_le (b := 200) (by omega) (by omega)), gd_t (inb_nI (by omega) (by omega)), nI_clamp (by omega), nI_1]
          rfl
        obtain ⟨b1, b2⟩ := b1
        have hC3 : cS B n c 10 σ2 (k1 + 1) M1 s := by
          obtain ⟨c1, c2, c3, c4', c5, c6, c7, c8⟩ := hC2
          rw [b2]
          exact ⟨by simp only [zs] at c1 ⊢; simpa using c1, c2, by simp only [zs] at c3 ⊢; simpa using c3, by simpa only [zs] using c4', by simp only [zs] at c5 ⊢; exact c5, by simp only [zs] at c6 ⊢; simpa using c6, by simp only [zs] at c7 ⊢; simpa using c7, by simp only [zs] at c8 ⊢; simpa using c8⟩
        have fT1 : frTC (si σ1 106 (nI (k1 + 1))) σ2 := by
          rw [b2]
          refine ⟨fun j _ => by simp [zs], fun j _ => by simp [zs], fun j => by simp [zs], fun j _ _ _ => by simp [zs], fun j => by simp [zs], fun j _ j2 => by simp [zs, j2], fun j hj => ?_, fun j _ => by simp [zs]⟩
          have j1 : j ≠ 64 := by omega
          have j2 : j ≠ 65 := by omega
          simp [zs, j1, j2]
        obtain ⟨σ3, y1, y2, y3, y4⟩ := ty_bad (F := F) hT (by decide) hF 11 0 σ2 (k1 + 1) M1 s hC3 (by rw [h02]; unfold stO; decide)
        refine ⟨0, σ3, fun K => ?_, Or.inl ⟨1, tkP B n (k1 + 1), τ3, Or.inl rfl, Or.inl ⟨rfl, y2, y3, frTC_tr x3.1.2.2.2.2.2.1 (frTC_tr fT1 (frTC_C y4))⟩, href, w2⟩⟩
        rw [hpar, bi_some, if_neg (by decide), x1, bi_some, if_neg (by decide), g605, gd_t (by decide), g606, b1, bi_some, if_neg (by decide), y1, bi_some, if_pos rfl]
      · -- the type
        have hme2 : gi τ2 67 = (if 1 = 2 then nI (mcT τ2 TL) else -1) := by rw [if_neg (by decide), frp2.2.1, hmc.2]
        obtain ⟨σ2, b1, b2, b3⟩ := op_begin (F := F) hT hJ2 h02
        have hR := rd_type (F := F) hT (by decide) hF (by omega) b3
        obtain ⟨r, σ3, c1, c2⟩ := op_term hT hJ2 hme2 (fun _ => hsy) b2 hR
        have hcl : ∀ K : Int32 → zS → Option zS, bi (Pa_parseParams F σ) (fun r32 σ31 => if r32 = 0 then K 0 σ31 else (bi (Pa_expect F σ31 (61 : Int32)) (fun r36 σ35 => if r36 = 0 then K 0 σ35 else (gd (isRow (gr σ35 605)) (bi (Ro_beginTerm F σ35 (gr σ35 605) (gi σ35 606)) (fun r41 σ39 => if r41 = 0 then K 0 σ39 else (bi (Pa_parseType F 12 σ39 (0 : Int32)) (fun r45 σ44 => if r45 = 0 then K 0 σ44 else K 1 σ44)))))))) = if r = 0 then K 0 σ3 else K 1 σ3 := by
          intro K
          rw [hpar, bi_some, if_neg (by decide), x1, bi_some, if_neg (by decide), g605, gd_t (by decide), g606, b1, bi_some, if_neg (by decide), c1, bi_some]
        have g82 : gi τ2 8 = 0 := (x3.1.1.2.1.2.2.1.2.2.2.1 h02).1
        have href0 : bv (Md_readSides F τ 1) (fun x => Md_readDecl_216 F x) = bv (bi (Md_readType F τ2) (fun r8 σ7 => gd (inb (gi σ7 32) 17) (bv (Md_act F (sa σ7 41 (gi σ7 32).toNatClampNeg r8) (2 : Int32) r8 (gi σ7 19)) (fun σ11 => some σ11)))) (fun x => Md_readDecl_216 F x) := by
          rw [Md_readSides, v2, Md_readSides_22, x2, bv_some, g82, if_pos (by decide), if_pos rfl]
        rcases c2 with ⟨f, p, τ3, u1, u2, u3, u4, ⟨a3, u5, u5'⟩, u6⟩ | ⟨u0, k3, M3, s3, N3, a3, t, As, nn, τ3, u1, u2, u3, u4, u5, u6, u7⟩
        · have hact := m_act (F := F) (τ := sa τ3 41 o 0) (a := a3) (by simp [zs, u5']) (by omega) 2 0 (gi τ3 19)
          have hFS : FS τ0 (si (sa (sa (sa (sa τ3 41 o 0) 7 a3 2) 8 a3 0) 9 a3 (gi τ3 19)) 23 (nI (a3 + 1))) f p := by
            obtain ⟨h1, h2, h3, _, ⟨N2, h5, h5'⟩, R', h6, h6'⟩ := u4
            refine ⟨by simp [zs, h1], by simp [zs, h2], frTM_tr h3 ⟨fun j hj => ?_, fun j hj => ?_, fun j _ => by simp [zs], fun j _ _ _ _ _ => by simp [zs], fun _ => ⟨by simp [zs], by simp [zs]⟩, fun _ => by simp [zs]⟩, ⟨a3 + 1, by omega, by simp [zs]⟩, ⟨N2, h5, by simp [zs, h5']⟩, R', h6, by simp [zs, h6']⟩
            · unfold exMi at hj
              have j1 : j ≠ 23 := by omega
              simp [zs, j1]
            · unfold exMa at hj
              have j1 : j ≠ 7 := by omega
              have j2 : j ≠ 8 := by omega
              have j3 : j ≠ 9 := by omega
              have j4 : j ≠ 41 := by omega
              simp [zs, j1, j2, j3, j4]
          obtain ⟨τ4, w1, w2⟩ := fs_216 (F := F) (o := o) hFS (by simp [zs, u6]) (by omega)
          have href : bv (Md_readSides F τ 1) (fun x => Md_readDecl_216 F x) = some τ4 := by
            rw [href0, u3, bi_some, u6, gd_t (inb_nI (by omega) (by omega)), nI_clamp (by omega), hact, bv_some, bv_some, w1]
          rcases u2 with ⟨z1, z2⟩ | ⟨z1, z2, z3⟩
          · subst z1
            exact ⟨0, σ3, fun K => by rw [hcl, if_pos rfl], Or.inl ⟨f, p, τ4, u1, Or.inl ⟨rfl, z2⟩, href, w2⟩⟩
          · subst z1
            exact ⟨1, σ3, fun K => by rw [hcl, if_neg (by decide)], Or.inl ⟨f, p, τ4, u1, Or.inr ⟨rfl, z2, z3⟩, href, w2⟩⟩
        · subst u0
          rw [if_pos rfl, if_pos rfl] at u7
          obtain ⟨τ4, w1, w2, w3, w4⟩ := op_close (F := F) hT u7
          have hact := m_act (F := F) (τ := sa τ3 41 o (nI nn)) (a := a3) (by simp [zs, u6]) u5 2 (nI nn) (gi τ3 19)
          have href : bv (Md_readSides F τ 1) (fun x => Md_readDecl_216 F x) = some τ4 := by
            rw [href0, u2, bi_some, u3, gd_t (inb_nI (by omega) (by omega)), nI_clamp (by omega), hact, bv_some, bv_some, w1]
          have q33 : ga τ4 33 = ga τ 33 := by
            rw [w4.2.2.2]
            simp only [zs]
            rw [if_neg (by decide), if_neg (by decide), if_neg (by decide), if_neg (by decide), u4.2.2.2, frp2.2.2.2]
          have hn33 : ga τ4 33 o ≠ 2 := by rw [q33, t33]; decide
          by_cases h03 : tkS B n k3 = 0
          · obtain ⟨d1, d2⟩ := TX_dm hT w2 h03
            exact ⟨1, σ3, fun K => by rw [hcl, if_neg (by decide)], Or.inl ⟨1, tkP B n k3, τ4, Or.inl rfl, d1, href, d2⟩⟩
          · refine ⟨1, σ3, fun K => by rw [hcl, if_neg (by decide)], Or.inr ⟨rfl, k3, M3, s3, N3, a3 + 1, _, τ4, by omega, href, w2, w3, ⟨?_, ?_⟩, SY_up hSY rfl (fun i _ => by rw [q33]) (Or.inr ⟨TL, t, nn, As, gi τ2 67, [], rfl, hsy⟩), CL_up u7.2.2.2.2.2.2.2.2.2.2.2 u7.2.2.2.2.2.1 u7.2.2.2.2.2.2.1 (by omega) (fun z => absurd z (by decide)), h03⟩⟩
            · rw [w4.1]
              simp only [zs]
              rw [if_neg (by decide), u4.1, frp2.1, hmc.1]
              have em : mcT τ4 TL = mcT τ TL := mcT_fr (fun i _ => by rw [q33]) TL 0 hsy
              rw [mcT_app, em]
              simp only [mcT]
              rw [if_neg hn33]
              rfl
            · rw [w4.2.1]
              simp only [zs]
              rw [if_neg (by decide), u4.2.1, frp2.2.1, hmc.2]
    · obtain ⟨σ2, τ2, x1, x2, x3, x4, x5⟩ := hw.2 hk
      have h32' : gi τ2 32 = nI o := by rw [x5]; exact v3.2.2.2.2.1
      obtain ⟨τ3, w1, w2⟩ := fs_216 (F := F) x4 h32' (by omega)
      refine ⟨0, σ2, fun K => by rw [hpar, bi_some, if_neg (by decide), x1, bi_some, if_pos rfl], Or.inl ⟨1, tkP B n k1, τ3, Or.inl rfl, Or.inl ⟨rfl, x2⟩, ?_, w2⟩⟩
      rw [Md_readSides, v2, Md_readSides_22, x3, bv_some, if_neg (by rw [x4.1]; decide), bv_some, w1]
end T
