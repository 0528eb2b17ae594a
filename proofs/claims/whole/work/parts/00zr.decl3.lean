/-! A text while it is read: the head of a declaration. Own text. -/
theorem tk_kw {B : Nat → Int32} {n k : Nat} (hB : byt B n) : (tkS B n k = 4 → tkN B n k = 1684108385) ∧ (tkS B n k = 5 → tkN B n k = 1954115685) ∧ (tkS B n k = 6 → tkN B n k = 427020088179) ∧ (tkS B n k = 7 → tkN B n k = 1802071652) := by
  have key : ∀ x : Int32, x = 4 ∨ x = 5 ∨ x = 6 ∨ x = 7 → tkS B n k = x → smS (tkN B n k) = x := by
    intro x hx h
    have h1 : tkP B n k < n := by
      rcases Nat.lt_or_ge (tkP B n k) n with q | q
      · exact q
      · rw [tkS_end (by have := tkP_le B n k; omega)] at h
        rcases hx with z | z | z | z <;> rw [z] at h <;> exact absurd h (by decide)
    obtain ⟨b, hb, eb⟩ := hB.2 _ h1
    have big : ∀ b, b < 256 → sgS (nI b) ≠ 4 ∧ sgS (nI b) ≠ 5 ∧ sgS (nI b) ≠ 6 ∧ sgS (nI b) ≠ 7 := by decide +kernel
    unfold tkS at h
    unfold tkN
    rw [if_pos h1] at h ⊢
    unfold tokS at h ⊢
    split at h
    · rename_i g
      rw [if_pos g]
      split at h
      · rename_i g2
        rw [if_pos g2]
        dsimp only at h ⊢
        split at h
        · rcases hx with z | z | z | z <;> rw [z] at h <;> exact absurd h (by decide)
        · exact h
      · dsimp only at h
        rcases hx with z | z | z | z <;> rw [z] at h <;> exact absurd h (by decide)
    · exfalso
      split at h
      · rename_i d
        dsimp only at h
        rcases d with d | d <;> rw [d.1] at h <;> rcases hx with z | z | z | z <;> rw [z] at h <;> exact absurd h (by decide)
      · dsimp only at h
        rw [eb] at h
        obtain ⟨b1, b2, b3, b4⟩ := big b hb
        rcases hx with z | z | z | z <;> rw [z] at h
        · exact b1 h
        · exact b2 h
        · exact b3 h
        · exact b4 h
  have inv : ∀ v : Int64, (smS v = 4 → v = 1684108385) ∧ (smS v = 5 → v = 1954115685) ∧ (smS v = 6 → v = 427020088179) ∧ (smS v = 7 → v = 1802071652) := by
    intro v
    unfold smS
    by_cases a1 : v = 1684108385
    · simp [a1]
    · by_cases a2 : v = 1954115685
      · simp [a2]
      · by_cases a3 : v = 427020088179
        · simp [a3]
        · by_cases a4 : v = 1802071652
          · simp [a4]
          · simp [a1, a2, a3, a4]
  refine ⟨fun h => (inv _).1 (key 4 (by simp) h), fun h => (inv _).2.1 (key 5 (by simp) h), fun h => (inv _).2.2.1 (key 6 (by simp) h), fun h => (inv _).2.2.2 (key 7 (by simp) h)⟩
section T
variable {F : Nat} {B : Nat → Int32} {n c : Nat} {σ0 τ0 σ τ : zS} {k M s N a D S R : Nat} {TL : List TR}
/-- a class has one parameter -/
def CL (σ : zS) (D : Nat) : Prop := ∀ i, i < D → ga σ 29 i = 2 → ga σ 32 i = 1
/-- inside declaration o, of sort so, with q parameters and it items so far -/
def JD (B : Nat → Int32) (n c : Nat) (σ0 τ0 σ τ : zS) (k M s N a o S R : Nat) (TL : List TR) (so q it : Nat) : Prop :=
  TX B n c σ0 τ0 σ τ k M s N a (o + 1) S R TL ∧ AB τ o TL ∧ ga τ 39 o = nI (apos o TL) ∧ gi σ 606 = nI o ∧ gi τ 32 = nI o ∧ ga σ 29 o = nI so ∧ ga σ 32 o = nI q ∧ ga σ 34 o = nI it ∧ so ≤ 2 ∧ q ≤ 3 ∧ it ≤ 6 ∧ CL σ o
theorem m_nx (hB : byt B n) (hF : 1300 ≤ F) (hM : mO B n τ k M s N a) (h0 : tkS B n k ≠ 0) : ∃ τ', Md_next F τ = some τ' ∧ frN τ τ' ∧ curT B n (k + 1) τ' := by
  obtain ⟨m1, m2, m3, _⟩ := hM
  obtain ⟨f8, f3⟩ := m3.2.2.2.1 h0
  exact m_next hB hF m1 m2 f8 f3
theorem m_wantName (h8 : gi τ 8 = 0) (x : Int32) : (gi τ 4 = x → Md_wantName F τ x = some (1, τ)) ∧ (gi τ 4 ≠ x → ∀ τ', Md_wrong F τ 1 (gi τ 5) = some τ' → Md_wantName F τ x = some (0, τ')) := by
  constructor
  · intro h
    rw [Md_wantName, h8, if_neg (by decide), if_pos h]
  · intro h τ' hw
    rw [Md_wantName, h8, if_neg (by decide), if_neg h, Md_wantName_15, Md_cannot, hw, bv_some, bv_some]
theorem m_wantName0 (h8 : 0 < gi τ 8) (x : Int32) : Md_wantName F τ x = some (0, τ) := by
  have hne : gi τ 8 ≠ 0 := by intro z; rw [z] at h8; exact absurd h8 (by decide)
  rw [Md_wantName, if_pos h8, Md_wantName_15, Md_cannot, Md_wrong, if_neg hne, Md_wrong_17, bv_some, bv_some]
theorem tokM_big (hB : byt B n) : (tkS B n k = 2 ↔ tokM (tkS B n k) = 1) ∧ (tkS B n k = 3 ↔ tokM (tkS B n k) = 2) ∧ ((tkS B n k = 4 ∨ tkS B n k = 5 ∨ tkS B n k = 6 ∨ tkS B n k = 7) ↔ tokM (tkS B n k) = 3) ∧ ((tkS B n k = 0 ∨ tkS B n k = 1) ↔ tokM (tkS B n k) = 5) := by
  obtain ⟨b, hb, eb⟩ := tkS_rng (k := k) hB
  have big : ∀ b, b < 256 → (nI b = 2 ↔ tokM (nI b) = 1) ∧ (nI b = 3 ↔ tokM (nI b) = 2) ∧ ((nI b = 4 ∨ nI b = 5 ∨ nI b = 6 ∨ nI b = 7) ↔ tokM (nI b) = 3) ∧ ((nI b = 0 ∨ nI b = 1) ↔ tokM (nI b) = 5) := by decide +kernel
  rw [eb]
  exact big b hb
theorem op_head (hT : tEnd B n c) (hF : 1300 ≤ F) (h : TX B n c σ0 τ0 σ τ k M s N a D S R TL) (hAB : AB τ D TL) (hCL : CL σ D) {so : Nat} (hso : so ≤ 2) (hk : tkS B n k = nI (4 + so)) : (∃ σ' τ' f p, (f = 1 ∨ f = 2) ∧ Pa_parseHead F σ (nI so) = some (0, σ') ∧ FC σ0 σ' f p ∧ Md_readDecl F τ = some τ' ∧ FS τ0 τ' f p) ∨ (∃ σ' τ', Pa_parseHead F σ (nI so) = some (1, σ') ∧ Md_readDecl F τ = (if so = 2 then bv (Md_readClass F τ') (fun x => Md_readDecl_216 F x) else bv (Md_readSides F τ' (nI so)) (fun x => Md_readDecl_216 F x)) ∧ JD B n c σ0 τ0 σ' τ' (k + 2) (M + 1) s N a D S R TL so 0 0 ∧ gi τ' 66 = gi τ 66 ∧ gi τ' 67 = gi τ 67 ∧ (∀ i, ga τ' 41 i = ga τ 41 i) ∧ (∀ i, i < D → ga τ' 33 i = ga τ 33 i)) := by
  have hB := hT.1
  have hkr : tkS B n k = 4 ∨ tkS B n k = 5 ∨ tkS B n k = 6 := by
    have : so = 0 ∨ so = 1 ∨ so = 2 := by omega
    rcases this with z | z | z <;> subst z
    · exact Or.inl hk
    · exact Or.inr (Or.inl hk)
    · exact Or.inr (Or.inr hk)
  have h0 : tkS B n k ≠ 0 := by rcases hkr with z | z | z <;> rw [z] <;> decide
  have h1 : tkS B n k ≠ 1 := by rcases hkr with z | z | z <;> rw [z] <;> decide
  have hJM := h.1.1.2.1
  obtain ⟨τ1, e1, fr1, cu1⟩ := m_nx (F := F) hB hF hJM h0
  obtain ⟨s1, X1, fc1, fm1⟩ := TX_step (F := F) hT h h1 h0 fr1 cu1
  have hC1 := X1.1.1.1
  have hM1 := X1.1.1.2.1
  -- the reference as far as the name
  have f4 : gi τ 4 = 3 := by
    rw [hJM.2.2.1.2.1]
    exact (tokM_big hB).2.2.1.mp (by rcases hkr with z | z | z; exact Or.inl z; exact Or.inr (Or.inl z); exact Or.inr (Or.inr (Or.inl z)))
  have f6 : gl τ 6 = tkN B n k := hJM.2.2.1.2.2.2.2.1 (by rcases hkr with z | z | z <;> rw [z] <;> decide)
  have hkw := tk_kw (k := k) hB
  have hrd : Md_readDecl F τ = Md_readDecl_46 F τ (nI so) := by
    have : so = 0 ∨ so = 1 ∨ so = 2 := by omega
    rcases this with z | z | z <;> subst z
    · rw [Md_readDecl, f6, hkw.1 hk, if_pos (by decide)]; rfl
    · rw [Md_readDecl, f6, hkw.2.1 hk, if_neg (by decide), if_pos (by decide)]; rfl
    · rw [Md_readDecl, f6, hkw.2.2.1 hk, if_neg (by decide), if_neg (by decide), if_pos (by decide)]; rfl
  have ns3 : ¬ nI so = 3 := by
    intro z
    have := (nI_eq (a := so) (b := 3) (by omega) (by omega)).mp z
    omega
  have hrd2 : Md_readDecl F τ = bi (Md_wantName F τ1 (1 : Int32)) (fun r5 σ4 => if r5 = 0 then (some σ4) else (if (gi σ4 52) = (16 : Int32) then (bv (Md_wrong F σ4 (2 : Int32) (gi σ4 5)) (fun σ20 => some σ20)) else (gd (inb (gi σ4 52) 17) (bv (Md_tell F (sa (sa (sa (sa (sb (sa (si (si σ4 32 (gi σ4 52)) 52 ((gi σ4 52) + (1 : Int32))) 33 (gi σ4 52).toNatClampNeg (nI so)) 34 (gi σ4 52).toNatClampNeg (gl σ4 6)) 35 (gi σ4 52).toNatClampNeg (gi σ4 5)) 36 (gi σ4 52).toNatClampNeg (0 : Int32)) 38 (gi σ4 52).toNatClampNeg (0 : Int32)) 39 (gi σ4 52).toNatClampNeg (gi σ4 23)) (0 : Int32) (-1 : Int32)) (fun σ11 => bv (Md_next F σ11) (fun σ13 => if nI so = (2 : Int32) then (bv (Md_readClass F σ13) (fun σ18 => Md_readDecl_216 F σ18)) else (bv (Md_readSides F σ13 (nI so)) (fun σ16 => Md_readDecl_216 F σ16)))))))) := by
    rw [hrd, Md_readDecl_46, if_pos f4, e1, bv_some]
    congr 1
    funext r5 σ4
    rw [if_neg ns3]
  have hph : Pa_parseHead F σ (nI so) = (if tkS B n (k + 1) = (2 : Int32) then (if (gi (si σ 106 (nI (k + 1))) 400) < (16 : Int32) then (bi (Ta_name F (si (si σ 106 (nI (k + 1))) 606 (gi (si σ 106 (nI (k + 1))) 400))) (fun r9 σ8 => bi (Ta_start F σ8) (fun r12 σ11 => bv (Te_declare F σ11 (nI so) r9 r12) (fun σ14 => bv (Me_add F σ14 (0 : Int32) (gi σ14 606)) (fun σ16 => bv (Ta_step F σ16) (fun σ18 => some ((1 : Int32), σ18))))))) else (bi (Pa_tooMuch F (si σ 106 (nI (k + 1)))) (fun r21 σ20 => gd (isB r21) (some (r21, σ20))))) else (bi (Pa_misfit F (si σ 106 (nI (k + 1)))) (fun r25 σ24 => gd (isB r25) (some (r25, σ24))))) := by
    rw [Pa_parseHead, s1, bv_some, c_sort hT hC1, bi_some]
  by_cases hn : tkS B n (k + 1) = 2
  · have h01 : tkS B n (k + 1) ≠ 0 := by rw [hn]; decide
    have h81 : gi τ1 8 = 0 := (hM1.2.2.1.2.2.2.1 h01).1
    have g4 : gi τ1 4 = 1 := by rw [hM1.2.2.1.2.1, hn]; decide
    have hwn := (m_wantName (F := F) h81 1).1 g4
    obtain ⟨d1, d2, d3, d4⟩ := X1.2.2
    rcases Nat.lt_or_ge D 16 with qD | qD
    · -- a new declaration
      right
      have g6 : gl τ1 6 = tkN B n (k + 1) := hM1.2.2.1.2.2.2.2.1 (by rw [hn]; decide)
      have g5 : gi τ1 5 = nI (tkP B n (k + 1)) := hM1.2.2.1.1
      have g23 : gi τ1 23 = nI a := hM1.2.2.2.2.2.2.1
      have nD : ¬ nI D = 16 := fun z => by have := (nI_eq (a := D) (b := 16) (by omega) (by omega)).mp z; omega
      obtain ⟨σ2, es2⟩ : ∃ σ2, σ2 = si (si σ 106 (nI (k + 1))) 606 (nI D) := ⟨_, rfl⟩
      obtain ⟨σ3, es3⟩ : ∃ σ3, σ3 = si (sa (sa (sa (sa (sa (sb (sa σ2 29 D (nI so)) 30 D (tkN B n (k + 1))) 31 D (nI (tkP B n (k + 1)))) 32 D 0) 34 D 0) 35 D 0) 37 D 0) 400 (nI (D + 1)) := ⟨_, rfl⟩
      obtain ⟨τ2, et2⟩ : ∃ τ2, τ2 = sa (sa (sa (sa (sb (sa (si (si τ1 32 (nI D)) 52 (nI (D + 1))) 33 D (nI so)) 34 D (tkN B n (k + 1))) 35 D (nI (tkP B n (k + 1)))) 36 D 0) 38 D 0) 39 D (nI a) := ⟨_, rfl⟩
      have fD : frD (si σ 106 (nI (k + 1))) σ3 := by
        rw [es3, es2]
        refine ⟨fun j j1 j2 => by simp [zs, j1, j2], fun j j1 j2 j3 j4 j5 j6 => by simp [zs, j1, j2, j3, j4, j5, j6], fun j => by simp [zs], fun j j1 j2 => by simp [zs, j1], fun j => by simp [zs], fun j => by simp [zs], fun j => by simp [zs], fun j => by simp [zs]⟩
      have fE : frE D τ1 τ2 := by
        rw [et2]
        refine ⟨fun j j1 j2 _ _ => by simp [zs, j1, j2], fun j j1 j2 j3 j4 j5 j6 => by simp [zs, j1, j2, j3, j4, j5], fun i hi => ?_, fun j => by simp [zs], fun j j1 j2 => by simp [zs, j1]⟩
        have hi2 : i ≠ D := by omega
        simp [at_sa, at_sb, at_si, hi2]
      have X2 : TXn B n c σ0 τ0 σ3 τ2 (k + 1) M s N a (D + 1) S R TL := TXn_dc X1.1 fD fE (by omega)
      have d32 : gi τ2 32 = nI D := by rw [et2]; simp [zs]
      have d606 : gi σ3 606 = nI D := by rw [es3, es2]; simp [zs]
      have hC3 := X2.1.1
      have bn1 := X1.2.1
      have hM6 : M < 600 := (mB_add hB bn1.1 (Or.inl hn)).1
      obtain ⟨σ4, τ3, t1, t2, X3, fc3, fm3, ec, ic3, im3, il3⟩ := TXn_tell (F := F) hT X2 (Or.inl hn) hM6 0 (nI D) (-1) (by decide) (by decide) (Or.inl d32) ⟨D, by omega, rfl⟩
      have hM3 := X3.1.2.1
      obtain ⟨τ4, e4, fr4, cu4⟩ := m_nx (F := F) hB hF hM3 h01
      obtain ⟨s4, X4, fc4, fm4⟩ := TXn_step (F := F) hT X3 (by rw [hn]; decide) h01 fr4 cu4
      have c4e : c4 (si σ4 106 (nI (k + 2))) (M + 1) = c4 (si σ 106 (nI (k + 1))) M := by
        rw [c4_fr (σ := σ4) (M + 1) (fun i _ => by simp [zs]), ec, c4_fr (σ := si σ 106 (nI (k + 1))) M (fun i _ => by rw [fD.2.1 43 (by decide) (by decide) (by decide) (by decide) (by decide) (by decide)])]
      have bn4 : bnT B n (k + 2) (M + 1) S (si σ4 106 (nI (k + 2))) := (bnT_tell hT (Or.inl hn) bn1 c4e).2
      -- the declarations
      have a3 : ∀ j, j < 43 → ga σ4 j = ga σ3 j := fun j hj => by funext i; exact fc3.2.1 j i (by omega)
      have b3 : ∀ j, j ≠ 44 → gb σ4 j = gb σ3 j := fun j hj => by funext i; exact fc3.2.2.2.1 j i (Or.inl hj)
      have A3 : ∀ j, (26 ≤ j) → ga τ3 j = ga τ2 j := fun j hj => by funext i; exact fm3.2.1 j i (by unfold okM; omega)
      have B3 : ∀ j, j ≠ 3 → j ≠ 11 → gb τ3 j = gb τ2 j := fun j hj hj2 => by funext i; exact fm3.2.2.2.1 j i (by omega) (by omega)
      obtain ⟨fa1, fa2, fa3, fa4, _⟩ := fr4
      have hDC : DC (si σ4 106 (nI (k + 2))) τ4 (D + 1) := by
        refine ⟨?_, ?_, by omega, fun i hi => ?_⟩
        · simp only [zs]; rw [if_neg (by decide), ic3 400 (by decide), es3]; simp [zs]
        · rw [fa1 52 (by decide) (by decide) (by decide) (by decide) (by decide) (by decide), im3 52 (by decide), et2]; simp [zs]
        · rcases Nat.lt_or_ge i D with q | q
          · have hiD : i ≠ D := by omega
            have hpD : ∀ j, j < 3 → 3 * i + j ≠ D ∨ True := fun _ _ => Or.inr trivial
            refine dcR_fr (d4 i q) (fun j hj => ?_) ?_ (fun j hj => ?_) (fun j hj => ?_) ?_ (fun j hj => ?_)
            · simp only [zs]; rw [a3 j (by omega), es3, es2]; simp [at_sa, at_sb, at_si, hiD]
            · simp only [zs]; rw [b3 30 (by decide), es3, es2]; simp [at_sa, at_sb, at_si, hiD]
            · simp only [zs]; rw [b3 33 (by decide), es3, es2]; simp [zs]
            · rw [fa2, A3 j (by omega), et2]; simp [at_sa, at_sb, at_si, hiD]
            · rw [fa4, B3 34 (by decide) (by decide), et2]; simp [at_sa, at_sb, at_si, hiD]
            · rw [fa4, B3 37 (by decide) (by decide), et2]; simp [zs]
          · have : i = D := by omega
            subst this
            refine ⟨so, 0, 0, hso, by omega, by omega, ?_, ?_, ?_, ?_, ?_, ?_, fun j hj => by omega, ?_, ?_, ?_, ?_⟩
            · simp only [zs]; rw [a3 29 (by omega), es3]; simp [at_sa, at_sb, at_si]
            · rw [fa2, A3 33 (by omega), et2]; simp [at_sa, at_sb, at_si]
            · simp only [zs]; rw [fa4, B3 34 (by decide) (by decide), b3 30 (by decide), et2, es3]; simp [at_sa, at_sb, at_si]
            · simp only [zs]; rw [fa2, A3 35 (by omega), a3 31 (by omega), et2, es3]; simp [at_sa, at_sb, at_si]
            · simp only [zs]; rw [a3 32 (by omega), es3]; simp [at_sa, at_sb, at_si]; rfl
            · rw [fa2, A3 36 (by omega), et2]; simp [at_sa, at_sb, at_si]; rfl
            · simp only [zs]; rw [a3 34 (by omega), es3]; simp [at_sa, at_sb, at_si]; rfl
            · rw [fa2, A3 38 (by omega), et2]; simp [at_sa, at_sb, at_si]; rfl
            · simp only [zs]; rw [a3 35 (by omega), es3]; simp [at_sa, at_sb, at_si]
            · simp only [zs]; rw [a3 37 (by omega), es3]; simp [at_sa, at_sb, at_si]
      have hsoL := X1.1.2.1.2.2.2
      refine ⟨si σ4 106 (nI (k + 2)), τ4, ?_, ?_, ⟨⟨X4, bn4, hDC⟩, ?_, ?_, ?_, ?_, ?_, ?_, ?_, hso, by omega, by omega, fun i hi => ?_⟩, ?_, ?_, ?_, ?_⟩
      · have h400 : gi (si σ 106 (nI (k + 1))) 400 = nI D := d1
        have hC2 : cS B n c 10 σ2 (k + 1) M s := by
          obtain ⟨q1, q2, q3, q4, q5, q6, q7, q8⟩ := hC1
          rw [es2]
          exact ⟨by simp [zs], q2, by simp only [zs] at q3 ⊢; simpa using q3, by simpa only [zs] using q4, by simpa only [zs] using q5, by simpa only [zs] using q6, by simp only [zs] at q7 ⊢; simpa using q7, by simp only [zs] at q8 ⊢; simpa using q8⟩
        have h2400 : gi σ2 400 = nI D := by rw [es2]; simp only [zs] at d1 ⊢; simpa using d1
        rw [hph, if_pos hn, h400, if_pos (show nI D < (16 : Int32) from nI_lt (b := 16) qD (by omega)), ← es2, c_name hT hC2, bi_some, c_start hT hC2, bi_some, Te_declare, h2400, if_neg (show ¬ (16 : Int32) ≤ nI D from nI_ge (b := 16) qD (by omega)), gd_t (inb_nI qD (by omega)), nI_clamp (by omega), Te_declare_90, nI_1, ← es3, bv_some, d606, t1, bv_some, s4, bv_some]
      · rw [hrd2, hwn, bi_some, if_neg (by decide), d2, if_neg nD, gd_t (inb_nI (by omega) (by omega)), nI_clamp (by omega), nI_1, g6, g5, g23, ← et2]
        have t2' : Md_tell F τ2 0 (-1) = some τ3 := t2
        rw [t2', bv_some, e4, bv_some]
        by_cases z : so = 2
        · subst z; rfl
        · rw [if_neg z, if_neg (show ¬ nI so = (2 : Int32) from fun z' => z ((nI_eq (a := so) (b := 2) (by omega) (by omega)).mp z'))]
      · intro i hi
        have hi2 : i ≠ D := by omega
        obtain ⟨q1, q2⟩ := hAB i hi
        rw [fa2 39, A3 39 (by omega), fa2 40, A3 40 (by omega), et2]
        refine ⟨?_, ?_⟩
        · simp only [at_sa, at_sb, at_si]; rw [if_neg (by omega), if_neg (by omega), if_neg (by omega), if_neg (by omega), if_neg (by omega), fm1.2.1 39 i (by unfold okM; omega), q1]
        · simp only [at_sa, at_sb, at_si]; rw [if_neg (by omega), if_neg (by omega), if_neg (by omega), if_neg (by omega), if_neg (by omega), fm1.2.1 40 i (by unfold okM; omega), q2]
      · rw [fa2, A3 39 (by omega), et2, apos_all TL 0 hsoL, ← X1.1.2.2.2.1]; simp [at_sa]
      · simp only [zs]; rw [if_neg (by decide), ic3 606 (by decide), d606]
      · rw [fa1 32 (by decide) (by decide) (by decide) (by decide) (by decide) (by decide), im3 32 (by decide), d32]
      · simp only [zs]; rw [a3 29 (by omega), es3]; simp [at_sa, at_sb, at_si]
      · simp only [zs]; rw [a3 32 (by omega), es3]; simp [at_sa, at_sb, at_si]; rfl
      · simp only [zs]; rw [a3 34 (by omega), es3]; simp [at_sa, at_sb, at_si]; rfl
      · have hiD : i ≠ D := by omega
        simp only [zs]
        rw [a3 29 (by omega), a3 32 (by omega), es3, es2]
        simp only [at_sa, at_sb, at_si]
        rw [if_neg (by omega), if_neg (by omega), if_neg (by omega), if_neg (by omega), if_neg (by omega), if_neg (by omega), if_neg (by omega), if_neg (by omega), if_neg (by omega), if_neg (by omega), if_neg (by omega), if_neg (by omega)]
        exact hCL i hi
      · rw [fa1 66 (by decide) (by decide) (by decide) (by decide) (by decide) (by decide), im3 66 (by decide), et2]; simp only [zs]; simpa using fm1.1 66 (by unfold exM; omega)
      · rw [fa1 67 (by decide) (by decide) (by decide) (by decide) (by decide) (by decide), im3 67 (by decide), et2]; simp only [zs]; simpa using fm1.1 67 (by unfold exM; omega)
      · intro i; rw [fa2, A3 41 (by omega), et2]; simp only [zs]; simpa using fm1.2.1 41 i (by unfold okM; omega)
      · intro i hi
        rw [fa2, A3 33 (by omega), fE.2.2.1 i hi, fm1.2.1 33 i (by unfold okM; omega)]
    · -- too many
      left
      have hD16 : D = 16 := by omega
      subst hD16
      obtain ⟨⟨σ', r1, r2⟩, r3⟩ := TX_raise (F := F) hT X1 2 (by decide)
      obtain ⟨τ', r4, r5, _⟩ := r3 h01
      have h400 : gi (si σ 106 (nI (k + 1))) 400 = nI 16 := d1
      refine ⟨σ', τ', 2, tkP B n (k + 1), Or.inr rfl, ?_, r2, ?_, r5⟩
      · have r1' : Pa_tooMuch F (si σ 106 (nI (k + 1))) = some (0, σ') := r1
        rw [hph, if_pos hn, h400, if_neg (by decide), r1', bi_some]
        rfl
      · rw [hrd2, hwn, bi_some, if_neg (by decide), d2, if_pos (show nI 16 = (16 : Int32) from rfl), r4, bv_some]
  · -- no name
    left
    obtain ⟨⟨σ', r1, r2⟩, r3⟩ := TX_raise (F := F) hT X1 1 (by decide)
    have r1' : Pa_misfit F (si σ 106 (nI (k + 1))) = some (0, σ') := r1
    have hcl : Pa_parseHead F σ (nI so) = some (0, σ') := by
      rw [hph, if_neg hn, r1', bi_some]
      rfl
    by_cases h01 : tkS B n (k + 1) = 0
    · have hb := TX_bad hT X1 h01
      refine ⟨σ', τ1, 1, tkP B n (k + 1), Or.inl rfl, hcl, r2, ?_, hb⟩
      rw [hrd2, m_wantName0 (by rw [hb.1]; decide), bi_some, if_pos rfl]
    · obtain ⟨τ', r4, r5, _⟩ := r3 h01
      have h81 : gi τ1 8 = 0 := (hM1.2.2.1.2.2.2.1 h01).1
      have g4 : gi τ1 4 ≠ 1 := by rw [hM1.2.2.1.2.1]; exact fun z => hn ((tokM_big hB).1.mpr z)
      refine ⟨σ', τ', 1, tkP B n (k + 1), Or.inl rfl, hcl, r2, ?_, r5⟩
      rw [hrd2, (m_wantName (F := F) h81 1).2 g4 τ' r4, bi_some, if_pos rfl]
end T
