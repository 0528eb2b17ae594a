/-! A question of two types: both solve alike. Own text. -/
section K
variable {F : Nat} {σ τ σa τa : zS} {D N0 : Nat} {G H : SG} {rr : Int32}
theorem ask2_sv (hF : 20000 ≤ F) (hBS : BS σ τ D G H N0) (hAX : AX σ τ σa τa N0 (gn H)) {M s N a M1 s1 N1 a1 nn nn2 : Nat} {t t2 : TE} {As As2 : List AE} (hAC : AC σa τa N0 M s N a 2) (hAT : AT σa τa N0 N1 (-1) 0 0 0 t nn As) (hAT2 : AT σa τa N1 N (-2) s1 M1 a1 t2 nn2 As2) (hN01 : N0 ≤ N1) (hN1N : N1 ≤ N) (hs1 : s1 = lnT t) (ha1 : a1 = As.length) (hM1 : M1 = (lvs t).length) (hs : s = s1 + lnT t2) (ha : a = a1 + As2.length) (hM : M = M1 + (lvs t2).length) (h70 : ma σa 70 0 = 0) (h71 : ma σa 71 0 = -1) (h70' : ma σa 70 1 = nI s1) (h71' : ma σa 71 1 = -1) (hg : ∀ i, i < M → Ch_isBadName F (si σa 101 0) (nI i) = some (0, si σa 101 0)) (hn : nmR (si σa 101 0) τa D M false) : ∃ b σ' τ', Q_takeTypes_64 F F (si σa 101 0) 2 0 = some (b, σ') ∧ Md_readAsked_116 F τa rr = some (rr, si τ' 2 0) ∧ ∃ Gc Hc dom m dom2 m2, kC0 (si σa 101 0) σ' G Gc ∧ kM0 τa τ' H Hc ∧ xt G (fun _ => False) (fun z => z) Gc dom m ∧ xt H (fun _ => False) (fun z => z) Hc dom2 m2 ∧ ((b = 1 ∧ gi σ' 200 = 0 ∧ gi τ' 8 = 0 ∧ gi τ' 9 = -3 ∧ gi τ' 10 = 0 ∧ (∃ fv κ, WT (lkQ (si σa 101 0) D G fv) t κ) ∧ ∃ fv κ, WT (lkQ (si σa 101 0) D G fv) t2 κ) ∨ (b = 0 ∧ gi σ' 200 = 6 ∧ six σ' τ')) := by
  obtain ⟨σb, hσb⟩ : ∃ x, x = si σa 101 0 := ⟨_, rfl⟩
  rw [← hσb] at hg hn ⊢
  have sb : sx [101] [] σa σb := by rw [hσb]; exact sx_si (sx_rfl _ _ _) (by decide) _
  obtain ⟨hCa, hMa⟩ := ax_st hBS hAX
  obtain ⟨KA, kC, kM⟩ := ax_KA hBS hAX
  obtain ⟨d1, d2, d3⟩ := ax_dc hBS hAX
  have hD := d2.2.1
  have hN0 : N0 ≤ 500 := hBS.2.2.2.2.2.2.2.2.2.1
  have hnG := hBS.2.1
  have hG := hBS.2.2.1
  have hH := hBS.2.2.2.2.1
  have hst := hBS.2.2.2.2.2.1
  have hCb : CS σb G := CS_sx sb (by decide) (by decide) (by decide) (by decide) hCa
  have hACc := hAC
  obtain ⟨a1', a2, a3, a4, a5, a6, a7, a8, a9, a10, a11, a12, a13, a14, a15, a16, a17⟩ := hAC
  obtain ⟨t1, t2', t3, t4, t5, t6⟩ := hAT
  obtain ⟨u1, u2, u3, u4, u5, u6⟩ := hAT2
  have hAb : AC σb τa N0 M s N a 2 := by
    refine ⟨by rw [sb.1 200 (by decide)]; exact a1', a2, a3, by rw [sb.1 505 (by decide)]; exact a4, a5, a6, fun i hi => ?_, by rw [sx_mi sb]; exact a8, by rw [sx_mi sb]; exact a9, a10, a11, a12, a13, a14, a15, a16, a17⟩
    have := a7 i hi
    unfold meR at this ⊢
    rw [sx_gb sb, sb.2.1 45 (by decide), sb.2.1 43 (by decide), sb.2.1 46 (by decide), sb.2.1 47 (by decide)]
    exact this
  have d3b : fTy σb 4812404 D 0 = -1 := by rw [fTy_cg (sb.2.1 29 (by decide)) (sx_gb sb 30)]; exact d3
  have hlf := lf_of (F := F) (by omega) hN0 hAb hn d3b hg
  have hdcb : dcN σb τa D := hn.1
  have hKb : ∀ y, y < D → ∃ k, ga σb 40 y = nI k ∧ rp G (fun _ => False) (fun z => z) k (KA y) := fun y hy => by
    obtain ⟨k, k1, k2⟩ := kC y hy
    exact ⟨k, by rw [sb.2.1 40 (by decide)]; exact k1, k2⟩
  have hwG := hCb.2.2.2.2.2.1
  have hwH := hMa.2.2.2.1
  have hN : N ≤ 1000 := by omega
  have w3 : nd τa (-1) (-1) N0 N t nn As := nd_mono (τ := τa) (Nat.le_refl _) hN1N (fun i _ _ => ⟨rfl, rfl, rfl, rfl⟩) t nn As t3
  have w3' : nd τa (-2) (-1) N0 N t2 nn2 As2 := nd_mono (τ := τa) hN01 (Nat.le_refl _) (fun i _ _ => ⟨rfl, rfl, rfl, rfl⟩) t2 nn2 As2 u3
  obtain ⟨nd1, nd2⟩ := nd_ap (τ := τa) hN t nn As w3
  obtain ⟨nd1', nd2'⟩ := nd_ap (τ := τa) hN t2 nn2 As2 w3'
  have acA : acL τa 0 (As ++ As2) := (acL_app τa As As2 0).mpr ⟨t4, by rw [Nat.zero_add, ← ha1]; exact u4⟩
  have hnodA : (apN τa t nn ++ apN τa t2 nn2).Nodup := by
    rw [← nd1, ← nd1', ← a0_app]
    obtain ⟨NA, AA, w1, w2, w3, w4, w5⟩ := a17
    have eAA : AA = a := (nI_eq (by omega) (by omega)).mp (w2.symm.trans a14)
    refine (a0_inc (A := AA) w3 w5 (As ++ As2) 0 acA (by simp; omega) (fun e he => ?_)).1.imp (fun h => Nat.ne_of_lt h)
    rcases List.mem_append.mp he with z | z
    · exact nd_acts (τ := τa) hN t nn As (by assumption) e z
    · exact nd_acts (τ := τa) hN t2 nn2 As2 w3' e z
  obtain ⟨hnod, hnod2, hdis⟩ := List.nodup_append.mp hnodA
  have lecg : ∀ (l : List Nat) (i : Nat), leL σa (-1) i l → leL σb (-1) i l := by
    intro l
    induction l with
    | nil => intro i _; trivial
    | cons c l ih =>
      intro i h
      refine ⟨?_, ih _ h.2⟩
      rw [sb.2.1 43 (by decide), sx_gb sb, sb.2.1 46 (by decide)]
      exact h.1
  have hleb := lecg _ _ t5.1
  have hleb2 := lecg _ _ u5.1
  have hB : ∀ c, c ∈ lvs t → (lfB c = 0 → bnA σb D (lfN c)) ∧ (lfB c ≠ 0 → True) := by
    intro c hc
    refine ⟨fun z => ?_, fun _ => trivial⟩
    obtain ⟨i, i1, i2, i3, i4⟩ := leL_in _ 0 c hleb hc
    rw [if_pos z] at i3
    rw [← i4]
    exact bn_of (F := F) (by omega) hn hg (by omega) i3
  have hB2 : ∀ c, c ∈ lvs t2 → (lfB c = 0 → bnA σb D (lfN c)) ∧ (lfB c ≠ 0 → True) := by
    intro c hc
    refine ⟨fun z => ?_, fun _ => trivial⟩
    obtain ⟨i, i1, i2, i3, i4⟩ := leL_in _ M1 c hleb2 hc
    rw [if_pos z] at i3
    rw [← i4]
    exact bn_of (F := F) (by omega) hn hg (by omega) i3
  have hc0 := askC (F := F) (τ := τa) (D := D) (pr := -1) (me := -1) (ty := tyF σb D KA) (sm := fun v => .var (cfr (-1) (-1) v + 1)) (Bn := bnA σb D) (Sn := fun _ => True) (Z := []) (σ0 := σb) (G0 := G) hF t1 (σ := σb) (G := G) (dom := fun _ => False) (m := fun z => z) (s := 0) (en := s1) (j := 0) (T := 2) (nn := nn) (by omega) hCb hnG ⟨gn G, hCb.1, Nat.le_refl _, hCb.2.2.1, fun k _ => ⟨rfl, rfl, rfl⟩⟩ hCb (Rp_0 hwG) (by rw [sb.1 200 (by decide)]; exact a1') (ev_of d3b hKb hD) hdcb (fun v z => z) (by omega) (by omega) (by omega) (by rw [sx_mi sb]; exact a9) (by rw [sx_ma sb, nI_0]; exact h70) (by rw [sx_ma sb]; exact h71) (Or.inr ⟨by omega, by rw [sx_ma sb]; exact h70'⟩) (rwL_sy (sy_sx sb) _ _ t2') hB hnod (fun x hx => ⟨fun z => z, by have := (nd2 x hx).1; omega⟩) (by omega) (by omega)
  have hRV : RV τa H (fun _ => False) (fun z => z) [] := ⟨hMa, Rp_0 hwH, ⟨by have := hMa.2.1; omega, fun w hw α _ => hst w hw⟩, a2, by rw [hAX.2.1.1 49 (by unfold exAm exM; omega)]; exact hBS.2.2.2.2.2.2.2.2.2.2.1⟩
  have hLp : ∀ (f : Nat) (τ : zS) (b : Nat), gi τ 8 = 0 → sx [48] [6, 26, 27, 28, 29, 30, 53, 54] τa τ → b < a → Md_readAsked_163 F (f + 1) τ rr (nI b) = bv (Md_doAct F τ (nI b) 0) (fun s => Md_readAsked_163 F f s rr (nI (b + 1))) := fun f τ b h8 hs hb' => lp_step a14 (by omega) f τ b h8 hs hb'
  have hlg : ∀ l, laG τa N0 l = true → ga τa 2 l = 0 ∨ ga τa 2 l = 1 := fun l hl => by
    unfold laG isLf at hl
    simp at hl
    exact hl.1
  have hok : ∀ τ1 H1 dom1 m1, SV τa (laG τa N0) (laX σb τa D KA) N0 N τ1 H1 dom1 m1 [] → (∀ x, x ∈ apN τa t nn ++ apN τa t2 nn2 → ¬ dom1 x) → gn H1 + 2 * a ≤ 4000 → okO τa (laG τa N0) (laX σb τa D KA) N0 N (fun f τ a => Md_readAsked_163 F f τ rr (nI a)) τ1 H1 dom1 m1 [] 0 F (As.length + As2.length) (eqR τa (tyF σb D KA) (fun v => .var (cfr (-1) (-1) v + 1)) t nn ++ eqR τa (tyF σb D KA) (fun v => .var (cfr (-2) (-1) v + 1)) t2 nn2) (apN τa t nn ++ apN τa t2 nn2) (fun τ' H' dom' m' => ∃ k, ga τ' 6 nn2 = nI k ∧ rp H' dom' m' k (kE (tyF σb D KA) (fun v => .var (cfr (-2) (-1) v + 1)) t2 nn2)) := fun τ1 H1 dom1 m1 hS hd hb => by
    refine ok_bind (ac_all (F := F) (τ0 := τa) (lg := laG τa N0) (lx := laX σb τa D KA) (lo := N0) (N := N) (Lp := fun f τ a => Md_readAsked_163 F f τ rr (nI a)) (x2 := 0) (aE := a) (pr := -1) (me := -1) (ty := tyF σb D KA) (sm := fun v => .var (cfr (-1) (-1) v + 1)) hF hLp (by omega) hlg hN t t1 nn As w3 (fun c l hc h1 h2 h3 h4 h5 h6 => la_lf (σ := σb) (τ0 := τa) (N := N) rfl rfl c l hc h1 h2 h3 h4 h5 h6) τ1 H1 dom1 m1 [] 0 F hS t4 (by omega) hnod (fun x hx => hd x (List.mem_append_left _ hx)) (by omega) (by omega)) (fun τ2 H2 dom2 m2 hS2 hx2 hg2 hd2 hk2 hQ => ?_)
    exact ac_all (F := F) (τ0 := τa) (lg := laG τa N0) (lx := laX σb τa D KA) (lo := N0) (N := N) (Lp := fun f τ a => Md_readAsked_163 F f τ rr (nI a)) (x2 := 0) (aE := a) (pr := -2) (me := -1) (ty := tyF σb D KA) (sm := fun v => .var (cfr (-2) (-1) v + 1)) hF hLp (by omega) hlg hN t2 u1 nn2 As2 w3' (fun c l hc h1 h2 h3 h4 h5 h6 => la_lf (σ := σb) (τ0 := τa) (N := N) rfl rfl c l hc h1 h2 h3 h4 h5 h6) τ2 H2 dom2 m2 _ (0 + As.length) (F - As.length) hS2 (by rw [Nat.zero_add, ← ha1]; exact u4) (by omega) hnod2 (fun x hx z => by
      rcases hd2 x z with w | w
      · exact hd x (List.mem_append_right _ hx) w
      · exact hdis x w x hx rfl) (by omega) (by omega)
  have hm0 := askM (F := F) (σ := σb) (τ0 := τa) (KA := KA) (H0 := H) (rr := rr) hF hdcb hlf kM a11 (by rw [hAX.2.1.1 89 (by unfold exAm exM; omega)]; exact hBS.2.2.2.2.2.2.2.2.1) hN (by omega) hRV (aE := a) a14 (by omega) (by omega) (P := apN τa t nn ++ apN τa t2 nn2) (fun x hx => by
    rcases List.mem_append.mp hx with z | z
    · have := (nd2 x z).1; omega
    · have := (nd2' x z).1; omega) (fun τ1 H1 dom1 m1 hS hd hb => by have := hok τ1 H1 dom1 m1 hS hd hb; rw [← ha1, ← ha] at this; exact this)
  obtain ⟨F', hF'⟩ : ∃ F', F = F' + 1 + 1 + 1 := ⟨F - 3, by omega⟩
  have b200 : gi σb 200 = 0 := by rw [sb.1 200 (by decide)]; exact a1'
  have e64 : Q_takeTypes_64 F F σb 2 0 = bv (So_solveAsked F σb 11 (nI 0)) (fun σ6 => Q_takeTypes_64 F (F' + 1 + 1) σ6 2 1) := by
    rw [show Q_takeTypes_64 F F σb 2 0 = Q_takeTypes_64 F (F' + 1 + 1 + 1) σb 2 0 from by rw [← hF'], tt_step b200 (by decide), nI_0]
    rfl
  have hKM : ∀ τ2, Md_readAsked_116 F τa rr = some (rr, si τ2 2 0) → KM (gn H) τa τ2 := by
    intro τ2 h2
    have h3 : KM (gn H) τa τa := ⟨gn H, hMa.1, Nat.le_refl _, hMa.2.2.1, fun k _ => ⟨rfl, rfl, rfl⟩⟩
    have h4 := km_Md_readAsked_116 F τa rr h3 rr _ h2
    exact KM_cg h4 (by simp [zs]) (by simp [zs]) (by simp [zs]) (by simp [zs])
  obtain ⟨E1, hE1⟩ : ∃ x, x = eqC τa (tyF σb D KA) (fun v => .var (cfr (-1) (-1) v + 1)) t nn := ⟨_, rfl⟩
  obtain ⟨E2, hE2⟩ : ∃ x, x = eqC τa (tyF σb D KA) (fun v => .var (cfr (-2) (-1) v + 1)) t2 nn2 := ⟨_, rfl⟩
  have hnt : nt (E1 ++ E2) = nt (eqR τa (tyF σb D KA) (fun v => .var (cfr (-1) (-1) v + 1)) t nn ++ eqR τa (tyF σb D KA) (fun v => .var (cfr (-2) (-1) v + 1)) t2 nn2) := by
    rw [nt_app, nt_app, hE1, hE2, eq_nt _ _ _ t nn, eq_nt _ _ _ t2 nn2]
  -- where one side stops and the other does not
  have flt : ∀ (Ea Eb : List EQ) (e : EQ) (x y : Nat) (σ2 : zS) (G2 : SG) (dom2 : Nat → Prop) (m2 : Nat → Nat), E1 ++ E2 = Ea ++ e :: Eb → Q_takeTypes_64 F F σb 2 0 = some (0, σ2) → kC0 σb σ2 G G2 → Rp G2 dom2 m2 (eqP Ea) → rp G2 dom2 m2 x e.1 → rp G2 dom2 m2 y e.2.1 → unso G2 x y → xt G (fun _ => False) (fun z => z) G2 dom2 m2 → gi σ2 200 = 6 → gi σ2 201 = nI e.2.2 → (∀ d, dpt d (gT G2 x) → dpt d (gT G2 y) → lnR σ2 15 (prT (ltV (V2 d (gT G2 x) (gT G2 y))) d (gT G2 x)) ∧ lnR σ2 16 (prT (ltV (V2 d (gT G2 x) (gT G2 y))) d (gT G2 y))) → ∃ b σ' τ', Q_takeTypes_64 F F σb 2 0 = some (b, σ') ∧ Md_readAsked_116 F τa rr = some (rr, si τ' 2 0) ∧ ∃ Gc Hc dom m dom2 m2, kC0 σb σ' G Gc ∧ kM0 τa τ' H Hc ∧ xt G (fun _ => False) (fun z => z) Gc dom m ∧ xt H (fun _ => False) (fun z => z) Hc dom2 m2 ∧ ((b = 1 ∧ gi σ' 200 = 0 ∧ gi τ' 8 = 0 ∧ gi τ' 9 = -3 ∧ gi τ' 10 = 0 ∧ (∃ fv κ, WT (lkQ σb D G fv) t κ) ∧ ∃ fv κ, WT (lkQ σb D G fv) t2 κ) ∨ (b = 0 ∧ gi σ' 200 = 6 ∧ six σ' τ')) := by
    intro Ea Eb e x y σ2 G2 dom2 m2 hE hQ hk c4 c5 c6 c7 c8 c9 c10 c15
    rcases hm0 with ⟨τ2, H2, dom3, m3, e1, e2, e3, e4, k', e5, e6⟩ | ⟨τ2, Ea', e', Eb', e1, e2, e3, e4⟩
    · exact absurd (fso_Rp e3.2.1) (fail_fso hnt ⟨⟨Eb, hE⟩, fso_Rp c4, nfso_Rp c4 c5 c6 c7⟩)
    · have h6 := six_of hnt hE c4 c5 c6 c7 c9 c10 c15 e2 (rvE_F e4)
      obtain ⟨Hf, df, mf, ⟨x', y', v1, v2⟩, u2⟩ := e4
      exact ⟨0, σ2, τ2, hQ, e1, G2, Hf, dom2, m2, df, mf, hk, ⟨e3, v1, hKM τ2 e1⟩, c8, u2, Or.inr ⟨rfl, c9, h6⟩⟩
  rw [← hE1] at hc0
  rcases hc0 with ⟨σ2, G2, dom2, m2, k, c1, c2, c3, c4, c5, c6, c7, c8, c9, c10, c11, c12⟩ | ⟨Ea, e, Eb, x, y, σ2, G2, dom2, m2, c1, c2, c3, c4, c5, c6, c7, c8, c9, c10, c11, c12, c13, c14, c15⟩
  · rw [List.nil_append] at c3
    have s200 : gi σ2 200 = 0 := by rw [c8.1 200 (by decide)]; exact b200
    have hWT1 : ∃ fv κ, WT (lkQ σb D G fv) t κ := wt_of (Z := []) hwG hKb hD (by omega) t1 (by rw [List.nil_append, ← hE1]; exact c3)
    obtain ⟨rs1, rs2, rs3⟩ := rs_CS (σ0 := σb) (G0 := G) (n := gn G) hCb rfl c2 c11 c10 (fun k hk => (c12 k hk).1) (fun k hk => (c12 k hk).2)
    have hd2 : ∀ z, dom2 z → z ∈ apN τa t nn ∨ ∃ v, z = cfr (-1) (-1) v := fun z hz => by
      rcases c7 z hz with w | w
      · exact w.elim
      · exact w
    have hc1 := askC (F := F) (τ := τa) (D := D) (pr := -2) (me := -1) (ty := tyF σb D KA) (sm := fun v => .var (cfr (-2) (-1) v + 1)) (Bn := bnA σb D) (Sn := fun _ => True) (Z := eqP E1) (σ0 := si σ2 306 (nI (gn G))) (G0 := rsG (gn G) G2) hF u1 (σ := σ2) (G := G2) (dom := dom2) (m := m2) (s := s1) (en := s) (j := 1) (T := 2) (nn := nn2) a10 rs1 rs2 ⟨gn G2, c2.1, c11, c2.2.2.1, fun k _ => ⟨rfl, rfl, rfl⟩⟩ c2 c3 s200 (EV_cg (ev_of d3b hKb hD) c8 (by decide) c6) (dcN_sy hdcb c8 (by decide) (by decide)) (fun v z => by
      rcases hd2 _ z with w | ⟨v', w⟩
      · have := (nd2 _ w).1
        have := cfr_ge (-2) (-1) v
        omega
      · exact absurd (cfr_inj w).1 (by decide)) (by omega) (by omega) (by omega) (by rw [sy_mi c8, sx_mi sb]; exact a9) (by rw [sy_ma c8, sx_ma sb]; exact h70') (by rw [sy_ma c8, sx_ma sb]; exact h71') (Or.inl ⟨rfl, by rw [sy_mi c8, sx_mi sb]; exact a8⟩) (rwL_sy c8 _ _ (rwL_sy (sy_sx sb) _ _ u2)) hB2 hnod2 (fun x hx => ⟨fun z => by
      rcases hd2 _ z with w | ⟨v', w⟩
      · exact hdis x w x hx rfl
      · have := (nd2' _ hx).1
        have := cfr_ge (-1) (-1) v'
        omega, by have := (nd2' x hx).1; omega⟩) (by omega) (by omega)
    rw [← hE2] at hc1
    have e64' : Q_takeTypes_64 F F σb 2 0 = bv (So_solveAsked F σ2 11 (nI 1)) (fun σ6 => Q_takeTypes_64 F (F' + 1) σ6 2 2) := by
      rw [e64, c1, bv_some, tt_step s200 (by decide)]
      rfl
    rcases hc1 with ⟨σ3, G3, dom3, m3, k3, g1, g2, g3, g4, g5, g6, g7, g8, g9, g10, g11, g12⟩ | ⟨Ea, e, Eb, x, y, σ3, G3, dom3, m3, g1, g2, g3, g4, g5, g6, g7, g8, g9, g10, g11, g12, g13, g14, g15⟩
    · have hk3 : kC0 σb σ3 G G3 := ⟨frT_tr (frT_sy c8 (by decide) (by decide)) (frT_sy g8 (by decide) (by decide)), g2, g10, g11, fun k hk => ⟨((g12 k hk).1).trans (c12 k hk).1, ((g12 k hk).2).trans (c12 k hk).2⟩⟩
      rcases hm0 with ⟨τ2, H2, dom4, m4, e1, e2, e3, e4, _⟩ | ⟨τ2, Ea', e', Eb', e1, e2, e3, e4⟩
      · have z200 : gi σ3 200 = 0 := by rw [g8.1 200 (by decide)]; exact s200
        have hWT2 : ∃ fv κ, WT (lkQ σb D G fv) t2 κ := wt_of (Z := eqP E1) hwG hKb hD (by omega) u1 (by rw [← hE2]; exact g3)
        refine ⟨1, σ3, τ2, ?_, e1, G3, H2, dom3, m3, dom4, m4, hk3, ⟨sx_mono (by decide) (by decide) e2, e3.1, hKM τ2 e1⟩, xt_tr c6 g6, e4, Or.inl ⟨rfl, z200, e3.2.2.2.1, by rw [e2.1 9 (by decide)]; exact a3, by rw [e2.1 10 (by decide)]; exact hAX.2.2.2.2.2, hWT1, hWT2⟩⟩
        rw [e64', g1, bv_some, tt_end z200 (by decide)]
      · rw [← eqP_app] at g3
        exact absurd (fso_Rp g3) (fail_fso hnt.symm (rvF_fail e2 (rvE_F e4)))
    · have hk3 : kC0 σb σ3 G G3 := ⟨frT_tr (frT_sy c8 (by decide) (by decide)) g11, g3, g12, g13, fun k hk => ⟨((g14 k hk).1).trans (c12 k hk).1, ((g14 k hk).2).trans (c12 k hk).2⟩⟩
      rw [← eqP_app] at g4
      exact flt (E1 ++ Ea) Eb e x y σ3 G3 dom3 m3 (by rw [g1, List.append_assoc]) (by rw [e64', g2, bv_some, tt_flt (by rw [g9]; decide)]) hk3 g4 g5 g6 g7 (xt_tr c6 g8) g9 g10 g15
  · rw [List.nil_append] at c4
    exact flt Ea (Eb ++ E2) e x y σ2 G2 dom2 m2 (by rw [c1, List.append_assoc]; rfl) (by rw [e64, c2, bv_some, tt_flt (by rw [c9]; decide)]) ⟨c11, c3, c12, c13, c14⟩ c4 c5 c6 c7 c8 c9 c10 c15
end K
