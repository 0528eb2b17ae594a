/-! A question of one type: both answer alike. Own text. -/
section K
variable {F : Nat} {σ τ σa τa : zS} {D N0 : Nat} {G H : SG} {rr : Int32}
/-- what solving a question keeps of the class's text -/
def kC0 (σb σ' : zS) (G Gc : SG) : Prop := frT σb σ' ∧ CS σ' Gc ∧ tz (gn G) Gc ∧ gn G ≤ gn Gc ∧ ∀ k, k < gn G → ga σ' 23 k = ga σb 23 k ∧ ga σ' 24 k = ga σb 24 k
/-- and of the reference's -/
def kM0 (τa τ' : zS) (H Hc : SG) : Prop := sx [8, 9, 10, 48, 79, 80] [6, 26, 27, 28, 29, 30, 53, 54] τa τ' ∧ MS τ' Hc ∧ KM (gn H) τa τ'
theorem ask1_sv (hF : 20000 ≤ F) (hBS : BS σ τ D G H N0) (hAX : AX σ τ σa τa N0 (gn H)) {M s N a nn : Nat} {t : TE} {As : List AE} (hAC : AC σa τa N0 M s N a 1) (hAT : AT σa τa N0 N (-1) 0 0 0 t nn As) (hs : s = lnT t) (ha : a = As.length) (hM : M = (lvs t).length) (h70 : ma σa 70 0 = 0) (h71 : ma σa 71 0 = -1) (hg : ∀ i, i < M → Ch_isBadName F (si σa 101 0) (nI i) = some (0, si σa 101 0)) (hn : nmR (si σa 101 0) τa D M false) : ∃ b σ' τ', Q_takeTypes_64 F F (si σa 101 0) 1 0 = some (b, σ') ∧ Md_readAsked_116 F τa rr = some (rr, si τ' 2 0) ∧ ∃ Gc Hc dom m dom2 m2, kC0 (si σa 101 0) σ' G Gc ∧ kM0 τa τ' H Hc ∧ xt G (fun _ => False) (fun z => z) Gc dom m ∧ xt H (fun _ => False) (fun z => z) Hc dom2 m2 ∧ ((b = 1 ∧ gi σ' 200 = 0 ∧ gi τ' 8 = 0 ∧ gi τ' 9 = -3 ∧ gi τ' 10 = 0 ∧ ∃ k k' e E, gi σ' 815 = nI k ∧ ga τ' 6 nn = nI k' ∧ Rp Gc dom m E ∧ Rp Hc dom2 m2 E ∧ rp Gc dom m k e ∧ rp Hc dom2 m2 k' e ∧ ∃ fv κ, WT (lkQ (si σa 101 0) D G fv) t κ) ∨ (b = 0 ∧ gi σ' 200 = 6 ∧ six σ' τ')) := by
  obtain ⟨σb, hσb⟩ : ∃ x, x = si σa 101 0 := ⟨_, rfl⟩
  rw [← hσb] at hg hn ⊢
  have sb : sx [101] [] σa σb := by rw [hσb]; exact sx_si (sx_rfl _ _ _) (by decide) _
  obtain ⟨hCa, hMa⟩ := ax_st hBS hAX
  obtain ⟨KA, kC, kM⟩ := ax_KA hBS hAX
  obtain ⟨d1, d2, d3⟩ := ax_dc hBS hAX
  have hD := d2.2.1
  have hN0 : N0 ≤ 500 := hBS.2.2.2.2.2.2.2.2.2.1
  have hnG := hBS.2.1
  have hG := hBS.2.2.1
  have hH := hBS.2.2.2.2.1
  have hst := hBS.2.2.2.2.2.1
  have hCb : CS σb G := CS_sx sb (by decide) (by decide) (by decide) (by decide) hCa
  have hACc := hAC
  obtain ⟨a1, a2, a3, a4, a5, a6, a7, a8, a9, a10, a11, a12, a13, a14, a15, a16, a17⟩ := hAC
  obtain ⟨t1, t2, t3, t4, t5, t6⟩ := hAT
  have hAb : AC σb τa N0 M s N a 1 := by
    refine ⟨by rw [sb.1 200 (by decide)]; exact a1, a2, a3, by rw [sb.1 505 (by decide)]; exact a4, a5, a6, fun i hi => ?_, by rw [sx_mi sb]; exact a8, by rw [sx_mi sb]; exact a9, a10, a11, a12, a13, a14, a15, a16, a17⟩
    have := a7 i hi
    unfold meR at this ⊢
    rw [sx_gb sb, sb.2.1 45 (by decide), sb.2.1 43 (by decide), sb.2.1 46 (by decide), sb.2.1 47 (by decide)]
    exact this
  have d3b : fTy σb 4812404 D 0 = -1 := by rw [fTy_cg (sb.2.1 29 (by decide)) (sx_gb sb 30)]; exact d3
  have hlf := lf_of (F := F) (by omega) hN0 hAb hn d3b hg
  have hdcb : dcN σb τa D := hn.1
  have hKb : ∀ y, y < D → ∃ k, ga σb 40 y = nI k ∧ rp G (fun _ => False) (fun z => z) k (KA y) := fun y hy => by
    obtain ⟨k, k1, k2⟩ := kC y hy
    exact ⟨k, by rw [sb.2.1 40 (by decide)]; exact k1, k2⟩
  have hwG := hCb.2.2.2.2.2.1
  have hwH := hMa.2.2.2.1
  have hN : N ≤ 1000 := by omega
  obtain ⟨nd1, nd2⟩ := nd_ap (τ := τa) hN t nn As t3
  have hnod : (apN τa t nn).Nodup := by
    rw [← nd1]
    obtain ⟨NA, AA, w1, w2, w3, w4, w5⟩ := a17
    have eAA : AA = a := (nI_eq (by omega) (by omega)).mp (w2.symm.trans a14)
    exact (a0_inc (A := AA) w3 w5 As 0 t4 (by omega) (nd_acts (τ := τa) hN t nn As t3)).1.imp (fun h => Nat.ne_of_lt h)
  have hleb : leL σb (-1) 0 (lvs t) := by
    have : ∀ (l : List Nat) (i : Nat), leL σa (-1) i l → leL σb (-1) i l := by
      intro l
      induction l with
      | nil => intro i _; trivial
      | cons c l ih =>
        intro i h
        refine ⟨?_, ih _ h.2⟩
        rw [sb.2.1 43 (by decide), sx_gb sb, sb.2.1 46 (by decide)]
        exact h.1
    exact this _ _ t5.1
  have hB : ∀ c, c ∈ lvs t → (lfB c = 0 → bnA σb D (lfN c)) ∧ (lfB c ≠ 0 → True) := by
    intro c hc
    refine ⟨fun z => ?_, fun _ => trivial⟩
    obtain ⟨i, i1, i2, i3, i4⟩ := leL_in _ 0 c hleb hc
    rw [if_pos z] at i3
    rw [← i4]
    exact bn_of (F := F) (by omega) hn hg (by omega) i3
  have hc0 := askC (F := F) (τ := τa) (D := D) (pr := -1) (me := -1) (ty := tyF σb D KA) (sm := fun v => .var (cfr (-1) (-1) v + 1)) (Bn := bnA σb D) (Sn := fun _ => True) (Z := []) (σ0 := σb) (G0 := G) hF t1 (σ := σb) (G := G) (dom := fun _ => False) (m := fun z => z) (s := 0) (en := s) (j := 0) (T := 1) (nn := nn) a10 hCb hnG ⟨gn G, hCb.1, Nat.le_refl _, hCb.2.2.1, fun k _ => ⟨rfl, rfl, rfl⟩⟩ hCb (Rp_0 hwG) (by rw [sb.1 200 (by decide)]; exact a1) (ev_of d3b hKb hD) hdcb (fun v z => z) (by omega) (by omega) (by omega) (by rw [sx_mi sb]; exact a9) (by rw [sx_ma sb, nI_0]; exact h70) (by rw [sx_ma sb]; exact h71) (Or.inl ⟨rfl, by rw [sx_mi sb]; exact a8⟩) (rwL_sy (sy_sx sb) _ _ t2) hB hnod (fun x hx => ⟨fun z => z, by have := (nd2 x hx).1; omega⟩) (by omega) (by omega)
  have hRV : RV τa H (fun _ => False) (fun z => z) [] := ⟨hMa, Rp_0 hwH, ⟨by have := hMa.2.1; omega, fun w hw α _ => hst w hw⟩, a2, by rw [hAX.2.1.1 49 (by unfold exAm exM; omega)]; exact hBS.2.2.2.2.2.2.2.2.2.2.1⟩
  have hok : ∀ τ1 H1 dom1 m1, SV τa (laG τa N0) (laX σb τa D KA) N0 N τ1 H1 dom1 m1 [] → (∀ x, x ∈ apN τa t nn → ¬ dom1 x) → gn H1 + 2 * a ≤ 4000 → okO τa (laG τa N0) (laX σb τa D KA) N0 N (fun f τ a => Md_readAsked_163 F f τ rr (nI a)) τ1 H1 dom1 m1 [] 0 F As.length (eqR τa (tyF σb D KA) (fun v => .var (cfr (-1) (-1) v + 1)) t nn) (apN τa t nn) (fun τ' H' dom' m' => ∃ k, ga τ' 6 nn = nI k ∧ rp H' dom' m' k (kE (tyF σb D KA) (fun v => .var (cfr (-1) (-1) v + 1)) t nn)) := fun τ1 H1 dom1 m1 hS hd hb => ac_all (F := F) (τ0 := τa) (lg := laG τa N0) (lx := laX σb τa D KA) (lo := N0) (N := N) (Lp := fun f τ a => Md_readAsked_163 F f τ rr (nI a)) (x2 := 0) (aE := a) (pr := -1) (me := -1) (ty := tyF σb D KA) (sm := fun v => .var (cfr (-1) (-1) v + 1)) hF (fun f τ b h8 hs hb' => lp_step a14 (by omega) f τ b h8 hs hb') (by omega) (fun l hl => by
      unfold laG isLf at hl
      simp at hl
      exact hl.1) hN t t1 nn As t3 (fun c l hc h1 h2 h3 h4 h5 h6 => la_lf (σ := σb) (τ0 := τa) (N := N) rfl rfl c l hc h1 h2 h3 h4 h5 h6) τ1 H1 dom1 m1 [] 0 F hS t4 (by omega) hnod hd (by rw [← ha]; exact hb) (by omega)
  have hm0 := askM (F := F) (σ := σb) (τ0 := τa) (KA := KA) (H0 := H) (rr := rr) hF hdcb hlf kM a11 (by rw [hAX.2.1.1 89 (by unfold exAm exM; omega)]; exact hBS.2.2.2.2.2.2.2.2.1) hN (by omega) hRV (aE := a) a14 (by omega) (by omega) (fun x hx => by have := (nd2 x hx).1; omega) (fun τ1 H1 dom1 m1 hS hd hb => by have := hok τ1 H1 dom1 m1 hS hd hb; rw [← ha] at this; exact this)
  obtain ⟨F', hF'⟩ : ∃ F', F = F' + 1 + 1 := ⟨F - 2, by omega⟩
  have b200 : gi σb 200 = 0 := by rw [sb.1 200 (by decide)]; exact a1
  have e64 : Q_takeTypes_64 F F σb 1 0 = bv (So_solveAsked F σb 11 (nI 0)) (fun σ6 => Q_takeTypes_64 F (F' + 1) σ6 1 1) := by
    rw [show Q_takeTypes_64 F F σb 1 0 = Q_takeTypes_64 F (F' + 1 + 1) σb 1 0 from by rw [← hF'], tt_step b200 (by decide), nI_0]
    rfl
  have hKM : ∀ τ2, Md_readAsked_116 F τa rr = some (rr, si τ2 2 0) → KM (gn H) τa τ2 := by
    intro τ2 h2
    have h3 : KM (gn H) τa τa := ⟨gn H, hMa.1, Nat.le_refl _, hMa.2.2.1, fun k _ => ⟨rfl, rfl, rfl⟩⟩
    have h4 := km_Md_readAsked_116 F τa rr h3 rr _ h2
    exact KM_cg h4 (by simp [zs]) (by simp [zs]) (by simp [zs]) (by simp [zs])
  have hnt : nt (eqC τa (tyF σb D KA) (fun v => .var (cfr (-1) (-1) v + 1)) t nn) = nt (eqR τa (tyF σb D KA) (fun v => .var (cfr (-1) (-1) v + 1)) t nn) := eq_nt _ _ _ t nn
  rcases hc0 with ⟨σ2, G2, dom2, m2, k, c1, c2, c3, c4, c5, c6, c7, c8, c9, c10, c11, c12⟩ | ⟨Ea, e, Eb, x, y, σ2, G2, dom2, m2, c1, c2, c3, c4, c5, c6, c7, c8, c9, c10, c11, c12, c13, c14, c15⟩
  · rw [List.nil_append] at c3
    rcases hm0 with ⟨τ2, H2, dom3, m3, e1, e2, e3, e4, k', e5, e6⟩ | ⟨τ2, Ea', e', Eb', e1, e2, e3, e4⟩
    · have s200 : gi σ2 200 = 0 := by rw [c8.1 200 (by decide)]; exact b200
      have hWT : ∃ fv κ, WT (lkQ σb D G fv) t κ := wt_of (Z := []) hwG hKb hD (by omega) t1 c3
      refine ⟨1, σ2, τ2, ?_, e1, G2, H2, dom2, m2, dom3, m3, ⟨frT_sy c8 (by decide) (by decide), c2, c10, c11, c12⟩, ⟨sx_mono (by decide) (by decide) e2, e3.1, hKM τ2 e1⟩, c6, e4, Or.inl ⟨rfl, s200, e3.2.2.2.1, by rw [e2.1 9 (by decide)]; exact a3, by rw [e2.1 10 (by decide)]; exact hAX.2.2.2.2.2, k, k', _, _, c4, e5, c3, nt_Rp hnt.symm e3.2.1, c5, e6, hWT⟩⟩
      rw [e64, c1, bv_some, tt_end s200 (by decide)]
    · exact absurd (fso_Rp c3) (fail_fso hnt.symm (rvF_fail e2 (rvE_F e4)))
  · rw [List.nil_append] at c4
    rcases hm0 with ⟨τ2, H2, dom3, m3, e1, e2, e3, e4, k', e5, e6⟩ | ⟨τ2, Ea', e', Eb', e1, e2, e3, e4⟩
    · exact absurd (fso_Rp e3.2.1) (fail_fso hnt ⟨⟨Eb, c1⟩, fso_Rp c4, nfso_Rp c4 c5 c6 c7⟩)
    · have h6 := six_of hnt c1 c4 c5 c6 c7 c9 c10 c15 e2 (rvE_F e4)
      obtain ⟨Hf, df, mf, ⟨x', y', v1, v2⟩, u2⟩ := e4
      refine ⟨0, σ2, τ2, ?_, e1, G2, Hf, dom2, m2, df, mf, ⟨c11, c3, c12, c13, c14⟩, ⟨e3, v1, hKM τ2 e1⟩, c8, u2, Or.inr ⟨rfl, c9, h6⟩⟩
      rw [e64, c2, bv_some, tt_flt (by rw [c9]; decide)]
end K
