/-! same(): from what holds between two calls to what holds there again. Own text. -/
section R
variable {F : Nat} {σ τ σ' τ' : zS} {D N0 : Nat} {G H : SG}
/-- only the rows' places change -/
def frG (σ σ' : zS) : Prop := (∀ r, gi σ' r = gi σ r) ∧ (∀ a, ga σ' a = ga σ a) ∧ (∀ a, gb σ' a = gb σ a) ∧ (∀ j, mi σ' j = mi σ j) ∧ (∀ a, ma σ' a = ma σ a) ∧ (∀ a, mb σ' a = mb σ a) ∧ ∀ a, a ≠ 901 → a ≠ 903 → gr σ' a = gr σ a
theorem RL_md (hT : rTape σ τ) (hSL : SL σ τ) (hK : RK σ τ) (f : frG σ σ') (hRW : RWs σ') (s : sx [82] [53, 55, 62] τ τ') : rTape σ' τ' ∧ SL σ' τ' ∧ RK σ' τ' := by
  refine ⟨rT_fr hT (f.1 101) (f.2.1 19) (s.1 2 (by simp)) (s.2.1 1 (by simp)), SL_fr hSL (fun a ha => f.2.2.2.2.2.2 a (by omega) (by omega)) (fun j _ => f.2.2.2.1 j) (fun a _ => f.2.2.2.2.1 a) (s.1 84 (by simp)) (s.2.1 56 (by simp)), RK_fr hK hRW (by rw [s.1 85 (by simp)]; exact hK.2.1) (fun r _ => f.1 r) (fun a _ => f.2.1 a) (fun b _ => f.2.2.1 b) (fun j _ => f.2.2.2.1 j) (fun a _ => f.2.2.2.2.1 a) (f.2.2.2.2.2.1 61) (fun r hr => s.1 r (by simp at hr ⊢; omega)) (fun a ha => s.2.1 a (by simp at ha ⊢; omega)) (fun b => sx_gb s b)⟩
theorem frG_rfl (σ : zS) : frG σ σ := ⟨fun _ => rfl, fun _ => rfl, fun _ => rfl, fun _ => rfl, fun _ => rfl, fun _ => rfl, fun _ _ _ => rfl⟩
theorem r_same (hF : 200000 ≤ F) (h : RL σ τ) : ∃ r σ' τ', Q_same F σ = some (r, σ') ∧ Md_same F τ = some (r, τ') ∧ RL σ' τ' := by
  obtain ⟨hT, hSL, hK⟩ := RL_0 h
  obtain ⟨_, h85, hRW, D, N0, G, H, hTD, hBS, _, hS⟩ := hK
  obtain ⟨b, rr, σ1, τ1, q1, q2, q3, q4⟩ := ask2_ok (F := F) (by omega) hBS hT
  have hFT1 : FT σ1 τ1 := by
    rcases q4 with ⟨_, _, z⟩ | ⟨_, z, _⟩
    · exact z
    · exact Or.inl z
  obtain ⟨hT1, hK1, hS1, hd1, hN0⟩ := RK_ao hTD hBS hS hRW h85 q3 hFT1
  have hD := hd1.2.2.1
  have hSL1 : SL σ1 τ1 := SL_q hSL q3.2.2.1 q3.2.2.2.1
  rcases q4 with ⟨b0, hn, hFT⟩ | ⟨b1, hAW, N1, N, t, nn, t2, nn2, g0, h91, ⟨g1, g2, ⟨As, g3⟩, g4, g5, g6, g7, fv, κ, g8⟩, ⟨k1, k2, ⟨As2, k3⟩, k4, k5, k6, k7, fv2, κ2, k8⟩, g9, g10, g11, g12⟩
  · obtain ⟨r1, r2⟩ := FT_r hFT hn
    refine ⟨-10 - gi σ1 200, σ1, τ1, ?_, ?_, hT1, hSL1, hK1⟩
    · rw [Q_same, q1, bi_some, if_pos b0]
    · rw [Md_same, q2, bi_some, if_neg r2, r1]
  · have hfo := KW_fo _ _ _ (KW_t (lkQ σ1 D G fv) t g1 κ g8)
    have hob := okb_t (M := 0 + (lvs t).length) hd1 g1 (lvA_in g1 g6 (Nat.le_refl _)) g7 (by omega) hfo
    have hfo2 := KW_fo _ _ _ (KW_t (lkQ σ1 D G fv2) t2 k1 κ2 k8)
    have hob2 := okb_t (M := (lvs t).length + (lvs t2).length) hd1 k1 (lvA_in k1 k6 (Nat.le_refl _)) k7 (by omega) hfo2
    obtain ⟨b2, σ2, τ2, e1, e2, e3, e4, e5, e6⟩ := plain_go (F := F) (G := G) (j := 0) (T := 2) (s0 := 0) hF hd1 (SYQ_SYN hS1 (by omega)) hK1.2.2.1 g1 g2 g3 g4 g5 (by omega) (by omega) g9 g11 (Or.inr ⟨by omega, by rw [show 0 + lnT t = lnT t from Nat.zero_add _]; exact g12⟩) (lk := lkQ σ1 D G fv) (κ := κ) (fun c hc => by unfold lkQ; rw [if_pos hc]) g8 hob
    have e1' : Pl_replaceAll F σ1 11 0 = some (b2, σ2) := e1
    obtain ⟨hT2, hK2⟩ := RL_pl hT1 hK1 e3 e4 e5
    have hSL2 := SL_pl hSL1 e3 e5
    have a8 : gi τ1 8 ≤ 0 := by rw [hAW.2.1]; decide
    rcases e6 with z | ⟨z, L, hRP⟩
    · refine ⟨-4, σ2, τ2, ?_, ?_, hT2, hSL2, hK2⟩
      · rw [Q_same, q1, bi_some, if_neg (by rw [b1]; decide), e1', bi_some, if_pos z]
      · rw [Md_same, q2, bi_some, if_pos a8, g0, e2, bi_some, if_pos z]
    · obtain ⟨p1, p2, p3, p4, t', p5, p6, p7, p8⟩ := hRP
      -- the first is kept
      obtain ⟨τ3, m1, m2, m3⟩ := layRowOut (F := F) (by omega) p6 (fun c hc => (gdc_nm (p7 c hc)).1) (by rw [p5]; exact p4) (by rw [p5]; exact p1)
      have hlen := (prS_len t' 0 p6).1
      rw [p5] at hlen
      obtain ⟨g, c1, c2, c3⟩ := cp_loop (F := F) (n := (prS t' 0).length) (by omega) (prS t' 0).length F 0 τ3 (by omega) (by omega)
      obtain ⟨τ4, hτ4⟩ : ∃ x, x = sA τ3 62 g := ⟨_, rfl⟩
      rw [← hτ4] at c1
      have s34 : sx [82] [53, 55, 62] τ2 τ4 := by rw [hτ4]; exact sx_sA (sx_mono (by simp) (by simp) m3) (by simp) _
      have h62 : ∀ (i : Nat) (v : Int32), (prS t' 0)[i]? = some v → ga τ4 62 i = v := fun i v hv => by
        have hi : i < (prS t' 0).length := by
          rcases Nat.lt_or_ge i (prS t' 0).length with w | w
          · exact w
          · rw [List.getElem?_eq_none w] at hv; cases hv
        rw [hτ4]
        have : ga (sA τ3 62 g) 62 = g := by simp [zs]
        rw [this, c2 i (Nat.zero_le _) hi, m2.2 i v hv]
      obtain ⟨Z, hZ⟩ : ∃ x, x = gr σ2 901 := ⟨_, rfl⟩
      obtain ⟨W, hW⟩ : ∃ x, x = gr σ2 903 := ⟨_, rfl⟩
      obtain ⟨σ3, hσ3⟩ : ∃ x, x = sr (sr σ2 903 Z) 901 W := ⟨_, rfl⟩
      have hkeep : Pl_keep F σ2 = some σ3 := by rw [Pl_keep, hσ3, hZ, hW]
      have f23 : frG σ2 σ3 := by
        rw [hσ3]
        exact ⟨fun r => by simp [zs], fun r => by simp [zs], fun r => by simp [zs], fun r => by simp [zs], fun r => by simp [zs], fun r => by simp [zs], fun a w1 w2 => by simp [zs, w1, w2]⟩
      have v901 : gr σ3 901 = W := by rw [hσ3]; simp [zs]
      have v903 : gr σ3 903 = Z := by rw [hσ3]; simp [zs]
      have v902 : gr σ3 902 = gr σ2 902 := f23.2.2.2.2.2.2 902 (by omega) (by omega)
      have hRW3 : RWs σ3 := by
        obtain ⟨x1, x2, x3, x4, x5, x6⟩ := e4
        rw [← hZ] at x1 x4 x5
        rw [← hW] at x3 x5 x6
        exact ⟨by rw [v901]; exact x3, by rw [v902]; exact x2, by rw [v903]; exact x1, by rw [v901, v902]; exact fun w => x6 w.symm, by rw [v901, v903]; exact fun w => x5 w.symm, by rw [v902, v903]; exact fun w => x4 w.symm⟩
      obtain ⟨hT3, hSL3, hK3⟩ := RL_md hT2 hSL2 hK2 f23 hRW3 s34
      -- frames from the question on
      have fga : ∀ a, a ≠ 57 → a ≠ 58 → a ≠ 59 → ga σ3 a = ga σ1 a := fun a w1 w2 w3 => (f23.2.1 a).trans (e3.2.1 a w1 w2 w3)
      have fgb : ∀ a, gb σ3 a = gb σ1 a := fun a => (f23.2.2.1 a).trans (e3.2.2.1 a)
      have fmi : ∀ j, j < 1200 → mi σ3 j = mi σ1 j := fun j hj => (f23.2.2.2.1 j).trans (e3.2.2.2.2.2.1 j (by omega))
      have fma : ∀ a, a < 72 → ma σ3 a = ma σ1 a := fun a ha => (f23.2.2.2.2.1 a).trans (e3.2.2.2.2.2.2.1 a (by omega))
      have fmb : ∀ a, a < 72 → mb σ3 a = mb σ1 a := fun a ha => (f23.2.2.2.2.2.1 a).trans (e3.2.2.2.2.2.2.2 a (by omega))
      have fgi : ∀ r, r ≠ 907 → r ≠ 908 → gi σ3 r = gi σ1 r := fun r w1 w2 => (f23.1 r).trans (e3.1 r w1 w2)
      have t14 : sx [82, 95, 96, 97] [53, 55, 59, 60, 61, 62] τ1 τ4 := sx_tr (sx_mono (by simp) (by simp) e5) (sx_mono (by simp) (by simp) s34)
      have hd3 : dcN σ3 τ4 D := dcN_cg (fgi 400 (by omega) (by omega)) (t14.1 52 (by simp)) (fun a ha => fga a (by omega) (by omega) (by omega)) (fun a _ => fgb a) (fun a ha => t14.2.1 a (by simp; omega)) (fun a _ => sx_gb t14 a) hd1
      have hS3 : SYQ σ3 τ4 D G N0 := SYQ_cg hS1 hD (fun _ _ => rfl) (fun a ha => fga a (by omega) (by omega) (by omega)) (fun b _ => fgb b) (fun j hj => fmi j (by omega)) (fun a _ w => fma a (by omega)) (fmb 61 (by omega)) (fun i _ => by rw [t14.2.1 2 (by simp), sx_gb t14, t14.2.1 4 (by simp), t14.2.1 5 (by simp)]; exact ⟨rfl, rfl, rfl, rfl⟩) (t14.2.1 41 (by simp))
      have k2' : rwL σ3 11 (lnT t) (hdT t2 :: tlT t2) := rwL_fr _ _ (fun j _ _ => by rw [fma _ (by decide), fma _ (by decide), fma _ (by decide), fmb _ (by decide)]; exact ⟨rfl, rfl, rfl, rfl⟩) k2
      have k3' : nd τ4 (-2) (-1) N1 N t2 nn2 As2 := nd_mono (τ := τ1) (Nat.le_refl _) (Nat.le_refl _) (fun i _ _ => by rw [t14.2.1 2 (by simp), sx_gb t14, t14.2.1 4 (by simp), t14.2.1 5 (by simp)]; exact ⟨rfl, rfl, rfl, rfl⟩) t2 nn2 As2 k3
      have hlk : lkQ σ3 D G fv2 = lkQ σ1 D G fv2 := lkQ_cg (fga 29 (by omega) (by omega) (by omega)) (fga 40 (by omega) (by omega) (by omega)) (fgb 30)
      obtain ⟨b3, σ5, τ5, d1, d2, d3, d4, d5, d6⟩ := plain_go (F := F) (G := G) (j := 1) (T := 2) (s0 := lnT t) hF hd3 (SYQ_SYN hS3 (by omega)) hRW3 k1 k2' k3' k4 k5 (by omega) (by omega) (by rw [fmi 1107 (by omega)]; exact g9) (by rw [fma 70 (by omega)]; exact g12) (Or.inl ⟨rfl, by rw [fmi 1104 (by omega)]; exact g10⟩) (lk := lkQ σ3 D G fv2) (κ := κ2) (fun c hc => by unfold lkQ; rw [if_pos hc]) (by rw [hlk]; exact k8) (fun b hb => okb_cg (fun a ha => fga a (by omega) (by omega) (by omega)) (fun b _ => fgb b) (hob2 b hb))
      have d1' : Pl_replaceAll F σ3 11 1 = some (b3, σ5) := d1
      obtain ⟨hT5, hK5⟩ := RL_pl hT3 hK3 d3 d4 d5
      have hSL5 := SL_pl hSL3 d3 d5
      have h91' : gi τ4 91 = nI nn2 := by rw [t14.1 91 (by simp)]; exact h91
      have eM : Md_same F τ = smK F τ4 (nI (prS t' 0).length) := by
        rw [Md_same, q2, bi_some, if_pos a8, g0, e2, bi_some, if_neg (by rw [z]; decide), m1, bv_some, m2.1]
        exact c1
      have eC : Q_same F σ = if b3 = 0 then some (-4, σ5) else bi (Pl_isAsKept F σ5) (fun r16 σ15 => if r16 = 0 then (Q_same_77 F σ15 (0 : Int32)) else (Q_same_77 F σ15 (1 : Int32))) := by
        rw [Q_same, q1, bi_some, if_neg (by rw [b1]; decide), e1', bi_some, if_neg (by rw [z]; decide), hkeep, bv_some, d1', bi_some]
      rcases d6 with w | ⟨w, L2, hRP2⟩
      · refine ⟨-4, σ5, τ5, by rw [eC, if_pos w], ?_, hT5, hSL5, hK5⟩
        rw [eM, smK, h91', d2, bi_some, if_pos w]
      · have hRP5 := hRP2
        obtain ⟨o1, o2, o3, o4, t3, o5, o6, o7, o8⟩ := hRP2
        -- the kept row is still there
        have pZ : isP Z := by rw [hZ]; exact e4.1
        have x903 : gr σ5 903 = Z := by rw [d3.2.2.2.2.1 903 (by omega) (by omega)]; exact v903
        rw [v903] at d3
        have y2 : mi σ5 (100 * Z + 4) = nI L.length := by
          rw [d3.2.2.2.2.2.1 _ (by omega), f23.2.2.2.1, hZ]; exact p2
        have y3 : cRw σ5 Z 0 L := by
          rw [← hZ] at p3
          refine cRw_fr L 0 (fun j _ _ => ?_) p3
          rw [d3.2.2.2.2.2.2.1 (rA Z 0) (by unfold rA; omega), d3.2.2.2.2.2.2.1 (rA Z 2) (by unfold rA; omega), d3.2.2.2.2.2.2.2 (rA Z 1) (by unfold rA; omega), f23.2.2.2.2.1, f23.2.2.2.2.1, f23.2.2.2.2.2.1]
          exact ⟨rfl, rfl, rfl⟩
        obtain ⟨r, r1, r2⟩ := likeC (F := F) (by omega) (isP_row d4.1) (isP_row pZ) o1 p1 o2 y2 o3 y3 o8 p8
        obtain ⟨τ6, n1, n2, n3⟩ := layRowOut (F := F) (by omega) o6 (fun c hc => (gdc_nm (o7 c hc)).1) (by rw [o5]; exact o4) (by rw [o5]; exact o1)
        have hlen2 := (prS_len t3 0 o6).1
        rw [o5] at hlen2
        have s62 : ga τ6 62 = ga τ4 62 := by rw [n3.2.1 62 (by simp), d5.2.1 62 (by simp)]
        obtain ⟨r', m1', m2'⟩ := cmpM (F := F) (by omega) (W := prS t' 0) (W' := prS t3 0) (by omega) (by omega) (fun i v hv => by rw [s62]; exact h62 i v hv) n2
        -- rows and texts agree
        have hrr : r = r' := by
          rcases r2 with ⟨v1, v2⟩ | ⟨v1, v2⟩
          · rcases m2' with ⟨u1, _⟩ | ⟨_, u2⟩
            · rw [v1, u1]
            · exfalso
              apply u2
              have lx : isLine (gr σ5 11) = true := by rcases hSL5.1 with ⟨_, q⟩ | ⟨_, q⟩ <;> rw [q] <;> decide
              obtain ⟨s1, b1', b2', _⟩ := show_go (F := F) (by omega) d4 hRP5 lx o5 o6 o7
              have hll : L2.length = L.length := by
                have := congrArg List.length v2
                simpa using this
              obtain ⟨s2, b3', b4', _⟩ := show_go (F := F) (τ := τ2) (L := L) (by omega) d4 ⟨p1, by rw [o2, hll], cRw_map L2 L 0 v2 o3, p4, t', p5, p6, p7, p8⟩ lx p5 p6 p7
              have es : s1 = s2 := Option.some.inj (b1'.symm.trans b3')
              rw [es] at b2'
              exact lnC_eq (by omega) (by omega) b4' b2'
          · rcases m2' with ⟨_, u2⟩ | ⟨u1, _⟩
            · exfalso
              apply v2
              rw [← o5, ← p5]
              exact (txt_row p6 p7 o6 o7 u2).symm
            · rw [v1, u1]
        have hrb : r = 1 ∨ r = 0 := by rcases r2 with ⟨v, _⟩ | ⟨v, _⟩ <;> simp [v]
        obtain ⟨hT6, hSL6, hK6⟩ := RL_md hT5 hSL5 hK5 (frG_rfl σ5) d4 (sx_mono (by simp) (by simp) n3)
        refine ⟨r, σ5, τ6, ?_, ?_, hT6, hSL6, hK6⟩
        · rw [eC, if_neg (by rw [w]; decide), Pl_isAsKept, gd_t (isP_row d4.1), x903, r1, bi_some]
          rcases hrb with v | v <;> subst v
          · rw [gd_t (by decide), bi_some, if_neg (by decide)]; rfl
          · rw [gd_t (by decide), bi_some, if_pos rfl]; rfl
        · rw [eM, smK, h91', d2, bi_some, if_neg (by rw [w]; decide), n1, bv_some, hrr]
          exact m1'
end R
