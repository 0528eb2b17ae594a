/-! plain(): both answer alike. Own text. -/
section R
variable {F : Nat} {σ τ σ' τ' : zS} {D N0 : Nat} {G H : SG}
theorem r_plain (hF : 200000 ≤ F) (h : RL σ τ) : ∃ r σ' τ', Q_plain F σ = some (r, σ') ∧ Md_plain F τ = some (r, τ') ∧ RL σ' τ' := by
  obtain ⟨hT, hSL, hK⟩ := RL_0 h
  have hK0 := hK
  obtain ⟨_, h85, hRW, D, N0, G, H, hTD, hBS, _, hS⟩ := hK
  obtain ⟨b, rr, σ1, τ1, q1, q2, q3, q4⟩ := ask1_ok (F := F) (by omega) hBS hT
  have hFT1 : FT σ1 τ1 := by
    rcases q4 with ⟨_, _, z⟩ | ⟨_, z, _⟩
    · exact z
    · exact Or.inl z
  obtain ⟨hT1, hK1, hS1, hd1, hN0⟩ := RK_ao hTD hBS hS hRW h85 q3 hFT1
  have hSL1 : SL σ1 τ1 := SL_q hSL q3.2.2.1 q3.2.2.2.1
  rcases q4 with ⟨b0, hn, hFT⟩ | ⟨b1, hAW, _, N, t, nn, g0, ⟨g1, g2, ⟨As, g3⟩, g4, g5, g6, g7, fv, κ, g8⟩, g9, g10, g11⟩
  · obtain ⟨r1, r2⟩ := FT_r hFT hn
    refine ⟨-10 - gi σ1 200, σ1, τ1, ?_, ?_, hT1, hSL1, hK1⟩
    · rw [Q_plain, q1, bi_some, if_pos b0]
    · rw [Md_plain, q2, bi_some, if_neg r2, r1]
  · have hfo := KW_fo _ _ _ (KW_t (lkQ σ1 D G fv) t g1 κ g8)
    have hob := okb_t (M := 0 + (lvs t).length) hd1 g1 (lvA_in g1 g6 (Nat.le_refl _)) g7 (by omega) hfo
    obtain ⟨b2, σ2, τ2, e1, e2, e3, e4, e5, e6⟩ := plain_go (F := F) (G := G) (j := 0) (T := 1) (s0 := 0) hF hd1 (SYQ_SYN hS1 (by omega)) hK1.2.2.1 g1 g2 g3 g4 g5 (by omega) (by omega) g9 g11 (Or.inl ⟨rfl, by rw [Nat.zero_add]; exact g10⟩) (lk := lkQ σ1 D G fv) (κ := κ) (fun c hc => by unfold lkQ; rw [if_pos hc]) g8 hob
    have e1' : Pl_replaceAll F σ1 11 0 = some (b2, σ2) := e1
    obtain ⟨hT2, hK2⟩ := RL_pl hT1 hK1 e3 e4 e5
    have hSL2 := SL_pl hSL1 e3 e5
    have a8 : gi τ1 8 ≤ 0 := by rw [hAW.2.1]; decide
    rcases e6 with z | ⟨z, L, hRP⟩
    · refine ⟨-4, σ2, τ2, ?_, ?_, hT2, hSL2, hK2⟩
      · rw [Q_plain, q1, bi_some, if_neg (by rw [b1]; decide), e1', bi_some, if_pos z]
      · rw [Md_plain, q2, bi_some, if_pos a8, g0, e2, bi_some, if_pos z]
    · have hRP0 := hRP
      obtain ⟨p1, p2, p3, p4, t', p5, p6, p7, p8⟩ := hRP
      obtain ⟨h1, L0, hL0, h2, h3, h4⟩ := hSL2
      obtain ⟨x, hx⟩ : ∃ x, x = gr σ2 11 := ⟨_, rfl⟩
      obtain ⟨y, hy⟩ : ∃ y, y = gr σ2 10 := ⟨_, rfl⟩
      have hxy : (y = 17 ∧ x = 18) ∨ (y = 18 ∧ x = 17) := by rw [hx, hy]; exact h1
      have lx : isLine x = true := by rcases hxy with ⟨_, z⟩ | ⟨_, z⟩ <;> rw [z] <;> decide
      have hx17 : x = 17 ∨ x = 18 := by omega
      obtain ⟨σ3, s1, s2, s3⟩ := show_go (F := F) (by omega) e4 hRP0 lx p5 p6 p7
      obtain ⟨τ3, m1, m2, m3⟩ := layRowOut (F := F) (by omega) p6 (fun c hc => (gdc_nm (p7 c hc)).1) (by rw [p5]; exact p4) (by rw [p5]; exact p1)
      have hlen := (prS_len t' 0 p6).1
      rw [p5] at hlen
      obtain ⟨τ4, n1, n2, n3, n4⟩ := commitM2 (F := F) (by omega) (by omega) m2
      have g11' : gr σ3 11 = x := by rw [s3.2.2.2.2.1]; exact hx.symm
      have g10' : gr σ3 10 = y := by rw [s3.2.2.2.2.1]; exact hy.symm
      have w10 : gr (sr (sr σ3 10 x) 11 y) 10 = x := by simp [zs]
      have w11 : gr (sr (sr σ3 10 x) 11 y) 11 = y := by simp [zs]
      have wi : ∀ r, gi (sr (sr σ3 10 x) 11 y) r = gi σ3 r := fun r => by simp [zs]
      have wa : ∀ r, ga (sr (sr σ3 10 x) 11 y) r = ga σ3 r := fun r => by simp [zs]
      have wb : ∀ r, gb (sr (sr σ3 10 x) 11 y) r = gb σ3 r := fun r => by simp [zs]
      have wmi : ∀ r, mi (sr (sr σ3 10 x) 11 y) r = mi σ3 r := fun r => by simp [zs]
      have wma : ∀ r, ma (sr (sr σ3 10 x) 11 y) r = ma σ3 r := fun r => by simp [zs]
      have wmb : ∀ r, mb (sr (sr σ3 10 x) 11 y) r = mb σ3 r := fun r => by simp [zs]
      have wr : ∀ a, a ≠ 10 → a ≠ 11 → gr (sr (sr σ3 10 x) 11 y) a = gr σ3 a := fun a w1 w2 => by simp [zs, w1, w2]
      have st : sx [82, 84] [53, 55, 56] τ2 τ4 := sx_tr (sx_mono (by simp) (by simp) m3) (sx_mono (by simp) (by simp) n2)
      refine ⟨nI (prS t' 0).length, sr (sr σ3 10 x) 11 y, τ4, ?_, ?_, ?_, ?_, ?_⟩
      · rw [Q_plain, q1, bi_some, if_neg (by rw [b1]; decide), e1', bi_some, if_neg (by rw [z]; decide), ← hx, s1, bv_some, Q_swapLines, g11', g10', bv_some, w10, gd_t lx, wmi, s2.1]
      · rw [Md_plain, q2, bi_some, if_pos a8, g0, e2, bi_some, if_neg (by rw [z]; decide), m1, bv_some, n1, bi_some]
      · exact rT_fr hT2 (by rw [wi, s3.1 101 (by simp)]) (by rw [wa, s3.2.1 19 (by simp) (by simp)]) (st.1 2 (by simp)) (st.2.1 1 (by simp))
      · refine ⟨by rw [w10, w11]; omega, (prS t' 0).length, by omega, by rw [w10, wmi]; exact s2.1, n3, fun i hi => ?_⟩
        obtain ⟨v, hv⟩ : ∃ v, (prS t' 0)[i]? = some v := ⟨_, List.getElem?_eq_getElem hi⟩
        rw [w10, wma, s2.2 i v hv, n4 i v hv]
      · refine RK_fr hK2 (RWs_fr e4 (fun a ha => by rw [wr a (by omega) (by omega), s3.2.2.2.2.1])) (by rw [st.1 85 (by simp)]; exact hK2.2.1) (fun r hr => by rw [wi, s3.1 r (by simp at hr; omega)]) (fun a ha => by rw [wa, s3.2.1 a (by simp at ha; omega) (by simp at ha; omega)]) (fun b _ => by rw [wb, s3.2.2.1]) (fun j hj => by rw [wmi, s3.2.2.2.2.2.1 j (by omega)]) (fun a ha => ?_) (by rw [wmb, s3.2.2.2.2.2.2.2]) (fun r hr => st.1 r (by simp at hr ⊢; omega)) (fun a ha => st.2.1 a (by simp at ha ⊢; omega)) (fun b => sx_gb st b)
        rw [wma, s3.2.2.2.2.2.2.1 a (by unfold lA at ha ⊢; omega)]
end R
