/-! The calls, from what holds between two calls to what holds there again. Own text. -/
section R
variable {F : Nat} {σ τ σ' τ' : zS} {D N0 : Nat} {G H : SG}
theorem RK_sx (h : RK σ τ) (hs : sx [101] [19] σ σ') (ht : sx [0, 2, 82, 84, 87] [1, 53, 54, 55, 56, 57] τ τ') : RK σ' τ' :=
  RK_fr h (RWs_fr h.2.2.1 (fun a _ => sx_gr hs a)) (by rw [ht.1 85 (by simp)]; exact h.2.1) (fun r hr => hs.1 r (by simp at hr ⊢; omega)) (fun a ha => hs.2.1 a (by simp at ha ⊢; omega)) (fun b _ => sx_gb hs b) (fun j _ => by rw [sx_mi hs]) (fun a _ => by rw [sx_ma hs]) (by rw [sx_mb hs]) (fun r hr => ht.1 r (by simp at hr ⊢; omega)) (fun a ha => ht.2.1 a (by simp at ha ⊢; omega)) (fun b => sx_gb ht b)
theorem rT_fr (h : rTape σ τ) (h1 : gi σ' 101 = gi σ 101) (h2 : ga σ' 19 = ga σ 19) (t1 : gi τ' 2 = gi τ 2) (t2 : ga τ' 1 = ga τ 1) : rTape σ' τ' := by
  obtain ⟨n, a1, a2, a3, a4⟩ := h
  exact ⟨n, a1, by rw [h1]; exact a2, by rw [t1]; exact a3, fun i hi => by rw [h2, t2]; exact a4 i hi⟩
theorem RL_0 (h : RL σ τ) : RL σ (si τ 0 0) :=
  ⟨rT_0 h.1, SL_fr h.2.1 (fun _ _ => rfl) (fun _ _ => rfl) (fun _ _ => rfl) (by simp [zs]) (by simp [zs]), RK_sx h.2.2 (sx_rfl _ _ _) (sx_si (sx_rfl _ _ _) (by decide) _)⟩
theorem r_feed (hF : 200000 ≤ F) (h : RL σ τ) (a b c d e : Int32) : ∃ r σ' τ', Q_feed F σ a b c d e = some (r, σ') ∧ Md_feed F τ a b c d e = some (r, τ') ∧ RL σ' τ' := by
  obtain ⟨hT, hSL, hK⟩ := h
  obtain ⟨r, σ', τ', e1, e2, e3⟩ := feed_ok (F := F) (by omega) hT a b c d e
  obtain ⟨n, hn, h1, h2, h3⟩ := hT
  have key : sx [101] [19] σ σ' ∧ sx [2] [1] τ τ' := by
    by_cases c1 : n + 20 ≤ 1200
    · have z1 := (feedC (F := F) (a := a) (b := b) (c := c) (d := d) (e := e) (by omega) h1 c1).symm.trans e1
      have z2 := (feedM (F := F) (a := a) (b := b) (c := c) (d := d) (e := e) (by omega) h2 c1).symm.trans e2
      rw [← (Prod.mk.inj (Option.some.inj z1)).2, ← (Prod.mk.inj (Option.some.inj z2)).2]
      exact ⟨sx_si (sx_sA (sx_rfl _ _ _) (by decide) _) (by decide) _, sx_si (sx_sA (sx_rfl _ _ _) (by decide) _) (by decide) _⟩
    · have g1 : (1200 : Int32) < nI n + 20 := by
        rw [show (20 : Int32) = nI 20 from by decide, nI_add, show (1200 : Int32) = nI 1200 from by decide]
        exact nI_lt (by omega) (by omega)
      have g2 : ¬ nI n + (20 : Int32) ≤ (1200 : Int32) := by
        rw [show (20 : Int32) = nI 20 from by decide, nI_add, show (1200 : Int32) = nI 1200 from by decide]
        exact nI_ge (by omega) (by omega)
      have q1 : Q_feed F σ a b c d e = some (-4, σ) := by
        rw [Q_feed, Ta_hasRoom, h1, if_pos g1, Ta_hasRoom_18, gd_t isB_0, bi_some, if_pos rfl]
      have q2 : Md_feed F τ a b c d e = some (-4, τ) := by
        rw [Md_feed, h2, if_neg g2]
      have z1 := q1.symm.trans e1
      have z2 := q2.symm.trans e2
      rw [← (Prod.mk.inj (Option.some.inj z1)).2, ← (Prod.mk.inj (Option.some.inj z2)).2]
      exact ⟨sx_rfl _ _ _, sx_rfl _ _ _⟩
  obtain ⟨k1, k2⟩ := key
  exact ⟨r, σ', τ', e1, e2, e3, SL_fr hSL (fun a _ => sx_gr k1 a) (fun j _ => by rw [sx_mi k1]) (fun j _ => by rw [sx_ma k1]) (k2.1 84 (by simp)) (k2.2.1 56 (by simp)), RK_sx hK k1 (sx_mono (by simp) (by simp) k2)⟩
theorem r_cut (h : RL σ τ) (a : Int32) : ∃ r σ' τ', Q_cut F σ a = some (r, σ') ∧ Md_cut F τ a = some (r, τ') ∧ RL σ' τ' := by
  obtain ⟨hT, hSL, hK⟩ := h
  obtain ⟨r, σ', τ', e1, e2, e3⟩ := cut_ok (F := F) hT a
  have k1 : sx [101] [19] σ σ' := by
    by_cases c1 : a < 0
    · rw [Q_cut, if_pos c1, Q_cut_15] at e1
      rw [← (Prod.mk.inj (Option.some.inj e1)).2]; exact sx_rfl _ _ _
    · rw [Q_cut, if_neg c1] at e1
      by_cases c2 : a ≤ gi σ 101
      · rw [if_pos c2] at e1
        rw [← (Prod.mk.inj (Option.some.inj e1)).2]; exact sx_si (sx_rfl _ _ _) (by decide) _
      · rw [if_neg c2, Q_cut_15] at e1
        rw [← (Prod.mk.inj (Option.some.inj e1)).2]; exact sx_rfl _ _ _
  have k2 : sx [2] [1] τ τ' := by
    by_cases c1 : a < 0
    · rw [Md_cut, if_pos c1, Md_cut_12] at e2
      rw [← (Prod.mk.inj (Option.some.inj e2)).2]; exact sx_rfl _ _ _
    · rw [Md_cut, if_neg c1] at e2
      by_cases c2 : a ≤ gi τ 2
      · rw [if_pos c2] at e2
        rw [← (Prod.mk.inj (Option.some.inj e2)).2]; exact sx_si (sx_rfl _ _ _) (by decide) _
      · rw [if_neg c2, Md_cut_12] at e2
        rw [← (Prod.mk.inj (Option.some.inj e2)).2]; exact sx_rfl _ _ _
  exact ⟨r, σ', τ', e1, e2, e3, SL_fr hSL (fun a _ => sx_gr k1 a) (fun j _ => by rw [sx_mi k1]) (fun j _ => by rw [sx_ma k1]) (k2.1 84 (by simp)) (k2.2.1 56 (by simp)), RK_sx hK k1 (sx_mono (by simp) (by simp) k2)⟩
theorem r_place (h : RL σ τ) : ∃ r σ' τ', Q_place F σ = some (r, σ') ∧ Md_place F τ = some (r, τ') ∧ RL σ' τ' := by
  obtain ⟨r, e1, e2⟩ := place_ok (F := F) h.2.2.1
  exact ⟨r, _, _, e1, e2, RL_0 h⟩
theorem r_out (h : RL σ τ) (x : Int32) : ∃ r σ' τ', Q_out F σ x = some (r, σ') ∧ Md_out F τ x = some (r, τ') ∧ RL σ' τ' := by
  obtain ⟨r, e1, e2⟩ := out_ok (F := F) h.2.1 x
  exact ⟨r, _, _, e1, e2, RL_0 h⟩
theorem r_told (h : RL σ τ) (x y : Int32) : ∃ r σ' τ', Q_told F σ x y = some (r, σ') ∧ Md_told F τ x y = some (r, τ') ∧ RL σ' τ' := by
  obtain ⟨D, N0, G, H, hTD, _⟩ := h.2.2.2.2.2
  obtain ⟨r, e1, e2⟩ := told_ok (F := F) hTD x y
  exact ⟨r, _, _, e1, e2, RL_0 h⟩
theorem r_groups (h : RL σ τ) : ∃ r σ' τ', Q_groups F σ = some (r, σ') ∧ Md_groups F τ = some (r, τ') ∧ RL σ' τ' := by
  obtain ⟨D, N0, G, H, hTD, _⟩ := h.2.2.2.2.2
  obtain ⟨r, e1, e2⟩ := groups_ok (F := F) hTD
  exact ⟨r, _, _, e1, e2, RL_0 h⟩
theorem r_member (hF : 200000 ≤ F) (h : RL σ τ) (x y : Int32) : ∃ r σ' τ', Q_member F σ x y = some (r, σ') ∧ Md_member F τ x y = some (r, τ') ∧ RL σ' τ' := by
  obtain ⟨D, N0, G, H, hTD, _⟩ := h.2.2.2.2.2
  obtain ⟨r, e1, e2⟩ := member_ok (F := F) (by omega) hTD x y
  exact ⟨r, _, _, e1, e2, RL_0 h⟩
theorem r_needs (h : RL σ τ) (x y : Int32) : ∃ r σ' τ', Q_needs F σ x y = some (r, σ') ∧ Md_needs F τ x y = some (r, τ') ∧ RL σ' τ' := by
  obtain ⟨D, N0, G, H, hTD, _⟩ := h.2.2.2.2.2
  obtain ⟨r, e1, e2⟩ := need_ok (F := F) hTD x y
  exact ⟨r, _, _, e1, e2, RL_0 h⟩
theorem r_side (hF : 200000 ≤ F) (h : RL σ τ) (x : Int32) : ∃ r σ' τ', Q_side F σ x = some (r, σ') ∧ Md_side F τ x = some (r, τ') ∧ RL σ' τ' := by
  obtain ⟨hT, hSL, hK⟩ := h
  obtain ⟨r, σ', τ', e1, e2, f, s, e3, e4⟩ := side_ok (F := F) (by omega) hSL hK.1 hK.2.1 x
  refine ⟨r, σ', τ', e1, e2, rT_fr hT (f.1 101) (f.2.1 19) (s.1 2 (by simp)) (s.2.1 1 (by simp)), e3, RK_fr hK (RWs_fr hK.2.2.1 (fun a _ => f.2.2.2.2.1 a)) e4 (fun r _ => f.1 r) (fun a _ => f.2.1 a) (fun b _ => f.2.2.1 b) (fun j hj => f.2.2.2.2.2.1 j (by omega) (by omega)) (fun a ha => f.2.2.2.2.2.2.1 a ?_ ?_) (by rw [f.2.2.2.2.2.2.2]) (fun r hr => s.1 r (by simp at hr ⊢; omega)) (fun a ha => s.2.1 a (by simp at ha ⊢; omega)) (fun b => sx_gb s b)⟩ <;> (unfold lA at ha ⊢; omega)
theorem RL_sh (hT : rTape σ τ) (hK : RK σ τ) (f : frSh σ σ') (s : sx [0, 82, 84] [53, 55, 56] τ τ') (hSL : SL σ' τ') : RL σ' τ' := by
  refine ⟨rT_fr hT (f.1 101 (by simp)) (f.2.1 19 (by simp)) (s.1 2 (by simp)) (s.2.1 1 (by simp)), hSL, RK_fr hK (RWs_fr hK.2.2.1 (fun a ha => f.2.2.2.2.1 a (by omega) (by omega))) (by rw [s.1 85 (by simp)]; exact hK.2.1) (fun r hr => f.1 r (by simp at hr; omega)) (fun a ha => f.2.1 a (by simp at ha; omega)) (fun b _ => f.2.2.1 b) (fun j hj => f.2.2.2.2.2.1 j (by omega) (by omega)) (fun a ha => f.2.2.2.2.2.2.1 a ?_ ?_) (by rw [f.2.2.2.2.2.2.2]) (fun r hr => s.1 r (by simp at hr ⊢; omega)) (fun a ha => s.2.1 a (by simp at ha ⊢; omega)) (fun b => sx_gb s b)⟩ <;> (unfold lA at ha ⊢; omega)
theorem r_kindOf (hF : 200000 ≤ F) (h : RL σ τ) (x y : Int32) : ∃ r σ' τ', Q_kindOf F σ x y = some (r, σ') ∧ Md_kindOf F τ x y = some (r, τ') ∧ RL σ' τ' := by
  obtain ⟨hT, hSL, hK⟩ := h
  obtain ⟨D, N0, G, H, hTD, _, hc, _⟩ := hK.2.2.2
  by_cases h0 : 0 < D
  · obtain ⟨Gc, Hc, c1, c2, c3⟩ := hc h0
    obtain ⟨r, σ', τ', e1, e2, f, s, e3⟩ := kindOf_ok (F := F) (by omega) hSL hTD hK.2.1 (fun _ => ⟨c1, c2, c3⟩) x y
    exact ⟨r, σ', τ', e1, e2, RL_sh hT hK f s e3⟩
  · obtain ⟨r, σ', τ', e1, e2, f, s, e3⟩ := kindOf_ok (F := F) (G := G) (H := H) (by omega) hSL hTD hK.2.1 (fun z => absurd z h0) x y
    exact ⟨r, σ', τ', e1, e2, RL_sh hT hK f s e3⟩
theorem r_kind (hF : 200000 ≤ F) (h : RL σ τ) : ∃ r σ' τ', Q_kind F σ = some (r, σ') ∧ Md_kind F τ = some (r, τ') ∧ RL σ' τ' := by
  obtain ⟨hT, hSL, hK⟩ := RL_0 h
  obtain ⟨_, h85, hRW, D, N0, G, H, hTD, hBS, _, hS⟩ := hK
  obtain ⟨_, h85', _⟩ := h.2.2
  obtain ⟨D', N0', G', H', hTD', hBS', _, hS'⟩ := h.2.2.2.2.2
  obtain ⟨r, σ1, τ1, σ', τ', e1, e2, hA, hFT, f, s, e3⟩ := kind_ok (F := F) (by omega) hBS' h.1 h.2.1 h85'
  have hD' := hBS'.2.2.2.2.2.2.2.2.2.2.2.2.1.2.2.1
  have s0 : sx [0] [] τ (si τ 0 0) := sx_si (sx_rfl _ _ _) (by decide) _
  have hTD0 : TD σ (si τ 0 0) D' := TD_cg hTD' (fun _ _ => rfl) (fun _ _ => rfl) (fun _ _ => rfl) (fun r hr => s0.1 r (by simp; omega)) (fun a _ => s0.2.1 a (by simp)) (fun b _ => sx_gb s0 b)
  have hS0 : SYQ σ (si τ 0 0) D' G' N0' := SYQ_cg hS' hD' (fun _ _ => rfl) (fun _ _ => rfl) (fun _ _ => rfl) (fun _ _ => rfl) (fun _ _ _ => rfl) rfl (fun i _ => by rw [s0.2.1 2 (by simp), sx_gb s0, s0.2.1 4 (by simp), s0.2.1 5 (by simp)]; exact ⟨rfl, rfl, rfl, rfl⟩) (s0.2.1 41 (by simp))
  obtain ⟨k1, k2, _⟩ := RK_ao hTD0 (BS_0 hBS') hS0 hRW h85 hA hFT
  exact ⟨r, σ', τ', e1, e2, RL_sh k1 k2 f (sx_mono (by simp) (by simp) s) e3⟩
/-- rows and lines of plain() -/
theorem RL_pl (hT : rTape σ τ) (hK : RK σ τ) {W : Nat} (f : frPl W σ σ') (hRW : RWs σ') (s : sx [95, 96, 97] [53, 59, 60, 61] τ τ') : rTape σ' τ' ∧ RK σ' τ' := by
  refine ⟨rT_fr hT (f.1 101 (by simp) (by simp)) (f.2.1 19 (by simp) (by simp) (by simp)) (s.1 2 (by simp)) (s.2.1 1 (by simp)), RK_fr hK hRW (by rw [s.1 85 (by simp)]; exact hK.2.1) (fun r hr => f.1 r (by simp at hr; omega) (by simp at hr; omega)) (fun a ha => f.2.1 a (by simp at ha; omega) (by simp at ha; omega) (by simp at ha; omega)) (fun b _ => f.2.2.1 b) (fun j hj => f.2.2.2.2.2.1 j (by omega)) (fun a ha => f.2.2.2.2.2.2.1 a ?_) (f.2.2.2.2.2.2.2 61 (by omega)) (fun r hr => s.1 r (by simp at hr ⊢; omega)) (fun a ha => s.2.1 a (by simp at ha ⊢; omega)) (fun b => sx_gb s b)⟩
  unfold lA at ha
  omega
theorem SL_pl (h : SL σ τ) {W : Nat} (f : frPl W σ σ') (s : sx [95, 96, 97] [53, 59, 60, 61] τ τ') : SL σ' τ' := by
  refine SL_fr h (fun a ha => f.2.2.2.2.1 a (by omega) (by omega)) (fun j hj => f.2.2.2.2.2.1 j (by omega)) (fun a ha => f.2.2.2.2.2.2.1 a ?_) (s.1 84 (by simp)) (s.2.1 56 (by simp))
  unfold lA at ha
  omega
end R
