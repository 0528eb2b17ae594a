/-! Both sides, in the class. Own text. -/
theorem prT_cg {lt lt' : Nat → Int32} : ∀ (d : Nat) (t : IT), (∀ p v, t p = v + 2 → lt v = lt' v) → prT lt d t = prT lt' d t := by
  intro d
  induction d with
  | zero =>
    intro t h
    rw [prT, prT]
    by_cases c : t [] ≤ 1
    · rw [if_pos c, if_pos c]
    · rw [if_neg c, if_neg c, h [] (t [] - 2) (by omega)]
  | succ d ih =>
    intro t h
    rw [prT, prT]
    by_cases c : t [] = 1
    · rw [if_pos c, if_pos c, ih (dw t false) (fun p v hp => h (false :: p) v hp), ih (dw t true) (fun p v hp => h (true :: p) v hp)]
    · rw [if_neg c, if_neg c]
      by_cases c0 : t [] = 0
      · rw [if_pos c0, if_pos c0]
      · rw [if_neg c0, if_neg c0, h [] (t [] - 2) (by omega)]
section K
variable {F : Nat} {σ : zS} {G : SG}
theorem hlC_mk {V : List Nat} {vis : Nat → Bool} (hm : mkV σ G V vis) (hn : V.Nodup) (hlen : V.length ≤ 2000) : ∃ lt, hlC σ G 1 lt ∧ ∀ r, r < gn G → gso G r = 0 → vis r = true → lt r = ltV V r := by
  refine ⟨fun r => ((97 : Int32) + (if (26 : Int32) < (ga σ 26 r) then (26 : Int32) else (ga σ 26 r))) - (1 : Int32), fun r hr h0 => Or.inr ⟨by decide, rfl, ?_⟩, fun r hr h0 hv => (hl_mk hm hn hlen (t := fun r => vis r = true) (fun r _ _ z => z) r hr h0 hv).1⟩
  cases hv : vis r with
  | true =>
    have := hl_mk hm hn hlen (t := fun r => vis r = true) (fun r _ _ z => z) r hr h0 hv
    show vp_nar .byte (Int32.toInt8 (((97 : Int32) + (if (26 : Int32) < (ga σ 26 r) then (26 : Int32) else (ga σ 26 r))) - (1 : Int32))).toInt32 = ((97 : Int32) + (if (26 : Int32) < (ga σ 26 r) then (26 : Int32) else (ga σ 26 r))) - (1 : Int32)
    rw [this.1]; exact this.2
  | false =>
    show vp_nar .byte (Int32.toInt8 (((97 : Int32) + (if (26 : Int32) < (ga σ 26 r) then (26 : Int32) else (ga σ 26 r))) - (1 : Int32))).toInt32 = ((97 : Int32) + (if (26 : Int32) < (ga σ 26 r) then (26 : Int32) else (ga σ 26 r))) - (1 : Int32)
    rw [(hm r hr).1 hv]
    decide
/-- letters of two kinds -/
def V2 (d : Nat) (t u : IT) : List Nat := ddp (ddp [] (oc d t)) (oc d u)
theorem lnC_clear {σ : zS} {x : Nat} (hx : isLine x = true) : Li_clear F σ x = some (ti σ (100 * x + 1) 0) ∧ lnC (ti σ (100 * x + 1) 0) x [] := by
  refine ⟨by rw [Li_clear, gd_t hx], ?_, fun i v hv => by cases hv⟩
  simp [zs]
  exact nI_0.symm
theorem CS_ti {x : Nat} {v : Int32} (h : CS σ G) : CS (ti σ x v) G := CS_cg (by simp [zs]) (fun k _ => by simp [zs]) h
theorem sidesC (hF : 20000 ≤ F) (hC : CS σ G) {d x y : Nat} (hx : x < gn G) (hy : y < gn G) (hdx : dpt d (gT G x)) (hdy : dpt d (gT G y)) : ∃ σ', Ki_showSides F σ (nI x) (nI y) = some σ' ∧ CS σ' G ∧ lnR σ' 15 (prT (ltV (V2 d (gT G x) (gT G y))) d (gT G x)) ∧ lnR σ' 16 (prT (ltV (V2 d (gT G x) (gT G y))) d (gT G y)) ∧ (∀ r, r ≠ 309 → r ≠ 310 → gi σ' r = gi σ r) ∧ (∀ a, a ≠ 26 → a ≠ 28 → ga σ' a = ga σ a) ∧ (∀ a, gb σ' a = gb σ a) ∧ (∀ a, gl σ' a = gl σ a) ∧ (∀ a, gr σ' a = gr σ a) ∧ (∀ j, j ≠ 1501 → j ≠ 1601 → mi σ' j = mi σ j) ∧ (∀ a, a ≠ lA 15 → a ≠ lA 16 → ma σ' a = ma σ a) ∧ (∀ a, mb σ' a = mb σ a) := by
  have hw := hC.2.2.2.2.2.1
  have hgn := hC.2.2.1
  obtain ⟨σ1, a1, a2, a3⟩ := clrC (F := F) hF hC
  have s2 : sx [309, 310] [26, 28] σ (si σ1 310 0) := sx_si (sx_mono (by decide) (by decide) a2) (by decide) _
  have hm : mkV (si σ1 310 0) G [] (fun _ => false) := by
    intro r hr
    have : ga (si σ1 310 0) 26 r = 0 := by simp only [zs]; exact a3 r hr
    rw [this]
    exact ⟨fun _ => rfl, fun z => (by cases z), fun z => (by cases z)⟩
  obtain ⟨σ2, v2, b1, b2, b3, b4, b5, b6, b7⟩ := letterC (F := F) (V := []) (vis := fun _ => false) hF (CS_sx s2 (by decide) (by decide) (by decide) (by decide) hC) hx hdx hm (by simp [zs]; exact nI_0.symm) (by simp; exact unv_0 _) ⟨fun r z => (by cases z), fun r z => (by cases z)⟩
  obtain ⟨σ3, v3, c1, c2, c3, c4, c5, c6, c7⟩ := letterC (F := F) hF b3 hy hdy b4 b5 b6 b7
  have hV : ddp (ddp [] (oc d (gT G x))) (oc d (gT G y)) = V2 d (gT G x) (gT G y) := rfl
  rw [hV] at c1 c4 c5 c6 c7
  have hnd : (V2 d (gT G x) (gT G y)).Nodup := ddp_nd _ _ (ddp_nd _ _ List.nodup_nil)
  have sA : sx [309, 310] [26, 28] σ σ3 := sx_tr s2 (sx_tr b2 c2)
  have vin : ∀ k, k < gn G → (k = x ∨ k = y) → ∀ p v, gT G k p = v + 2 → v ∈ V2 d (gT G x) (gT G y) := by
    intro k hk hxy p v hp
    rcases hxy with e | e
    · subst e
      exact (ddp_mem _ _ _).mpr (Or.inl ((ddp_mem _ _ _).mpr (Or.inr ((oc_mem d _ (gT_wfT hw hk) hdx v).mpr ⟨p, hp⟩))))
    · subst e
      exact (ddp_mem _ _ _).mpr (Or.inr ((oc_mem d _ (gT_wfT hw hk) hdy v).mpr ⟨p, hp⟩))
  have vop : ∀ k, k < gn G → ∀ p v, gT G k p = v + 2 → v < gn G ∧ gso G v = 0 := by
    have : ∀ (p : List Bool) (k : Nat), k < gn G → ∀ v, gT G k p = v + 2 → v < gn G ∧ gso G v = 0 := by
      intro p
      induction p with
      | nil =>
        intro k hk v hp
        have hr := rt_lt hw hk
        rcases so3 hw hr with z | z | z
        · rw [gT_0 z] at hp
          have : v = rt G k := by unfold iV at hp; omega
          rw [this]; exact ⟨hr, z⟩
        · rw [gT_1 z] at hp; cases hp
        · rw [gT_2 z] at hp; cases hp
      | cons b q ih =>
        intro k hk v hp
        have hr := rt_lt hw hk
        rcases so3 hw hr with z | z | z
        · rw [gT_0 z] at hp
          have : v = rt G k := by unfold iV at hp; omega
          rw [this]; exact ⟨hr, z⟩
        · rw [gT_1 z] at hp; cases hp
        · rw [gT_2 z] at hp
          obtain ⟨d1, d2⟩ := (hw.1 _ hr).2.2 z
          cases b
          · exact ih _ d1 v hp
          · exact ih _ d2 v hp
    exact fun k hk p v hp => this p k hk v hp
  obtain ⟨lt, l1, l2⟩ := hlC_mk c4 hnd (by omega)
  have eq : ∀ k, k < gn G → (k = x ∨ k = y) → prT lt d (gT G k) = prT (ltV (V2 d (gT G x) (gT G y))) d (gT G k) := by
    intro k hk hxy
    refine prT_cg d _ (fun p v hp => ?_)
    obtain ⟨q1, q2⟩ := vop k hk p v hp
    exact l2 v q1 q2 (c7.2 v (vin k hk hxy p v hp))
  obtain ⟨σ4, hσ4⟩ : ∃ s, s = ti (ti σ3 (100 * 15 + 1) 0) (100 * 16 + 1) 0 := ⟨_, rfl⟩
  have hC4 : CS σ4 G := by rw [hσ4]; exact CS_ti (CS_ti c3)
  have l15 : lnC σ4 15 [] := ⟨by rw [hσ4]; simp [zs]; exact nI_0.symm, fun i v hv => (by cases hv)⟩
  have l16 : lnC σ4 16 [] := ⟨by rw [hσ4]; simp [zs]; exact nI_0.symm, fun i v hv => (by cases hv)⟩
  have l14 : hlC σ4 G 1 lt := by
    intro r hr h0
    have : ga σ4 26 = ga σ3 26 := by rw [hσ4]; simp only [zs]
    rw [this]; exact l1 r hr h0
  obtain ⟨σ5, d1, d2, d3, d4⟩ := showC (F := F) (x := 15) hF (by decide) l14 hC4 hx hdx l15
  have l16' : lnC σ5 16 [] := ⟨by rw [d3.2.2.2.2.2.1 _ (by decide)]; exact l16.1, fun i v hv => (by cases hv)⟩
  have l15' : hlC σ5 G 1 lt := by
    intro r hr h0
    rw [d3.2.1 26 (by decide)]; exact l14 r hr h0
  obtain ⟨σ6, e1, e2, e3, e4⟩ := showC (F := F) (x := 16) hF (by decide) l15' d2 hy hdy l16'
  rw [eq x hx (Or.inl rfl)] at d4
  rw [eq y hy (Or.inr rfl)] at e4
  obtain ⟨f1, f2, f3, f4, f5, f6, f7, f8⟩ := d3
  obtain ⟨g1, g2, g3, g4, g5, g6, g7, g8⟩ := e3
  refine ⟨σ6, ?_, e2, ?_, e4, fun r r1 r2 => ?_, fun a r1 r2 => ?_, fun a => ?_, fun a => ?_, fun a => ?_, fun j r1 r2 => ?_, fun a r1 r2 => ?_, fun a => ?_⟩
  · rw [Ki_showSides, a1, bv_some, b1, bi_some]
    show bi (Ki_letter F σ2 (nI y)) _ = _
    rw [c1, bi_some]
    show gd (isLine 15) (bv (Li_clear F σ3 15) _) = _
    rw [gd_t (by decide), (lnC_clear (F := F) (σ := σ3) (x := 15) (by decide)).1, bv_some, gd_t (by decide), (lnC_clear (F := F) (σ := ti σ3 (100 * 15 + 1) 0) (x := 16) (by decide)).1, bv_some, ← hσ4, d1, bv_some, e1, bv_some]
  · rcases d4 with ⟨⟨w1, w2⟩, w3⟩ | ⟨z, w1, w2, w3, w4⟩
    · exact Or.inl ⟨⟨by rw [g6 _ (by decide)]; exact w1, fun i v hv => by rw [g7 _ (by decide)]; exact w2 i v hv⟩, w3⟩
    · exact Or.inr ⟨z, by rw [g6 _ (by decide)]; exact w1, w2, w3, w4⟩
  · rw [g1 r r1, f1 r r1, hσ4]; simp only [zs]; exact sA.1 r (by simp [r1, r2])
  · rw [g2 a r2, f2 a r2, hσ4]; simp only [zs]; exact sA.2.1 a (by simp [r1, r2])
  · rw [g3, f3, hσ4]; simp only [zs]; exact sx_gb sA a
  · rw [g4, f4, hσ4]; simp only [zs]; exact sx_gl sA a
  · rw [g5, f5, hσ4]; simp only [zs]; exact sx_gr sA a
  · rw [g6 j (by omega), f6 j (by omega), hσ4]; simp [zs, r1, r2]; rw [sx_mi sA]
  · rw [g7 a r2, f7 a r1, hσ4]; simp only [zs]; exact sx_ma sA a
  · rw [g8, f8, hσ4]; simp only [zs]; exact sx_mb sA a
end K
