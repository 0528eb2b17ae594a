/-! The class lists a term: arrows, lists, and the whole. Own text. -/
section W
variable {Z : List (TE × TE)} {F : Nat} {τ : zS} {D : Nat} {ow pr me : Int32} {ty sm : Int64 → TE} {Bn Sn : Int64 → Prop} {X en : Nat}
/-- an arrow or a list is begun -/
theorem lT_beg (hX : isRow X = true) (hF : 1300 ≤ F) (hen : en ≤ 200) {σ : zS} {G : SG} {dom : Nat → Prop} {m : Nat → Nat} {E : List EQ} {fv : List Int64} {i d f cN : Nat} (hI : IV Z τ D ow pr me ty sm Bn Sn σ G dom m E fv) (h811 : gi σ 811 = nI d) (hd : d ≤ i) (hi : i < en) (h2 : ma σ (rA X 0) i ≠ 2) (h3 : ma σ (rA X 0) i ≠ 3) (r2 : ma σ (rA X 2) i = nI cN) (hc : 0 < cN) (hc2 : cN < 1000) (hf : 0 < f) : ∃ σ2, So_listTerm_32 F f σ X ow (nI en) (nI i) = So_listTerm_32 F (f - 1) σ2 X ow (nI en) (nI (i + 1)) ∧ sx [811] [52, 53, 54] σ σ2 ∧ gi σ2 811 = nI (d + 1) ∧ ga σ2 52 d = nI i ∧ ga σ2 53 d = nI 0 ∧ ga σ2 54 d = nI 0 ∧ ∀ j, j < d → ga σ2 52 j = ga σ 52 j ∧ ga σ2 53 j = ga σ 53 j ∧ ga σ2 54 j = ga σ 54 j := by
  obtain ⟨f, rfl⟩ : ∃ f', f = f' + 1 := ⟨f - 1, by omega⟩
  have hs0 : sx [811] [52, 53, 54] σ (sa σ 52 d (nI i)) := sx_sa (sx_rfl _ _ _) (by decide) _ _
  obtain ⟨σ2, b1, b2, b3, b4, b5, b6, b7⟩ := push_ok (F := F) (f := f) (k := 0) hX hen hi hd h811 (start_2 hX (by omega) (by rw [sy_ma (sy_sx hs0)]; exact h2) (by rw [sy_ma (sy_sx hs0)]; exact h3)) (sy_rfl _ _ _)
  refine ⟨σ2, ?_, sx_tr hs0 b2, b3, b4, b5, b6, b7⟩
  rw [b1, cf_ret (F := F) (σ := σ2) hX (d := d) (i := i) (dn := 0) (cN := cN) (u := 0) (n := F) (by omega) (by omega) (by omega) (by omega) b3 b4 b6 (by rw [sx_ma b2, sx_ma hs0]; exact r2) (by omega) hc, bv_some, show f + 1 - 1 = f by omega]
/-- a child that must be of kind star -/
theorem child_s (hX : isRow X = true) (hF : 1300 ≤ F) (hen : en ≤ 200) {a : TE} (hok : okT a) (ha : lTr Z F τ D ow pr me ty sm Bn Sn X en a) {σ : zS} {G : SG} {dom : Nat → Prop} {m : Nat → Nat} {E : List EQ} {fv : List Int64} {i j d f nn dn : Nat} (hI : IV Z τ D ow pr me ty sm Bn Sn σ G dom m E fv) (h811 : gi σ 811 = nI (d + 1)) (hd : d + 1 ≤ j) (hj : j + lnT a ≤ en) (hi : i < 200) (h52 : ga σ 52 d = nI i) (h53 : ga σ 53 d = nI 0) (h54 : ga σ 54 d = nI dn) (hdn : dn < fxO (ma σ (rA X 0) i)) (hr : rwL σ X j (hdT a :: tlT a)) (hB : ∀ c, c ∈ lvs a → (lfB c = 0 → Bn (lfN c)) ∧ (lfB c ≠ 0 → Sn (lfN c))) (hn1 : (apN τ a nn).Nodup) (hn2 : ∀ x, x ∈ apN τ a nn → ¬ dom x ∧ x < 2048) (hG : gn G + 3 * lnT a ≤ 1715) (hE : E.length + lnT a ≤ 216) (hfv : fv.length + lnT a ≤ 200) (hf : lnT a ≤ f) :
  ∃ σ' G' dom' m' fv' u n', So_listTerm_32 F f σ X ow (nI en) (nI j) = bv (So_closeFrames_2 F n' σ' X (nI u)) (fun s => So_listTerm_32 F (f - lnT a) s X ow (nI en) (nI (j + lnT a))) ∧ n' + u = F ∧ u + d + 1 ≤ 200 ∧ sy [306, 807, 811, 814] [23, 24, 25, 49, 50, 51, 52, 53, 54, 56] σ σ' ∧ IV Z τ D ow pr me ty sm Bn Sn σ' G' dom' m' (E ++ (eqC τ ty sm a nn ++ [(kE ty sm a nn, .var 0, plT a)])) fv' ∧ gi σ' 811 = nI (d + 1) ∧ ga σ' 52 d = nI i ∧ ga σ' 53 d = nI 0 ∧ ga σ' 54 d = nI (dn + 1) ∧ xt G dom m G' dom' m' ∧ dmx pr me (apN τ a nn) dom dom' ∧ gn G' + 2 ≤ gn G + 3 * lnT a ∧ fv'.length ≤ fv.length + lnT a ∧ (eqC τ ty sm a nn).length + 1 ≤ lnT a ∧ ∀ i, i < d → ga σ' 52 i = ga σ 52 i ∧ ga σ' 53 i = ga σ 53 i ∧ ga σ' 54 i = ga σ 54 i := by
  obtain ⟨σ2, G2, dom2, m2, fv2, k2, u2, n2, c1, c2, c3, c4, c5, c6, c7, c8, c9, c10, c11, c12, c13⟩ := child hX hF hen hok ha (nn := nn) hI h811 hd hj hr hB hn1 hn2 hG (by omega) hfv hf
  obtain ⟨p52, p53, p54⟩ := c13 d (by omega)
  have el : (E ++ eqC τ ty sm a nn).length = E.length + (eqC τ ty sm a nn).length := List.length_append
  obtain ⟨σ3, d1, d2, d3, d4⟩ := jf_star (F := F) (d := d) (i := i) (dn := dn) (k := k2) (p := plT a) hX c5 (by omega) (by omega) hi (p52.trans h52) (p54.trans h54) (by rw [sy_ma c4]; exact hdn) c7
  refine ⟨σ3, G2, dom2, m2, fv2, u2, n2, by rw [c1, d1, bv_some], c2, c3, sy_tr c4 (sy_mono (by decide) (by decide) (sy_sx d3)), by rw [← List.append_assoc]; exact d2, by rw [d3.1 811 (by decide)]; exact c6, by rw [d3.2.1 52 (by decide)]; exact p52.trans h52, by rw [d3.2.1 53 (by decide)]; exact p53.trans h53, by rw [d4, if_pos rfl], c8, c9, c10, c11, c12, fun j hj => ?_⟩
  obtain ⟨w1, w2, w3⟩ := c13 j (by omega)
  rw [d3.2.1 52 (by decide), d3.2.1 53 (by decide), d4, if_neg (by omega)]
  exact ⟨w1, w2, w3⟩
theorem lT_lst (hX : isRow X = true) (hF : 1300 ≤ F) (hen : en ≤ 200) (p : Nat) (a : TE) (oa : okT a) (ha : lTr Z F τ D ow pr me ty sm Bn Sn X en a) : lTr Z F τ D ow pr me ty sm Bn Sn X en (tI p a) := by
  intro σ G dom m E fv i d f nn cN hI h811 hd hi r0 r1 r2 hc hc2 hr hB hn1 hn2 hG hE hfv hf
  rw [ln_t.2.2.2.1] at *
  rw [(tT.2.2.2.1 p a).1] at r0 r1 hc
  rw [(tT.2.2.2.1 p a).2] at hr
  have r0' : ma σ (rA X 0) i = 91 := r0
  have hc' : 1 ≤ cN := hc
  obtain ⟨σ1, b1, b2, b3, b4, b5, b6, b7⟩ := lT_beg (F := F) (f := f) hX hF hen hI h811 hd (by omega) (by rw [r0']; decide) (by rw [r0']; decide) r2 (by omega) hc2 (by omega)
  obtain ⟨σ2, G2, dom2, m2, fv2, u2, n2, c1, c2, c3, c4, c5, c6, c7, c8, c9, c10, c11, c12, c13, c14, c15⟩ := child_s hX hF hen oa ha (i := i) (j := i + 1) (d := d) (f := f - 1) (nn := nL τ nn) (dn := 0) (iv_fr hI b2) b3 (by omega) (by omega) (by omega) b4 b5 b6 (by rw [sx_ma b2, r0']; decide) (rwL_sy (sy_sx b2) _ _ hr) hB hn1 hn2 (by omega) (by omega) (by omega) (by omega)
  refine ⟨σ2, G2, dom2, m2, fv2, 0, u2, n2, ?_, c2, c3, sy_tr (sy_mono (by decide) (by decide) (sy_sx b2)) c4, c5, c6, c7, c8, ?_, rp_star c5.1.1, c10, c11, by omega, by omega, ?_, fun j hj => ?_⟩
  · rw [b1, c1, Nat.sub_sub, Nat.add_assoc]
  · rw [(tT.2.2.2.1 p a).1]; exact c9
  · show (eqC τ ty sm a (nL τ nn) ++ [_]).length + 1 ≤ _
    simp; omega
  · obtain ⟨q1, q2, q3⟩ := b7 j hj
    obtain ⟨w1, w2, w3⟩ := c15 j hj
    exact ⟨w1.trans q1, w2.trans q2, w3.trans q3⟩
theorem lT_arr (hX : isRow X = true) (hF : 1300 ≤ F) (hen : en ≤ 200) (l r : TE) (ol : okT l) (or : okT r) (hl : lTr Z F τ D ow pr me ty sm Bn Sn X en l) (hrr : lTr Z F τ D ow pr me ty sm Bn Sn X en r) : lTr Z F τ D ow pr me ty sm Bn Sn X en (tR l r) := by
  intro σ G dom m E fv i d f nn cN hI h811 hd hi r0 r1 r2 hc hc2 hr hB hn1 hn2 hG hE hfv hf
  rw [ln_t.2.2.1] at *
  rw [(tT.2.2.1 l r).1] at r0 r1 hc
  rw [(tT.2.2.1 l r).2, ← List.cons_append, rwL_app] at hr
  have r0' : ma σ (rA X 0) i = 45 := r0
  have hc' : 2 ≤ cN := hc
  have eap : apN τ (tR l r) nn = apN τ l (nL τ nn) ++ apN τ r (nR τ nn) := rfl
  rw [eap] at hn1 hn2 ⊢
  obtain ⟨hn6, hn7, hn8⟩ := List.nodup_append.mp hn1
  obtain ⟨σ1, b1, b2, b3, b4, b5, b6, b7⟩ := lT_beg (F := F) (f := f) hX hF hen hI h811 hd (by omega) (by rw [r0']; decide) (by rw [r0']; decide) r2 (by omega) hc2 (by omega)
  obtain ⟨σ2, G2, dom2, m2, fv2, u2, n2, c1, c2, c3, c4, c5, c6, c7, c8, c9, c10, c11, c12, c13, c14, c15⟩ := child_s hX hF hen ol hl (i := i) (j := i + 1) (d := d) (f := f - 1) (nn := nL τ nn) (dn := 0) (iv_fr hI b2) b3 (by omega) (by omega) (by omega) b4 b5 b6 (by rw [sx_ma b2, r0']; decide) (rwL_sy (sy_sx b2) _ _ hr.1) (fun c hcm => hB c (List.mem_append_left _ hcm)) hn6 (fun x hx => hn2 x (by simp [hx])) (by omega) (by omega) (by omega) (by omega)
  have el : (E ++ (eqC τ ty sm l (nL τ nn) ++ [(kE ty sm l (nL τ nn), (.var 0 : TE), plT l)])).length = E.length + (eqC τ ty sm l (nL τ nn)).length + 1 := by simp; omega
  have hj : i + 1 + (hdT l :: tlT l).length = i + 1 + lnT l := rfl
  have lr := (hd_ln r or).1
  rw [hj] at hr
  obtain ⟨σ3, G3, dom3, m3, fv3, u3, n3, d1, d2, d3, d4, d5, d6, d7, d8, d9, d10, d11, d12, d13, d14, d15⟩ := child_s hX hF hen or hrr (i := i) (j := i + 1 + lnT l) (d := d) (f := f - 1 - lnT l) (nn := nR τ nn) (dn := 1) c5 c6 (by omega) (by omega) (by omega) c7 c8 c9 (by rw [sy_ma c4, sx_ma b2, r0']; decide) (rwL_sy c4 _ _ (rwL_sy (sy_sx b2) _ _ hr.2)) (fun c hcm => hB c (List.mem_append_right _ hcm)) hn7 (fun x hx => ⟨dmx_not c11 (hn2 x (by simp [hx])).1 (fun z => hn8 x z x hx rfl) (hn2 x (by simp [hx])).2, (hn2 x (by simp [hx])).2⟩) (by omega) (by omega) (by omega) (by omega)
  refine ⟨σ3, G3, dom3, m3, fv3, 0, u3, n3, ?_, d2, d3, sy_tr (sy_tr (sy_mono (by decide) (by decide) (sy_sx b2)) c4) d4, ?_, d6, d7, d8, ?_, rp_star d5.1.1, xt_tr c10 d10, dmx_tr c11 d11 (fun x hx => by simp [hx]) (fun x hx => by simp [hx]), by omega, by omega, ?_, fun j hj => ?_⟩
  · rw [b1, c1, cf_ret (F := F) (σ := σ2) hX (d := d) (i := i) (dn := 1) (cN := cN) (u := u2) (n := n2) (by omega) (by omega) (by omega) (by omega) c6 c7 c9 (by rw [sy_ma c4, sx_ma b2]; exact r2) (by omega) (by omega), bv_some, d1, Nat.sub_sub, Nat.sub_sub, Nat.add_assoc, Nat.add_assoc, Nat.add_assoc]
  · show IV Z τ D ow pr me ty sm Bn Sn σ3 G3 dom3 m3 (E ++ (eqC τ ty sm l (nL τ nn) ++ [(kE ty sm l (nL τ nn), .var 0, plT l)] ++ eqC τ ty sm r (nR τ nn) ++ [(kE ty sm r (nR τ nn), .var 0, plT r)])) fv3
    simp only [List.append_assoc] at d5 ⊢
    exact d5
  · rw [(tT.2.2.1 l r).1]; exact d9
  · show (eqC τ ty sm l (nL τ nn) ++ [_] ++ eqC τ ty sm r (nR τ nn) ++ [_]).length + 1 ≤ _
    simp; omega
  · obtain ⟨q1, q2, q3⟩ := b7 j hj
    obtain ⟨w1, w2, w3⟩ := c15 j hj
    obtain ⟨v1, v2, v3⟩ := d15 j hj
    exact ⟨v1.trans (w1.trans q1), v2.trans (w2.trans q2), v3.trans (w3.trans q3)⟩
theorem lT_all (hX : isRow X = true) (hF : 1300 ≤ F) (hen : en ≤ 200) : ∀ t, okT t → lTr Z F τ D ow pr me ty sm Bn Sn X en t := by
  apply tE_ind
  · intro c _; exact lT_leaf hX hF hen c
  · intro f a of oa hf ha; exact lT_app hX hF hen f a of oa hf ha
  · intro l r ol or hl hr; exact lT_arr hX hF hen l r ol or hl hr
  · intro p t ot ht; exact lT_lst hX hF hen p t ot ht
  · intro p t ot ht; exact ht
/-- a term as a whole -/
theorem term_ok (hX : isRow X = true) (hF : 1300 ≤ F) (hen : en ≤ 200) {t : TE} (ot : okT t) {σ : zS} {G : SG} {dom : Nat → Prop} {m : Nat → Nat} {E : List EQ} {s j T nn : Nat} (hL : lsE Z σ G dom m E) (hEV : EV σ G dom m D ow pr me ty sm Bn Sn) (hdc : dcN σ τ D) (hfree : ∀ v, ¬ dom (cfr pr me v)) (hs : s + lnT t = en) (hj : j < T) (hT : T ≤ 200) (h7 : mi σ (100 * X + 7) = nI T) (h4 : ma σ (rA X 4) j = nI s) (h5 : ma σ (rA X 5) j = ow) (hnx : (j + 1 = T ∧ mi σ (100 * X + 4) = nI en) ∨ (j + 1 < T ∧ ma σ (rA X 4) (j + 1) = nI en)) (hr : rwL σ X s (hdT t :: tlT t)) (hB : ∀ c, c ∈ lvs t → (lfB c = 0 → Bn (lfN c)) ∧ (lfB c ≠ 0 → Sn (lfN c))) (hn1 : (apN τ t nn).Nodup) (hn2 : ∀ x, x ∈ apN τ t nn → ¬ dom x ∧ x < 2048) (hG : gn G + 3 * lnT t ≤ 1715) (hE : E.length + lnT t ≤ 217) : ∃ σ' G' dom' m' k, So_listTerm F σ X (nI j) = some σ' ∧ sy [306, 807, 811, 814, 815] [23, 24, 25, 49, 50, 51, 52, 53, 54, 56] σ σ' ∧ lsE Z σ' G' dom' m' (E ++ eqC τ ty sm t nn) ∧ gi σ' 815 = nI k ∧ rp G' dom' m' k (kE ty sm t nn) ∧ xt G dom m G' dom' m' ∧ dmx pr me (apN τ t nn) dom dom' ∧ gn G' + 2 ≤ gn G + 3 * lnT t ∧ (eqC τ ty sm t nn).length + 1 ≤ lnT t := by
  obtain ⟨σ1, hσ1⟩ : ∃ x, x = si (si σ 814 0) 811 0 := ⟨_, rfl⟩
  have s1 : sx [811, 814] [] σ σ1 := by rw [hσ1]; exact sx_si (sx_si (sx_rfl _ _ _) (by decide) _) (by decide) _
  have hiv : IV Z τ D ow pr me ty sm Bn Sn σ1 G dom m E [] := ⟨ls_fr hL (sy_sx s1) (by decide) (by decide), EV_cg hEV (sy_sx s1) (by decide) (xt_rfl _ _ _), ⟨by rw [hσ1]; simp [zs]; exact nI_0.symm, fun i v hv => (by cases hv), fun v hv => absurd hv (hfree v)⟩, dcN_sy hdc (sy_sx s1) (by decide) (by decide)⟩
  have hr0 := hr
  obtain ⟨⟨r1, r2, r3, r4⟩, r5⟩ := hr
  have hl := (hd_ln t ot).1
  obtain ⟨σ2, G', dom', m', fv', k, u, n', b1, b2, b3, b4, b5, b6, b7, b8, b9, b10, b11, b12, b13, b14, b15, b16⟩ := lT_all (F := F) (τ := τ) (D := D) (ow := ow) (pr := pr) (me := me) (ty := ty) (sm := sm) (Bn := Bn) (Sn := Sn) hX hF hen t ot σ1 G dom m E [] s 0 F nn (hdT t).2.2.1 hiv (by rw [hσ1]; simp [zs]; exact nI_0.symm) (by omega) (by omega) (by rw [sx_ma s1]; exact r1) (by rw [sx_mb s1]; exact r2) (by rw [sx_ma s1]; exact r3) (Nat.le_refl _) (by omega) (rwL_sy (sy_sx s1) _ _ r5) hB hn1 hn2 hG hE (by simp; omega) (by omega)
  obtain ⟨n', rfl⟩ : ∃ x, n' = x + 2 := ⟨n' - 2, by omega⟩
  have hend : Ro_termEnd F σ1 X (nI j) = some (nI en, σ1) := by
    rw [Ro_termEnd, gd_t hX, sx_mi s1, h7, nI_1]
    rcases hnx with ⟨z1, z2⟩ | ⟨z1, z2⟩
    · rw [if_pos (nI_le (by omega) (by omega)), sx_mi s1, z2]; rfl
    · rw [if_neg (nI_ge z1 (by omega)), gd_t (inb_nI (by omega) (by omega)), nI_clamp (by omega), sx_ma s1, z2]; rfl
  have sf : sx [811, 815] [] σ2 (si (si σ2 811 0) 815 (nI k)) := sx_si (sx_si (sx_rfl _ _ _) (by decide) _) (by decide) _
  refine ⟨si (si σ2 811 0) 815 (nI k), G', dom', m', k, ?_, sy_tr (sy_tr (sy_mono (by decide) (by decide) (sy_sx s1)) (sy_mono (by decide) (by decide) b4)) (sy_mono (by decide) (by decide) (sy_sx sf)), ls_fr b5.1 (sy_sx sf) (by decide) (by decide), by simp [zs], b10, b11, b12, b13, b15⟩
  rw [So_listTerm, gd_t hX, gd_t (inb_nI (by omega) (by omega)), ← hσ1, hend, bi_some, nI_clamp (by omega)]
  show So_listTerm_32 F F σ1 X (ma σ (rA X 5) j) (nI en) (ma σ1 (rA X 4) j) = _
  rw [h5, sx_ma s1, h4, b1, cf_root (F := F) (σ := σ2) hX (i := s) (dn := (hdT t).2.2.1) (k := k) (u := u) (n := n') (by omega) (by omega) b6 b7 b8 b9 (by rw [sy_ma b4, sx_ma s1]; exact r3) (by omega), bv_some]
  obtain ⟨f, hf⟩ : ∃ f, F - lnT t = f + 1 := ⟨F - lnT t - 1, by omega⟩
  rw [hf, So_listTerm_32, So_listTerm_b32, hs, if_pos (nI_le (Nat.le_refl _) (by omega))]
  rfl
end W
