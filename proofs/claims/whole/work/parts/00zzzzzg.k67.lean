/-! A question: the class solves one type. Own text. -/
theorem prT_e (lt : Nat → Int32) (d : Nat) (t : IT) : prT lt (d + 1) t = if t [] = 1 then (if t [false] = 1 then 40 :: (prT lt d (dw t false) ++ [41]) else prT lt d (dw t false)) ++ (45 :: 62 :: prT lt d (dw t true)) else [if t [] = 0 then 42 else lt (t [] - 2)] := rfl
theorem prT_s (lt : Nat → Int32) : ∀ (d : Nat) (t : IT), dpt d t → prT lt (d + 1) t = prT lt d t
  | 0, t, h => by
    have h1 : t [] ≠ 1 := h [] (Nat.zero_le _)
    rw [prT, prT, if_neg h1]
    by_cases c : t [] = 0
    · rw [if_pos c, if_pos (by omega)]
    · rw [if_neg c, if_neg (by omega)]
  | d + 1, t, h => by
    rw [prT_e lt (d + 1) t, prT_e lt d t]
    by_cases c : t [] = 1
    · have hf : ∀ b, dpt d (dw t b) := fun b p hp => h (b :: p) (by simp; omega)
      rw [if_pos c, if_pos c, prT_s lt d _ (hf false), prT_s lt d _ (hf true)]
    · rw [if_neg c, if_neg c]
theorem prT_le {lt : Nat → Int32} {d d' : Nat} {t : IT} (hd : dpt d t) (h : d ≤ d') : prT lt d' t = prT lt d t := by
  obtain ⟨e, rfl⟩ : ∃ e, d' = d + e := ⟨d' - d, by omega⟩
  clear h
  induction e with
  | zero => rfl
  | succ e ih => rw [← Nat.add_assoc, prT_s lt (d + e) t (dpt_mono (by omega) hd), ih]
theorem sides_dd {d d' : Nat} {t u : IT} (h1 : dpt d t) (h2 : dpt d u) (h3 : dpt d' t) (h4 : dpt d' u) : prT (ltV (V2 d t u)) d t = prT (ltV (V2 d' t u)) d' t ∧ prT (ltV (V2 d t u)) d u = prT (ltV (V2 d' t u)) d' u := by
  have e1 : oc d t = oc d' t := (oc_le h1 (Nat.le_max_left d d')).symm.trans (oc_le h3 (Nat.le_max_right d d'))
  have e2 : oc d u = oc d' u := (oc_le h2 (Nat.le_max_left d d')).symm.trans (oc_le h4 (Nat.le_max_right d d'))
  have eV : V2 d t u = V2 d' t u := by unfold V2; rw [e1, e2]
  rw [eV]
  exact ⟨(prT_le h1 (Nat.le_max_left d d')).symm.trans (prT_le h3 (Nat.le_max_right d d')), (prT_le h2 (Nat.le_max_left d d')).symm.trans (prT_le h4 (Nat.le_max_right d d'))⟩
/-- what a question leaves alone in the class -/
def frT (σ σ' : zS) : Prop := (∀ r, r ∉ [200, 201, 306, 308, 309, 310, 807, 811, 814, 815] → gi σ' r = gi σ r) ∧ (∀ a, a ∉ [23, 24, 25, 26, 27, 28, 49, 50, 51, 52, 53, 54, 56] → ga σ' a = ga σ a) ∧ (∀ b, b ≠ 55 → gb σ' b = gb σ b) ∧ (∀ a, gl σ' a = gl σ a) ∧ (∀ a, gr σ' a = gr σ a) ∧ (∀ j, j ≠ 1501 → j ≠ 1601 → mi σ' j = mi σ j) ∧ (∀ a, a ≠ lA 15 → a ≠ lA 16 → ma σ' a = ma σ a) ∧ (∀ a, mb σ' a = mb σ a)
theorem frT_sy {I A : List Nat} {σ σ' : zS} (h : sy I A σ σ') (hI : ∀ r, r ∈ I → r ∈ [200, 201, 306, 308, 309, 310, 807, 811, 814, 815]) (hA : ∀ r, r ∈ A → r ∈ [23, 24, 25, 26, 27, 28, 49, 50, 51, 52, 53, 54, 56]) : frT σ σ' :=
  ⟨fun r hr => h.1 r (fun z => hr (hI r z)), fun a ha => h.2.1 a (fun z => ha (hA a z)), h.2.2.1, fun a => by unfold gl; rw [h.2.2.2.1], fun a => by unfold gr; rw [h.2.2.2.2], fun j _ _ => by rw [sy_mi h], fun a _ _ => by rw [sy_ma h], fun a => sy_mb h a⟩
theorem frT_tr {σ σ1 σ2 : zS} (h : frT σ σ1) (g : frT σ1 σ2) : frT σ σ2 := by
  obtain ⟨a1, a2, a3, a4, a5, a6, a7, a8⟩ := h
  obtain ⟨b1, b2, b3, b4, b5, b6, b7, b8⟩ := g
  exact ⟨fun r hr => (b1 r hr).trans (a1 r hr), fun r hr => (b2 r hr).trans (a2 r hr), fun r hr => (b3 r hr).trans (a3 r hr), fun r => (b4 r).trans (a4 r), fun r => (b5 r).trans (a5 r), fun j j1 j2 => (b6 j j1 j2).trans (a6 j j1 j2), fun j j1 j2 => (b7 j j1 j2).trans (a7 j j1 j2), fun r => (b8 r).trans (a8 r)⟩
section K
variable {F : Nat} {τ : zS} {D : Nat} {pr me : Int32} {ty sm : Int64 → TE} {Bn Sn : Int64 → Prop} {Z : List (TE × TE)} {σ0 : zS} {G0 : SG}
theorem askC (hF : 20000 ≤ F) {t : TE} (ot : okT t) {σ : zS} {G : SG} {dom : Nat → Prop} {m : Nat → Nat} {s en j T nn : Nat} (hen : en ≤ 200) (h0 : CS σ0 G0) (hn0 : noO G0) (hKB : KB (gn G0) σ0 σ) (hC : CS σ G) (hR : Rp G dom m Z) (h200 : gi σ 200 = 0) (hEV : EV σ G dom m D (-1) pr me ty sm Bn Sn) (hdc : dcN σ τ D) (hfree : ∀ v, ¬ dom (cfr pr me v)) (hs : s + lnT t = en) (hj : j < T) (hT : T ≤ 200) (h7 : mi σ (100 * 11 + 7) = nI T) (h4 : ma σ (rA 11 4) j = nI s) (h5 : ma σ (rA 11 5) j = -1) (hnx : (j + 1 = T ∧ mi σ (100 * 11 + 4) = nI en) ∨ (j + 1 < T ∧ ma σ (rA 11 4) (j + 1) = nI en)) (hr : rwL σ 11 s (hdT t :: tlT t)) (hB : ∀ c, c ∈ lvs t → (lfB c = 0 → Bn (lfN c)) ∧ (lfB c ≠ 0 → Sn (lfN c))) (hn1 : (apN τ t nn).Nodup) (hn2 : ∀ x, x ∈ apN τ t nn → ¬ dom x ∧ x < 2048) (hG : gn G + 3 * lnT t ≤ 1715) (hl : lnT t ≤ 200) : (∃ σ' G' dom' m' k, So_solveAsked F σ 11 (nI j) = some σ' ∧ CS σ' G' ∧ Rp G' dom' m' (Z ++ eqP (eqC τ ty sm t nn)) ∧ gi σ' 815 = nI k ∧ rp G' dom' m' k (kE ty sm t nn) ∧ xt G dom m G' dom' m' ∧ dmx pr me (apN τ t nn) dom dom' ∧ sy [306, 308, 309, 807, 811, 814, 815] [23, 24, 25, 26, 27, 28, 49, 50, 51, 52, 53, 54, 56] σ σ' ∧ gn G' ≤ gn G + 3 * lnT t ∧ tz (gn G0) G' ∧ gn G0 ≤ gn G' ∧ ∀ k, k < gn G0 → ga σ' 23 k = ga σ0 23 k ∧ ga σ' 24 k = ga σ0 24 k) ∨ (∃ Ea e Eb x y σ' G' dom' m', eqC τ ty sm t nn = Ea ++ e :: Eb ∧ So_solveAsked F σ 11 (nI j) = some σ' ∧ CS σ' G' ∧ Rp G' dom' m' (Z ++ eqP Ea) ∧ rp G' dom' m' x e.1 ∧ rp G' dom' m' y e.2.1 ∧ unso G' x y ∧ xt G dom m G' dom' m' ∧ gi σ' 200 = 6 ∧ gi σ' 201 = nI e.2.2 ∧ frT σ σ' ∧ tz (gn G0) G' ∧ gn G0 ≤ gn G' ∧ (∀ k, k < gn G0 → ga σ' 23 k = ga σ0 23 k ∧ ga σ' 24 k = ga σ0 24 k) ∧ ∀ d, dpt d (gT G' x) → dpt d (gT G' y) → lnR σ' 15 (prT (ltV (V2 d (gT G' x) (gT G' y))) d (gT G' x)) ∧ lnR σ' 16 (prT (ltV (V2 d (gT G' x) (gT G' y))) d (gT G' y))) := by
  have s0 : sx [807] [] σ (si σ 807 0) := sx_si (sx_rfl _ _ _) (by decide) _
  have hL0 : lsE Z (si σ 807 0) G dom m [] := ⟨CS_sx s0 (by decide) (by decide) (by decide) (by decide) hC, hR, by simp [zs]; exact nI_0.symm, by simp, trivial⟩
  obtain ⟨σ1, G1, dom1, m1, k, a1, a2, a3, a4, a5, a6, a7, a8, a9⟩ := term_ok (F := F) (X := 11) (en := en) (by decide) (by omega) hen ot hL0 (EV_cg hEV (sy_sx s0) (by decide) (xt_rfl _ _ _)) (dcN_sy hdc (sy_sx s0) (by decide) (by decide)) hfree hs hj hT (by rw [sx_mi s0]; exact h7) (by rw [sx_ma s0]; exact h4) (by rw [sx_ma s0]; exact h5) (by rw [sx_mi s0, sx_ma s0]; exact hnx) (rwL_sy (sy_sx s0) _ _ hr) hB hn1 hn2 hG (by simp; omega)
  rw [List.nil_append] at a3
  have hKB1 : KB (gn G0) σ0 σ1 := kb_So_listTerm F _ _ _ (KB_si hKB (by decide)) σ1 a1
  obtain ⟨l1, l2, l3, l4, l5⟩ := a3
  have htz := kb_tz hKB1 h0 hn0 l1
  obtain ⟨S, k1, k2, k3, k4⟩ := hKB1
  have hSG : S = gn G1 := (nI_eq (by omega) (by have := l1.2.2.1; omega)).mp (k1.symm.trans l1.1)
  have hle : gn G0 ≤ gn G1 := by omega
  have sc : sy [306, 308, 309, 807, 811, 814, 815] [23, 24, 25, 26, 27, 28, 49, 50, 51, 52, 53, 54, 56] σ σ1 := sy_tr (sy_mono (by decide) (by decide) (sy_sx s0)) (sy_mono (by decide) (by decide) a2)
  rcases sv_all (Z := Z) (F := F) (E := eqC τ ty sm t nn) hF (eqC τ ty sm t nn).length F [] (eqC τ ty sm t nn) σ1 G1 rfl rfl (by omega) l4 l3 (by rw [sc.1 200 (by decide)]; exact h200) l1 (by rw [show eqP ([] : List EQ) = [] from rfl, List.append_nil]; exact l2) l5 with ⟨σ', G', d1, d2, d3, d4, d5, d6, d7⟩ | ⟨Ea, e, Eb, x, y, σ2, G2, f', d1, d2, d3, d4, d5, d6, d7, d8, d9, d10, d11⟩
  · have d1' : So_solveListed F σ1 = some σ' := by rw [So_solveListed, show (0 : Int32) = nI 0 from nI_0.symm]; exact d1
    refine Or.inl ⟨σ', G', dom1, m1, k, by rw [So_solveAsked, a1, bv_some, d1', bv_some], d2, d3, by rw [d5.1 815 (by decide)]; exact a4, d4 _ _ a5, xt_tr a6 d4, a7, sy_tr sc (sy_mono (by decide) (by decide) (sy_sx d5)), by omega, d7 _ htz, by omega, fun k hk => ?_⟩
    rw [d5.2.1 23 (by decide), d5.2.1 24 (by decide)]
    exact ⟨(k4 k hk).1, (k4 k hk).2.1⟩
  · have d11' : So_solveListed F σ1 = bv (Ki_showSides F (si (si σ2 200 6) 201 (nI e.2.2)) (nI x) (nI y)) (fun s => So_solveListed_2 F (f' + 1) s (nI (Ea.length + 1))) := by rw [So_solveListed, show (0 : Int32) = nI 0 from nI_0.symm]; exact d11
    obtain ⟨dx, hdx⟩ := rp_fin d2 d3
    obtain ⟨dy, hdy⟩ := rp_fin d2 d4
    have hdx' : dpt (dx + dy) (gT G2 x) := dpt_mono (by omega) hdx
    have hdy' : dpt (dx + dy) (gT G2 y) := dpt_mono (by omega) hdy
    have s6 : sx [200, 201] [] σ2 (si (si σ2 200 6) 201 (nI e.2.2)) := sx_si (sx_si (sx_rfl _ _ _) (by decide) _) (by decide) _
    have hC6 : CS (si (si σ2 200 6) 201 (nI e.2.2)) G2 := CS_sx s6 (by decide) (by decide) (by decide) (by decide) d6
    obtain ⟨s, c1, c2, c3, c4, c5, c6, c7, c8, c9, c10, c11, c12⟩ := sidesC (F := F) hF hC6 d3.1 d4.1 hdx' hdy'
    have hs200 : gi s 200 = 6 := by rw [c5 200 (by decide) (by decide)]; simp [zs]
    have hs201 : gi s 201 = nI e.2.2 := by rw [c5 201 (by decide) (by decide)]; simp [zs]
    have hstop : So_solveListed_2 F (f' + 1) s (nI (Ea.length + 1)) = some s := by
      have : Fa_isThere F s = some (1, s) := by rw [Fa_isThere, hs200, if_neg (by decide)]; rfl
      rw [So_solveListed_2, So_solveListed_b2, this, bi_some]
      split
      · rfl
      · rfl
    have ga_s : ∀ a, a ≠ 26 → a ≠ 28 → ga s a = ga σ2 a := fun a z1 z2 => by rw [c6 a z1 z2, s6.2.1 a (by simp)]
    have gi_s : ∀ r, r ≠ 309 → r ≠ 310 → r ≠ 200 → r ≠ 201 → gi s r = gi σ2 r := fun r z1 z2 z3 z4 => by rw [c5 r z1 z2, s6.1 r (by simp [z3, z4])]
    have fr1 : frT σ σ2 := frT_sy (sy_tr sc (sy_mono (by decide) (by decide) (sy_sx d8))) (by decide) (by decide)
    have fr2 : frT σ2 s := by
      refine ⟨fun r hr => ?_, fun a ha => ?_, fun b _ => ?_, fun a => ?_, fun a => ?_, fun j j1 j2 => ?_, fun a j1 j2 => ?_, fun a => ?_⟩
      · simp at hr
        exact gi_s r (by omega) (by omega) (by omega) (by omega)
      · simp at ha
        exact ga_s a (by omega) (by omega)
      · rw [c7]; exact sx_gb s6 b
      · rw [c8]; exact sx_gl s6 a
      · rw [c9]; exact sx_gr s6 a
      · rw [c10 j j1 j2]; rw [sx_mi s6]
      · rw [c11 a j1 j2]; rw [sx_ma s6]
      · rw [c12]; exact sx_mb s6 a
    refine Or.inr ⟨Ea, e, Eb, x, y, s, G2, dom1, m1, d1, by rw [So_solveAsked, a1, bv_some, d11', c1, bv_some, hstop, bv_some], c2, d2, d3, d4, d5, xt_tr a6 d7, hs200, hs201, frT_tr fr1 fr2, d10 _ htz, by omega, fun k hk => ?_, fun d hd1 hd2 => ?_⟩
    · rw [ga_s 23 (by decide) (by decide), ga_s 24 (by decide) (by decide), d8.2.1 23 (by decide), d8.2.1 24 (by decide)]
      exact ⟨(k4 k hk).1, (k4 k hk).2.1⟩
    · obtain ⟨p1, p2⟩ := sides_dd (d := dx + dy) (d' := d) hdx' hdy' hd1 hd2
      rw [← p1, ← p2]
      exact ⟨c3, c4⟩
end K
