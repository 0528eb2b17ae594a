/-! A group in the class. Own text. -/
theorem wT_le (gp : Nat → Bool) : ∀ l : List TR, wT gp l ≤ lenT l
  | [] => Nat.le_refl _
  | (o, t, nn, As, me) :: l => by
    rw [wT, lenT]
    have := wT_le gp l
    split <;> omega
section A
variable {F : Nat} {σ τ : zS} {G : SG} {D M : Nat} {gp live : Nat → Bool} {KA TT : Nat → TE} {TL : List TR} {x1 : Int32}
/-- what a group is solved from, in the class -/
def grC (σ τ : zS) (G : SG) (D M : Nat) (gp live : Nat → Bool) (KA TT : Nat → TE) (TL : List TR) (x1 : Int32) : Prop :=
  CS σ G ∧ gi σ 200 = 0 ∧ dcN σ τ D ∧ dcO σ D ∧ (∀ j, j < 32 → bq x1 j = gp j) ∧ nmH σ D M gp live ∧ gi σ 505 = nI M ∧ M ≤ 600 ∧ (∀ y, y < D → live y = true → gp y = false → ∃ k, ga σ 40 y = nI k ∧ rp G (fun _ => False) (fun z => z) k (KA y)) ∧ (∀ y, y < D → gp y = true → KA y = wE (soN σ y) (qN σ y) y) ∧ (∀ i, i < M → ga σ 43 i = 4 → ∃ k, ga σ 47 i = nI k ∧ rp G (fun _ => False) (fun z => z) k (TT i)) ∧ (tdE σ D gp KA TT M).length ≤ 16 ∧ cTL σ M 0 0 TL ∧ mi σ 1007 = nI TL.length ∧ mi σ 1004 = nI (lenT TL) ∧ lenT TL ≤ 200 ∧ TL.length ≤ 200 ∧ soL D 0 TL ∧ mMe σ 0 TL ∧ (alA τ TL).Nodup ∧ (∀ x, x ∈ alA τ TL → x < 1000) ∧ gn G + 7 * cN gp D + 3 * wT gp TL ≤ 1713
theorem solveC (hF : 20000 ≤ F) (h : grC σ τ G D M gp live KA TT TL x1) : (∃ σ' G' dom' m', (∀ {β : Type} (K : zS → Option β), bv (So_makeKinds F (si σ 807 0) x1) (fun σ7 => bv (So_listTold F σ7 x1) (fun σ9 => bv (So_listMembers F σ9 x1) (fun σ11 => bv (So_solveListed F σ11) K))) = K σ') ∧ CS σ' G' ∧ Rp G' dom' m' (eqP (tdE σ D gp KA TT M ++ mbE σ τ D gp KA 0 TL)) ∧ sy [306, 308, 309, 807, 811, 814, 815] [23, 24, 25, 26, 27, 28, 40, 41, 42, 49, 50, 51, 52, 53, 54, 56] σ σ' ∧ xt G (fun _ => False) (fun z => z) G' dom' m' ∧ (∀ y, y < D → gp y = true → dkC σ' G' dom' m' y) ∧ (∀ l, gp l = false → ga σ' 40 l = ga σ 40 l ∧ ga σ' 42 l = ga σ 42 l ∧ ∀ j, j < 3 → ga σ' 41 (3 * l + j) = ga σ 41 (3 * l + j)) ∧ gn G' ≤ gn G + 7 * cN gp D + 3 * wT gp TL ∧ gn G ≤ gn G' ∧ (noO G → tz (gn G) G')) ∨ (∃ Ea e Eb x y σ1 G1 dom1 m1 f' i', tdE σ D gp KA TT M ++ mbE σ τ D gp KA 0 TL = Ea ++ e :: Eb ∧ Rp G1 dom1 m1 (eqP Ea) ∧ rp G1 dom1 m1 x e.1 ∧ rp G1 dom1 m1 y e.2.1 ∧ unso G1 x y ∧ CS σ1 G1 ∧ sy [306, 308, 309, 807, 811, 814, 815] [23, 24, 25, 26, 27, 28, 40, 41, 42, 49, 50, 51, 52, 53, 54, 56] σ σ1 ∧ (∀ y, y < D → gp y = true → dkC σ1 G1 dom1 m1 y) ∧ (gn G ≤ gn G1 ∧ gn G1 ≤ gn G + 7 * cN gp D + 3 * wT gp TL) ∧ (noO G → tz (gn G) G1) ∧ ∀ {β : Type} (K : zS → Option β), bv (So_makeKinds F (si σ 807 0) x1) (fun σ7 => bv (So_listTold F σ7 x1) (fun σ9 => bv (So_listMembers F σ9 x1) (fun σ11 => bv (So_solveListed F σ11) K))) = bv (Ki_showSides F (si (si σ1 200 6) 201 (nI e.2.2)) (nI x) (nI y)) (fun s => bv (So_solveListed_2 F (f' + 1) s i') K)) := by
  obtain ⟨h1, h2, h3, h4, h5, h6, h7, h8, h9, h10, h11, h12, h13, h14, h15, h16, h17, h18, h19, h20, h21, h22⟩ := h
  have hD := h4.2.1
  have hw : wT gp TL ≤ 200 := Nat.le_trans (wT_le gp TL) h16
  have s0 : sx [807] [] σ (si σ 807 0) := sx_si (sx_rfl _ _ _) (by decide) _
  have hL0 : lsE [] (si σ 807 0) G (fun _ => False) (fun z => z) [] := ⟨CS_sx s0 (by decide) (by decide) (by decide) (by decide) h1, Rp_0 h1.2.2.2.2.2.1, by simp [zs]; exact nI_0.symm, by simp, trivial⟩
  obtain ⟨σa, Ga, da, ma', a1, a2, a3, a4, a5, a6, a7, a8⟩ := mk_all (F := F) (E := []) (gp := gp) (x1 := x1) (by omega) h5 D F 0 (si σ 807 0) G _ _ (by omega) (by omega) (dcO_cg h4 (s0.1 400 (by decide)) (s0.2.1 29 (by decide)) (s0.2.1 32 (by decide))) hL0 (fun z hz => hz.elim) (by show gn G + 7 * cN gp D ≤ 1713 + 7 * 0; omega)
  have a3' : gn Ga ≤ gn G + 7 * cN gp D := by have : cN gp 0 = 0 := rfl; omega
  have sa0 : sx [306, 807] [23, 24, 25, 40, 41, 42] σ σa := sx_tr (sx_mono (by decide) (by decide) s0) (sx_mono (by decide) (by decide) a7)
  have hdca : dcN σa τ D := dcN_sy h3 (sy_sx sa0) (by decide) (by decide)
  have hsq : ∀ y, y < D → ∃ so q, ga σ 29 y = nI so ∧ so ≤ 2 ∧ ga σ 32 y = nI q ∧ q ≤ 3 ∧ soN σ y = so ∧ qN σ y = q := by
    intro y hy
    obtain ⟨so, q, c1, c2, c3, c4, c5⟩ := h4.2.2 y hy
    exact ⟨so, q, c1, c2, c3, c4, by unfold soN; rw [c1, nI_clamp (by omega)], by unfold qN; rw [c3, nI_clamp (by omega)]⟩
  have hKg : ∀ y, y < D → gp y = true → ∃ k, ga σa 40 y = nI k ∧ rp Ga da ma' k (KA y) := by
    intro y hy hg
    obtain ⟨so, q, c1, c2, c3, c4, ⟨k, c5, c6⟩, _⟩ := a6 y (by omega) hy hg
    obtain ⟨so', q', e1, e2, e3, e4, e5, e6⟩ := hsq y hy
    have k1 : so' = so := (nI_eq (by omega) (by omega)).mp (e1.symm.trans ((by rw [sa0.2.1 29 (by decide)] : ga σa 29 y = ga σ 29 y).symm.trans c1))
    have k2 : q' = q := (nI_eq (by omega) (by omega)).mp (e3.symm.trans ((by rw [sa0.2.1 32 (by decide)] : ga σa 32 y = ga σ 32 y).symm.trans c3))
    exact ⟨k, c5, by rw [h10 y hy hg, e5, e6, k1, k2]; exact c6⟩
  have hKa : ∀ y, y < D → live y = true → ∃ k, ga σa 40 y = nI k ∧ rp Ga da ma' k (KA y) := by
    intro y hy hl
    cases hg : gp y with
    | true => exact hKg y hy hg
    | false =>
      obtain ⟨k, c1, c2⟩ := h9 y hy hl hg
      exact ⟨k, by rw [(a8 y (Or.inr hg)).1, s0.2.1 40 (by decide)]; exact c1, a4 _ _ c2⟩
  have td_cg : ∀ m, tdE σa D gp KA TT m = tdE σ D gp KA TT m := by
    intro m
    have i1 : ∀ m, inG σa D gp m = inG σ D gp m := by
      intro m
      unfold inG
      rw [sa0.2.1 43 (by decide), sx_gb sa0, fDe_cg (sx_gb sa0 30)]
    induction m with
    | zero => rfl
    | succ m ih => rw [tdE, tdE, ih, i1, sx_gb sa0, fDe_cg (sx_gb sa0 30), sa0.2.1 45 (by decide)]
  have hTa : tdH σa Ga da ma' D M gp KA TT := by
    refine ⟨hKg, fun i hi hr => ?_⟩
    rw [sa0.2.1 43 (by decide)] at hr
    obtain ⟨k, c1, c2⟩ := h11 i hi hr
    exact ⟨k, by rw [sa0.2.1 47 (by decide)]; exact c1, a4 _ _ c2⟩
  obtain ⟨σb, b1, b2, b3⟩ := td_all (F := F) (gp := gp) (KA := KA) (TT := TT) (x1 := x1) (by omega) h5 hdca (by rw [sa0.1 505 (by decide)]; exact h7) h8 hTa (by rw [td_cg]; omega) M F 0 σa (by omega) (by omega) (sx_rfl _ _ _) a2
  rw [td_cg] at b2
  have sb0 : sx [306, 807] [23, 24, 25, 40, 41, 42, 49, 50, 51] σ σb := sx_tr (sx_mono (by decide) (by decide) sa0) (sx_mono (by decide) (by decide) b3)
  have tyb : tyF σb D KA = tyF σ D KA := by
    funext v; unfold tyF; rw [fTy_cg (sb0.2.1 29 (by decide)) (sx_gb sb0 30)]
  have qb : ∀ o, qN σb o = qN σ o := by intro o; unfold qN; rw [sb0.2.1 32 (by decide)]
  have smb : ∀ o pr me, smF σb o pr me = smF σ o pr me := by
    intro o pr me; funext v; unfold smF; rw [qb, fPa_cg (sx_gb sb0 33)]
  have kyb : ∀ o j, keyP σb o j = keyP σ o j := by intro o j; unfold keyP; rw [sb0.2.1 29 (by decide)]
  have sob : ∀ o, soN σb o = soN σ o := by intro o; unfold soN; rw [sb0.2.1 29 (by decide)]
  have mb_cg : ∀ (l : List TR) (j : Nat), mbE σb τ D gp KA j l = mbE σ τ D gp KA j l := by
    intro l
    induction l with
    | nil => intro j; rfl
    | cons e l ih =>
      intro j
      obtain ⟨o, t, nn, As, me⟩ := e
      rw [mbE, mbE, ih, tyb, kyb, smb, sob]
  have hNb : nmH σb D M gp live := by
    refine ⟨fun i o y i1 i2 i3 i4 i5 i6 i7 => ?_, fun i o i1 i2 i3 i4 i5 => ?_⟩
    · rw [sb0.2.1 43 (by decide)] at i2
      rw [sb0.2.1 46 (by decide)] at i3
      rw [sx_gb sb0, fTy_cg (sb0.2.1 29 (by decide)) (sx_gb sb0 30)] at i7
      exact h6.1 i o y i1 i2 i3 i4 i5 i6 i7
    · rw [sb0.2.1 43 (by decide)] at i2
      rw [sb0.2.1 46 (by decide)] at i3
      rw [sb0.2.1 29 (by decide)] at i5
      rw [sx_gb sb0, qb, fPa_cg (sx_gb sb0 33)]
      exact h6.2 i o i1 i2 i3 i4 i5
  have hmeb : ∀ (l : List TR) (mc : Nat), mMe σ mc l → mMe σb mc l := by
    intro l
    induction l with
    | nil => intro mc _; trivial
    | cons e l ih =>
      intro mc hm
      obtain ⟨o, t, nn, As, me⟩ := e
      rw [mMe] at hm ⊢
      rw [sb0.2.1 29 (by decide)]
      exact ⟨hm.1, ih _ hm.2⟩
  have hcb : ∀ (l : List TR) (j s : Nat), cTL σ M j s l → cTL σb M j s l := by
    intro l
    induction l with
    | nil => intro j s _; trivial
    | cons e l ih =>
      intro j s hc
      obtain ⟨o, t, nn, As, me⟩ := e
      obtain ⟨⟨c1, c2, c3, c4, c5⟩, c6⟩ := hc
      refine ⟨⟨by rw [sx_ma sb0]; exact c1, by rw [sx_ma sb0]; exact c2, c3, rwL_sy (sy_sx sb0) _ _ c4, lfM_fr (Nat.le_refl _) (fun i _ => ⟨by rw [sb0.2.1 43 (by decide)], by rw [sx_gb sb0], by rw [sb0.2.1 46 (by decide)], by rw [sb0.2.1 47 (by decide)]⟩) c5⟩, ih _ _ c6⟩
  have hdkb : ∀ o, o < D → gp o = true → dkC σb Ga da ma' o := fun o ho hg => dkC_cg (a6 o (by omega) ho hg) ⟨by rw [b3.2.1 29 (by decide)], by rw [b3.2.1 32 (by decide)], by rw [b3.2.1 40 (by decide)], by rw [b3.2.1 42 (by decide)]⟩ (fun j _ => by rw [b3.2.1 41 (by decide)]) (xt_rfl _ _ _)
  have hda : ∀ x, da x → 1000 ≤ x ∧ x < 1064 := by
    intro x hx
    rcases a5 x hx with ⟨i', j', y1, y2, y3⟩ | ⟨i', y1, y2⟩
    · unfold cpa at y1; omega
    · unfold cre at y2; omega
  obtain ⟨σc, Gc, dc, mc', c1, c2, c3, c4, c5⟩ := mb_all (F := F) (τ := τ) (M := M) (live := live) (KA := KA) (x1 := x1) (by omega) h5 (dcN_sy h3 (sy_sx sb0) (by decide) (by decide)) (dcO_cg h4 (sb0.1 400 (by decide)) (sb0.2.1 29 (by decide)) (sb0.2.1 32 (by decide))) hNb (T := TL.length) (sz := lenT TL) h17 h16 (by rw [sx_mi sb0]; exact h14) (by rw [sx_mi sb0]; exact h15) (fun y hy hl => by
    obtain ⟨k, q1, q2⟩ := hKa y hy hl
    exact ⟨k, by rw [b3.2.1 40 (by decide)]; exact q1, q2⟩) hdkb TL 0 0 F 0 0 σb Ga da ma' _ (sy_rfl _ _ _) b2 (xt_rfl _ _ _) (hcb TL 0 0 h13) (by omega) (by omega) h18 (hmeb TL 0 h19) (by omega) (fun a b v hv => by
      have := hda _ hv
      have := cfr_ge a b v
      omega) h20 (fun x hx => ⟨fun z => by have := hda x z; have := h21 x hx; omega, h21 x hx⟩) (by omega) (by omega) (by omega)
  rw [mb_cg] at c3
  have k1 : So_makeKinds F (si σ 807 0) x1 = some σa := by rw [So_makeKinds, ← nI_0]; rw [nI_0]; rw [nI_0] at a1; exact a1
  have k2 : So_listTold F σa x1 = some σb := by rw [So_listTold, ← nI_0]; exact b1
  have k3 : So_listMembers F σb x1 = some σc := by rw [So_listMembers, ← nI_0]; exact c1
  have e0 : ∀ {β : Type} (K : zS → Option β), bv (So_makeKinds F (si σ 807 0) x1) (fun σ7 => bv (So_listTold F σ7 x1) (fun σ9 => bv (So_listMembers F σ9 x1) (fun σ11 => bv (So_solveListed F σ11) K))) = bv (So_solveListed F σc) K := by
    intro β K
    rw [k1, bv_some, k2, bv_some, k3, bv_some]
  have hKB : KB (gn G) σ σc := by
    have h0 : KB (gn G) σ (si σ 807 0) := KB_si ⟨gn G, h1.1, Nat.le_refl _, h1.2.2.1, fun k _ => ⟨rfl, rfl, rfl⟩⟩ (by decide)
    exact kb_So_listMembers F σb x1 (kb_So_listTold F σa x1 (kb_So_makeKinds F _ x1 h0 σa k1) σb k2) σc k3
  have sc0 : sy [306, 308, 309, 807, 811, 814, 815] [23, 24, 25, 26, 27, 28, 40, 41, 42, 49, 50, 51, 52, 53, 54, 56] σ σc := sy_tr (sy_mono (by decide) (by decide) (sy_sx sb0)) (sy_mono (by decide) (by decide) c2)
  obtain ⟨l1, l2, l3, l4, l5⟩ := c3
  have hgle : gn G ≤ gn Gc := by
    obtain ⟨S, q1, q2, q3, _⟩ := hKB
    have hgc := l1.2.2.1
    have : S = gn Gc := (nI_eq (by omega) (by omega)).mp (q1.symm.trans l1.1)
    omega
  have htz : noO G → tz (gn G) Gc := fun hn => kb_tz hKB h1 hn l1
  have hdk : ∀ {s : zS} {Gx : SG} {dx : Nat → Prop} {mx : Nat → Nat}, sx [308, 309] [25, 26, 27, 28] σc s → xt Gc dc mc' Gx dx mx → ∀ y, y < D → gp y = true → dkC s Gx dx mx y := by
    intro s Gx dx mx hs hx y hy hg
    exact dkC_cg (hdkb y hy hg) ⟨by rw [hs.2.1 29 (by decide), c2.2.1 29 (by decide)], by rw [hs.2.1 32 (by decide), c2.2.1 32 (by decide)], by rw [hs.2.1 40 (by decide), c2.2.1 40 (by decide)], by rw [hs.2.1 42 (by decide), c2.2.1 42 (by decide)]⟩ (fun j _ => by rw [hs.2.1 41 (by decide), c2.2.1 41 (by decide)]) (xt_tr c4 hx)
  rcases sv_all (Z := []) (F := F) (E := tdE σ D gp KA TT M ++ mbE σ τ D gp KA 0 TL) hF (tdE σ D gp KA TT M ++ mbE σ τ D gp KA 0 TL).length F [] (tdE σ D gp KA TT M ++ mbE σ τ D gp KA 0 TL) σc Gc rfl rfl (by omega) l4 l3 (by rw [sc0.1 200 (by decide)]; exact h2) l1 l2 l5 with ⟨σ', G', d1, d2, d3, d4, d5, d6, d7⟩ | ⟨Ea, e, Eb, x, y, σ1, G1, f', d1, d2, d3, d4, d5, d6, d7, d8, d9, d10, d11⟩
  · have d1' : So_solveListed F σc = some σ' := by rw [So_solveListed, show (0 : Int32) = nI 0 from nI_0.symm]; exact d1
    refine Or.inl ⟨σ', G', dc, mc', fun K => by rw [e0, d1', bv_some], d2, d3, sy_tr sc0 (sy_mono (by decide) (by decide) (sy_sx d5)), xt_tr a4 (xt_tr c4 d4), hdk d5 d4, fun l hl => ?_, by omega, by omega, fun hn => d7 _ (htz hn)⟩
    obtain ⟨q1, q2, q3⟩ := a8 l (Or.inr hl)
    rw [d5.2.1 40 (by decide), d5.2.1 42 (by decide), d5.2.1 41 (by decide), c2.2.1 40 (by decide), c2.2.1 42 (by decide), c2.2.1 41 (by decide), b3.2.1 40 (by decide), b3.2.1 42 (by decide), b3.2.1 41 (by decide)]
    rw [s0.2.1 40 (by decide)] at q1
    rw [s0.2.1 42 (by decide)] at q2
    rw [s0.2.1 41 (by decide)] at q3
    exact ⟨q1, q2, q3⟩
  · have d11' : So_solveListed F σc = bv (Ki_showSides F (si (si σ1 200 6) 201 (nI e.2.2)) (nI x) (nI y)) (fun s => So_solveListed_2 F (f' + 1) s (nI (Ea.length + 1))) := by rw [So_solveListed, show (0 : Int32) = nI 0 from nI_0.symm]; exact d11
    exact Or.inr ⟨Ea, e, Eb, x, y, σ1, G1, dc, mc', f', nI (Ea.length + 1), d1, d2, d3, d4, d5, d6, sy_tr sc0 (sy_mono (by decide) (by decide) (sy_sx d8)), hdk d8 d7, ⟨by omega, by omega⟩, fun hn => d10 _ (htz hn), fun K => by rw [e0, d11', bv_bv]⟩
end A
