/-! The reference makes the kinds of a group. Own text. -/
def RV (τ : zS) (H : SG) (dom : Nat → Prop) (m : Nat → Nat) (E : List EQ) : Prop := MS τ H ∧ Rp H dom m (eqP E) ∧ rp H dom m 0 (.var 0) ∧ gi τ 8 = 0 ∧ gi τ 49 = 0
def dkM (τ : zS) (H : SG) (dom : Nat → Prop) (m : Nat → Nat) (i : Nat) : Prop := ∃ so q, ga τ 33 i = nI so ∧ so ≤ 2 ∧ ga τ 36 i = nI q ∧ q ≤ 3 ∧ (∃ k, ga τ 49 i = nI k ∧ rp H dom m k (wE so q i)) ∧ (∃ k, ga τ 51 i = nI k ∧ rp H dom m k (rE so i)) ∧ ∀ j, j < q → ∃ k, ga τ 50 (3 * i + j) = nI k ∧ rp H dom m k (pE i j)
theorem dkM_cg {τ τ' : zS} {H H' : SG} {dom dom' : Nat → Prop} {m m' : Nat → Nat} {i : Nat} (h : dkM τ H dom m i) (h1 : ga τ' 33 i = ga τ 33 i ∧ ga τ' 36 i = ga τ 36 i ∧ ga τ' 49 i = ga τ 49 i ∧ ga τ' 51 i = ga τ 51 i) (h2 : ∀ j, j < 3 → ga τ' 50 (3 * i + j) = ga τ 50 (3 * i + j)) (hx : xt H dom m H' dom' m') : dkM τ' H' dom' m' i := by
  obtain ⟨so, q, a1, a2, a3, a4, ⟨k, a5, a6⟩, ⟨k', a7, a8⟩, a9⟩ := h
  obtain ⟨b1, b2, b3, b4⟩ := h1
  exact ⟨so, q, b1.trans a1, a2, b2.trans a3, a4, ⟨k, b3.trans a5, hx _ _ a6⟩, ⟨k', b4.trans a7, hx _ _ a8⟩, fun j hj => by
    obtain ⟨k2, c1, c2⟩ := a9 j hj
    exact ⟨k2, (h2 j (by omega)).trans c1, hx _ _ c2⟩⟩
theorem e3m (o j : Nat) : (3 : Int32) * nI o + nI j = nI (3 * o + j) := by
  rw [show (3 : Int32) = nI 3 from rfl, pk_mul, nI_add]
theorem e3m0 (o : Nat) : (3 : Int32) * nI o = nI (3 * o) := by
  rw [show (3 : Int32) = nI 3 from rfl, pk_mul]
section K
variable {F : Nat} {τ : zS} {H : SG} {dom : Nat → Prop} {m : Nat → Nat} {E : List EQ}
theorem rv_fr {I A : List Nat} {τ' : zS} (h : RV τ H dom m E) (hs : sx I A τ τ') (h1 : 48 ∉ I ∧ 8 ∉ I ∧ 49 ∉ I) (h2 : 26 ∉ A ∧ 27 ∉ A ∧ 28 ∉ A ∧ 29 ∉ A) : RV τ' H dom m E := by
  obtain ⟨a1, a2, a3, a4, a5⟩ := h
  exact ⟨MS_sx hs h1.1 h2.1 h2.2.1 h2.2.2.1 h2.2.2.2 a1, a2, a3, (hs.1 8 h1.2.1).trans a4, (hs.1 49 h1.2.2).trans a5⟩
theorem rv_open {x : Nat} (h : RV τ H dom m E) (hH : gn H < 4000) (hx : ¬ dom x) : ∃ τ', Md_newKind F τ 0 0 0 = some (nI (gn H), τ') ∧ sx [48] [26, 27, 28, 29] τ τ' ∧ RV τ' (adG H 0 0 0) (fun z => dom z ∨ z = x) (fun z => if z = x then gn H else m z) E ∧ xt H dom m (adG H 0 0 0) (fun z => dom z ∨ z = x) (fun z => if z = x then gn H else m z) ∧ rp (adG H 0 0 0) (fun z => dom z ∨ z = x) (fun z => if z = x then gn H else m z) (gn H) (.var (x + 1)) := by
  obtain ⟨a1, a2, a3, a4, a5⟩ := h
  obtain ⟨τ', e1, e2, e3⟩ := newM (F := F) (s := 0) (l := 0) (r := 0) a1 hH (by omega) (by omega)
  obtain ⟨r1, r2, r3⟩ := Rp_open a2 hx
  exact ⟨τ', e1, e3, ⟨e2, r1, r3 _ _ a3, (e3.1 8 (by decide)).trans a4, (e3.1 49 (by decide)).trans a5⟩, r3, r2⟩
theorem rv_arr {l r : Nat} {e1 e2 : TE} (h : RV τ H dom m E) (hH : gn H < 4000) (hl : rp H dom m l e1) (hr : rp H dom m r e2) : ∃ τ', Md_newKind F τ 2 (nI l) (nI r) = some (nI (gn H), τ') ∧ sx [48] [26, 27, 28, 29] τ τ' ∧ RV τ' (adG H 2 l r) dom m E ∧ xt H dom m (adG H 2 l r) dom m ∧ rp (adG H 2 l r) dom m (gn H) (.op e1 e2) := by
  obtain ⟨a1, a2, a3, a4, a5⟩ := h
  obtain ⟨τ', e1', e2', e3⟩ := newM (F := F) (s := 2) (l := l) (r := r) a1 hH (by omega) (fun _ => ⟨hl.1, hr.1⟩)
  obtain ⟨r1, r2⟩ := Rp_arr a2 hl hr
  exact ⟨τ', e1', e3, ⟨e2', r1, rp_ad a2.1 a3, (e3.1 8 (by decide)).trans a4, (e3.1 49 (by decide)).trans a5⟩, fun k e z => rp_ad a2.1 z, r2⟩
theorem pr_par {i q : Nat} (hi : i < 16) (hq3 : q ≤ 3) : ∀ (d f j : Nat) (τ : zS) (H : SG) (dom : Nat → Prop) (m : Nat → Nat), j + d = q → d < f → ga τ 36 i = nI q → RV τ H dom m E → gn H + d ≤ 4000 → dmK2 i j dom → (∀ l, l < j → ∃ k, ga τ 50 (3 * i + l) = nI k ∧ rp H dom m k (pE i l)) → ∃ τ' H' dom' m', Md_prepare_2 F f τ (nI i) (nI j) = (if (ga τ' 33 i) = (1 : Int32) then (bi (Md_newKind F τ' (0 : Int32) (0 : Int32) (0 : Int32)) (fun r5 σ4 => Md_prepare_64 F σ4 (nI i) (nI i) r5)) else (Md_prepare_64 F τ' (nI i) (nI i) (gi τ' 49))) ∧ RV τ' H' dom' m' E ∧ gn H' = gn H + d ∧ xt H dom m H' dom' m' ∧ dmK2 i q dom' ∧ (∀ l, l < q → ∃ k, ga τ' 50 (3 * i + l) = nI k ∧ rp H' dom' m' k (pE i l)) ∧ sx [48] [26, 27, 28, 29, 50] τ τ' ∧ ∀ z, (z < 3 * i ∨ 3 * i + 3 ≤ z) → ga τ' 50 z = ga τ 50 z := by
  intro d
  induction d with
  | zero =>
    intro f j τ H dom m hj hf h36 hL hG hd hp
    obtain ⟨f, rfl⟩ : ∃ f', f = f' + 1 := ⟨f - 1, by omega⟩
    obtain rfl : j = q := by omega
    refine ⟨τ, H, dom, m, ?_, hL, rfl, xt_rfl _ _ _, hd, hp, sx_rfl _ _ _, fun z _ => rfl⟩
    rw [Md_prepare_2, Md_prepare_b2, gd_t (inb_nI (by omega) (by omega)), nI_clamp (by omega), h36, if_pos (nI_le (Nat.le_refl _) (by omega))]
  | succ d ih =>
    intro f j τ H dom m hj hf h36 hL hG hd hp
    obtain ⟨f, rfl⟩ : ∃ f', f = f' + 1 := ⟨f - 1, by omega⟩
    have hnd : ¬ dom (cpa i j) := by
      intro z
      rcases hd _ z with ⟨i', j', y1, y2, y3⟩ | ⟨i', y1, y2⟩
      · unfold cpa at y1; omega
      · unfold cpa cre at y2; omega
    obtain ⟨τ1, a1, a2, a3, a4, a5⟩ := rv_open (F := F) (x := cpa i j) hL (by omega) hnd
    have s2 : sx [48] [26, 27, 28, 29, 50] τ (sa τ1 50 (3 * i + j) (nI (gn H))) := sx_sa (sx_mono (by decide) (by decide) a2) (by decide) _ _
    have e50 : ∀ z, ga (sa τ1 50 (3 * i + j) (nI (gn H))) 50 z = if z = 3 * i + j then nI (gn H) else ga τ 50 z := by
      intro z; simp only [zs, if_true]; rw [up_at, a2.2.1 50 (by decide)]
    obtain ⟨τ', H', dom', m', b1, b2, b3, b4, b5, b6, b7, b8⟩ := ih f (j + 1) (sa τ1 50 (3 * i + j) (nI (gn H))) _ _ _ (by omega) (by omega) (by rw [s2.2.1 36 (by decide)]; exact h36) (rv_fr a3 (sx_sa (sx_rfl [] [50] τ1) (by decide) (3 * i + j) (nI (gn H))) (by decide) (by decide)) (by rw [ad_n]; omega) (fun z hz => by
        rcases hz with y | y
        · rcases hd z y with ⟨i', j', y1, y2, y3⟩ | y
          · exact Or.inl ⟨i', j', y1, y2, by omega⟩
          · exact Or.inr y
        · exact Or.inl ⟨i, j, y, by omega, by omega⟩) (fun l hl => by
        rw [e50]
        by_cases el : l = j
        · rw [if_pos (by omega), el]; exact ⟨gn H, rfl, a5⟩
        · rw [if_neg (by omega)]
          obtain ⟨k, c1, c2⟩ := hp l (by omega)
          exact ⟨k, c1, a4 _ _ c2⟩)
    refine ⟨τ', H', dom', m', ?_, b2, by rw [b3, ad_n]; omega, xt_tr a4 b4, b5, b6, sx_tr s2 b7, fun z hz => by rw [b8 z hz, e50, if_neg (by omega)]⟩
    rw [Md_prepare_2, Md_prepare_b2, gd_t (inb_nI (by omega) (by omega)), nI_clamp (by omega), h36, if_neg (nI_ge (by omega) (by omega)), a1, bi_some]
    show gd (inb ((3 : Int32) * nI i + nI j) 48) _ = _
    rw [e3m, gd_t (inb_nI (by omega) (by omega)), nI_clamp (by omega), nI_1, b1]
theorem pr_loop {i so : Nat} (hi : i < 16) (hso : so < 2) : ∀ (j f : Nat) (τ : zS) (H : SG) (x : Nat) (r : TE), j ≤ 3 → j < f → ga τ 33 i = nI so → RV τ H dom m E → gn H + j ≤ 4000 → rp H dom m x r → (∀ l, l < j → ∃ k, ga τ 50 (3 * i + l) = nI k ∧ rp H dom m k (pE i l)) → ∃ τ' H' y, Md_prepare_81 F f τ (nI i) (nI x) (nI j - 1) = Md_prepare_118 F τ' (nI i) (nI y) ∧ RV τ' H' dom m E ∧ gn H' = gn H + j ∧ xt H dom m H' dom m ∧ rp H' dom m y (chE i j r) ∧ sx [48] [26, 27, 28, 29] τ τ' := by
  intro j
  induction j with
  | zero =>
    intro f τ H x r hj hf h33 hL hG hx hp
    obtain ⟨f, rfl⟩ : ∃ f', f = f' + 1 := ⟨f - 1, by omega⟩
    refine ⟨τ, H, x, ?_, hL, rfl, xt_rfl _ _ _, hx, sx_rfl _ _ _⟩
    rw [Md_prepare_81, Md_prepare_b81, show nI 0 - (1 : Int32) = -1 by rw [nI_0]; rfl, if_pos (by decide)]
  | succ j ih =>
    intro f τ H x r hj hf h33 hL hG hx hp
    obtain ⟨f, rfl⟩ : ∃ f', f = f' + 1 := ⟨f - 1, by omega⟩
    obtain ⟨k, c1, c2⟩ := hp j (by omega)
    obtain ⟨τ1, a1, a2, a3, a4, a5⟩ := rv_arr (F := F) (l := k) (r := x) hL (by omega) c2 hx
    obtain ⟨τ', H', y, b1, b2, b3, b4, b5, b6⟩ := ih f τ1 _ (gn H) _ (by omega) (by omega) (by rw [a2.2.1 33 (by decide)]; exact h33) a3 (by rw [ad_n]; omega) a5 (fun l hl => by
      obtain ⟨k', d1, d2⟩ := hp l (by omega)
      exact ⟨k', by rw [a2.2.1 50 (by decide)]; exact d1, a4 _ _ d2⟩)
    refine ⟨τ', H', y, ?_, b2, by rw [b3, ad_n]; omega, xt_tr a4 b4, b5, sx_tr a2 b6⟩
    rw [Md_prepare_81, Md_prepare_b81, nI_s1, if_neg (nI_pos (by omega)), gd_t (inb_nI (by omega) (by omega)), nI_clamp (by omega), h33, if_neg (show ¬ (2 : Int32) ≤ nI so from nI_ge (b := 2) hso (by omega)), e3m, gd_t (inb_nI (by omega) (by omega)), nI_clamp (by omega), c1, a1, bi_some]
    show Md_prepare_81 F f τ1 (nI i) (nI (gn H)) (nI j + (-1)) = _
    rw [← Int32.sub_eq_add_neg, b1]
theorem pr_one (hF : 1300 ≤ F) {i so q : Nat} (hi : i < 16) (h33 : ga τ 33 i = nI so) (hso : so ≤ 2) (h36 : ga τ 36 i = nI q) (hq : q ≤ 3) (hq1 : so = 2 → q = 1) (hL : RV τ H dom m E) (hG : gn H + 7 ≤ 4000) (hd : dmK2 i 0 dom) : ∃ τ' H' dom' m', Md_prepare F τ (nI i) = some τ' ∧ RV τ' H' dom' m' E ∧ gn H' ≤ gn H + 7 ∧ xt H dom m H' dom' m' ∧ dmK2 (i + 1) 0 dom' ∧ dkM τ' H' dom' m' i ∧ sx [48] [26, 27, 28, 29, 49, 50, 51] τ τ' ∧ (∀ z, (z < 3 * i ∨ 3 * i + 3 ≤ z) → ga τ' 50 z = ga τ 50 z) ∧ (∀ z, z ≠ i → ga τ' 49 z = ga τ 49 z ∧ ga τ' 51 z = ga τ 51 z) := by
  obtain ⟨τ1, H1, dom1, m1, a1, a2, a3, a4, a5, a6, a7, a8⟩ := pr_par (F := F) hi hq q F 0 τ H dom m (by omega) (by omega) h36 hL (by omega) hd (fun l hl => by omega)
  have h33' : ga τ1 33 i = nI so := by rw [a7.2.1 33 (by decide)]; exact h33
  have h36' : ga τ1 36 i = nI q := by rw [a7.2.1 36 (by decide)]; exact h36
  have key : ∀ (τ2 : zS) (H2 : SG) (dom2 : Nat → Prop) (m2 : Nat → Nat) (k : Nat), RV τ2 H2 dom2 m2 E → gn H2 ≤ gn H1 + 1 → xt H1 dom1 m1 H2 dom2 m2 → dmK2 (i + 1) 0 dom2 → sx [48] [26, 27, 28, 29] τ1 τ2 → rp H2 dom2 m2 k (rE so i) → ∃ τ' H' dom' m', Md_prepare_64 F τ2 (nI i) (nI i) (nI k) = some τ' ∧ RV τ' H' dom' m' E ∧ gn H' ≤ gn H + 7 ∧ xt H dom m H' dom' m' ∧ dmK2 (i + 1) 0 dom' ∧ dkM τ' H' dom' m' i ∧ sx [48] [26, 27, 28, 29, 49, 50, 51] τ τ' ∧ (∀ z, (z < 3 * i ∨ 3 * i + 3 ≤ z) → ga τ' 50 z = ga τ 50 z) ∧ (∀ z, z ≠ i → ga τ' 49 z = ga τ 49 z ∧ ga τ' 51 z = ga τ 51 z) := by
    intro τ2 H2 dom2 m2 k hL2 hG2 hx2 hd2 hs2 hk
    have s3 : sx [48] [26, 27, 28, 29, 51] τ1 (sa τ2 51 i (nI k)) := sx_sa (sx_mono (by decide) (by decide) hs2) (by decide) _ _
    have L3 : RV (sa τ2 51 i (nI k)) H2 dom2 m2 E := rv_fr hL2 (sx_sa (sx_rfl [] [51] τ2) (by decide) i (nI k)) (by decide) (by decide)
    have p3 : ∀ l, l < q → ∃ k', ga (sa τ2 51 i (nI k)) 50 (3 * i + l) = nI k' ∧ rp H2 dom2 m2 k' (pE i l) := by
      intro l hl
      obtain ⟨k', c1, c2⟩ := a6 l hl
      exact ⟨k', by rw [s3.2.1 50 (by decide)]; exact c1, hx2 _ _ c2⟩
    have g33 : ga (sa τ2 51 i (nI k)) 33 i = nI so := by rw [s3.2.1 33 (by decide)]; exact h33'
    have g36 : ga τ2 36 i = nI q := by rw [hs2.2.1 36 (by decide)]; exact h36'
    have g51 : ga (sa τ2 51 i (nI k)) 51 i = nI k := by simp [zs, up_at]
    have hw : ∃ τ4 H4 y z, Md_prepare_81 F F (sa τ2 51 i (nI k)) (nI i) (nI k) (nI q - 1) = Md_prepare_118 F τ4 (nI i) (nI z) ∧ RV τ4 H4 dom2 m2 E ∧ gn H4 ≤ gn H2 + q ∧ xt H2 dom2 m2 H4 dom2 m2 ∧ rp H4 dom2 m2 y (wE so q i) ∧ sx [48] [26, 27, 28, 29] (sa τ2 51 i (nI k)) τ4 ∧ Md_prepare_118 F τ4 (nI i) (nI z) = some (sa τ4 49 i (nI y)) := by
      by_cases e : so = 2
      · obtain ⟨k', c1, c2⟩ := p3 0 (by have := hq1 e; omega)
        refine ⟨sa τ2 51 i (nI k), H2, k', k, ?_, L3, by omega, xt_rfl _ _ _, by rw [wE, if_pos e]; exact c2, sx_rfl _ _ _, ?_⟩
        · obtain ⟨f, hf⟩ : ∃ f, F = f + 1 := ⟨F - 1, by omega⟩
          have hq' : q = 1 := hq1 e
          have : ∀ f, Md_prepare_81 F (f + 1) (sa τ2 51 i (nI k)) (nI i) (nI k) (nI q - 1) = Md_prepare_118 F (sa τ2 51 i (nI k)) (nI i) (nI k) := by
            intro f
            rw [Md_prepare_81, Md_prepare_b81, hq', nI_s1, if_neg (nI_pos (by omega)), gd_t (inb_nI (by omega) (by omega)), nI_clamp (by omega), g33, if_pos (show (2 : Int32) ≤ nI so by rw [e]; decide)]
          have := this f
          rw [← hf] at this
          exact this
        · rw [Md_prepare_118, gd_t (inb_nI (by omega) (by omega)), nI_clamp (by omega), g33, if_pos (by rw [e]; rfl), e3m0, gd_t (inb_nI (by omega) (by omega)), nI_clamp (by omega)]
          rw [Nat.add_zero] at c1
          rw [c1, Md_prepare_145, gd_t (inb_nI (by omega) (by omega)), nI_clamp (by omega)]
      · obtain ⟨τ4, H4, y, c1, c2, c3, c4, c5, c6⟩ := pr_loop (F := F) (dom := dom2) (m := m2) hi (show so < 2 by omega) q F (sa τ2 51 i (nI k)) H2 k (rE so i) hq (by omega) g33 L3 (by omega) hk p3
        refine ⟨τ4, H4, y, y, c1, c2, by omega, c4, by rw [wE, if_neg e]; exact c5, c6, ?_⟩
        rw [Md_prepare_118, gd_t (inb_nI (by omega) (by omega)), nI_clamp (by omega), c6.2.1 33 (by decide), g33, if_neg (show ¬ nI so = 2 from fun z => e ((nI_eq (b := 2) (by omega) (by omega)).mp z)), Md_prepare_145, gd_t (inb_nI (by omega) (by omega)), nI_clamp (by omega)]
    obtain ⟨τ4, H4, y, zz, c1, c2, c3, c4, c5, c6, c7⟩ := hw
    have s4 : sx [48] [26, 27, 28, 29, 51] τ1 τ4 := sx_tr s3 (sx_mono (by decide) (by decide) c6)
    have sF : sx [48] [26, 27, 28, 29, 49, 50, 51] τ (sa τ4 49 i (nI y)) := sx_sa (sx_tr (sx_mono (by decide) (by decide) a7) (sx_mono (by decide) (by decide) s4)) (by decide) _ _
    have e51 : ∀ z, ga (sa τ4 49 i (nI y)) 51 z = if z = i then nI k else ga τ 51 z := by
      intro z
      have : ga (sa τ4 49 i (nI y)) 51 z = ga τ4 51 z := by simp [zs]
      rw [this, c6.2.1 51 (by decide)]
      simp only [zs, if_true]
      rw [up_at, hs2.2.1 51 (by decide), a7.2.1 51 (by decide)]
    have e49 : ∀ z, ga (sa τ4 49 i (nI y)) 49 z = if z = i then nI y else ga τ 49 z := by
      intro z
      simp only [zs, if_true]
      rw [up_at, s4.2.1 49 (by decide), a7.2.1 49 (by decide)]
    have e50 : ∀ z, ga (sa τ4 49 i (nI y)) 50 z = ga τ1 50 z := by
      intro z
      have : ga (sa τ4 49 i (nI y)) 50 z = ga τ4 50 z := by simp [zs]
      rw [this, s4.2.1 50 (by decide)]
    refine ⟨sa τ4 49 i (nI y), H4, dom2, m2, ?_, rv_fr c2 (sx_sa (sx_rfl [] [49] τ4) (by decide) i (nI y)) (by decide) (by decide), by omega, xt_tr a4 (xt_tr hx2 c4), hd2, ⟨so, q, by rw [sF.2.1 33 (by decide)]; exact h33, hso, by rw [sF.2.1 36 (by decide)]; exact h36, hq, ⟨y, by rw [e49, if_pos rfl], c5⟩, ⟨k, by rw [e51, if_pos rfl], c4 _ _ hk⟩, fun j hj => ?_⟩, sF, fun z hz => by rw [e50, a8 z hz], fun z hz => by rw [e49, e51, if_neg hz, if_neg hz]; exact ⟨rfl, rfl⟩⟩
    · rw [Md_prepare_64, gd_t (inb_nI (by omega) (by omega)), gd_t (inb_nI (by omega) (by omega)), gd_t (inb_nI (by omega) (by omega)), nI_clamp (by omega), g51, g36, c1, c7]
    · rw [e50]
      obtain ⟨k', d1, d2⟩ := a6 j hj
      exact ⟨k', d1, c4 _ _ (hx2 _ _ d2)⟩
  have dm : dmK2 (i + 1) 0 dom1 := fun z hz => by
    rcases a5 z hz with ⟨i', j', y1, y2, y3⟩ | ⟨i', y1, y2⟩
    · exact Or.inl ⟨i', j', y1, y2, by omega⟩
    · exact Or.inr ⟨i', by omega, y2⟩
  rw [Md_prepare, show (0 : Int32) = nI 0 from nI_0.symm, a1, h33']
  by_cases e : so = 1
  · have hnd : ¬ dom1 (cre i) := by
      intro z
      rcases a5 _ z with ⟨i', j', y1, y2, y3⟩ | ⟨i', y1, y2⟩
      · unfold cpa cre at y1; omega
      · unfold cre at y2; omega
    obtain ⟨τ2, b1, b2, b3, b4, b5⟩ := rv_open (F := F) (x := cre i) a2 (by omega) hnd
    rw [if_pos (by rw [e]; rfl), b1, bi_some]
    exact key τ2 _ _ _ (gn H1) b3 (by rw [ad_n]; omega) b4 (fun z hz => by
      rcases hz with y | y
      · exact dm z y
      · exact Or.inr ⟨i, by omega, y⟩) b2 (by rw [rE, if_pos e]; exact b5)
  · rw [if_neg (show ¬ nI so = 1 from fun z => e ((nI_eq (b := 1) (by omega) (by omega)).mp z)), a2.2.2.2.2, show (0 : Int32) = nI 0 from nI_0.symm]
    exact key τ1 H1 dom1 m1 0 a2 (by omega) (xt_rfl _ _ _) dm (sx_rfl _ _ _) (by rw [rE, if_neg e]; exact a2.2.2.1)
end K
