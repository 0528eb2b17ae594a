/-! The class makes the kinds of a group. Own text. -/
def pE (i j : Nat) : TE := .var (cpa i j + 1)
def rE (so i : Nat) : TE := if so = 1 then .var (cre i + 1) else .var 0
def chE (i : Nat) : Nat → TE → TE
  | 0, r => r
  | j + 1, r => chE i j (.op (pE i j) r)
def wE (so q i : Nat) : TE := if so = 2 then pE i 0 else chE i q (rE so i)
/-- what was made of declaration i -/
def dkC (σ : zS) (G : SG) (dom : Nat → Prop) (m : Nat → Nat) (i : Nat) : Prop := ∃ so q, ga σ 29 i = nI so ∧ so ≤ 2 ∧ ga σ 32 i = nI q ∧ q ≤ 3 ∧ (∃ k, ga σ 40 i = nI k ∧ rp G dom m k (wE so q i)) ∧ (∃ k, ga σ 42 i = nI k ∧ rp G dom m k (rE so i)) ∧ ∀ j, j < q → ∃ k, ga σ 41 (3 * i + j) = nI k ∧ rp G dom m k (pE i j)
theorem dkC_cg {σ σ' : zS} {G G' : SG} {dom dom' : Nat → Prop} {m m' : Nat → Nat} {i : Nat} (h : dkC σ G dom m i) (h1 : ga σ' 29 i = ga σ 29 i ∧ ga σ' 32 i = ga σ 32 i ∧ ga σ' 40 i = ga σ 40 i ∧ ga σ' 42 i = ga σ 42 i) (h2 : ∀ j, j < 3 → ga σ' 41 (3 * i + j) = ga σ 41 (3 * i + j)) (hx : xt G dom m G' dom' m') : dkC σ' G' dom' m' i := by
  obtain ⟨so, q, a1, a2, a3, a4, ⟨k, a5, a6⟩, ⟨k', a7, a8⟩, a9⟩ := h
  obtain ⟨b1, b2, b3, b4⟩ := h1
  exact ⟨so, q, b1.trans a1, a2, b2.trans a3, a4, ⟨k, b3.trans a5, hx _ _ a6⟩, ⟨k', b4.trans a7, hx _ _ a8⟩, fun j hj => by
    obtain ⟨k2, c1, c2⟩ := a9 j hj
    exact ⟨k2, (h2 j (by omega)).trans c1, hx _ _ c2⟩⟩
/-- the open ones of declarations below i, and of i the first j -/
def dmK2 (i j : Nat) (dom : Nat → Prop) : Prop := ∀ z, dom z → (∃ i' j', z = cpa i' j' ∧ j' < 3 ∧ (i' < i ∨ (i' = i ∧ j' < j))) ∨ ∃ i', i' < i ∧ z = cre i'
section K
variable {F : Nat} {σ : zS} {G : SG} {dom : Nat → Prop} {m : Nat → Nat} {E : List EQ}
theorem mk_par (rc : zS → Int32 → Int32 → Option zS) {i q : Nat} (x1 : Int32) (hi : i < 16) (hq3 : q ≤ 3) : ∀ (d f j : Nat) (σ : zS) (G : SG) (dom : Nat → Prop) (m : Nat → Nat), j + d = q → d < f → ga σ 32 i = nI q → lsE [] σ G dom m E → gn G + d ≤ 1713 → dmK2 i j dom → (∀ l, l < j → ∃ k, ga σ 41 (3 * i + l) = nI k ∧ rp G dom m k (pE i l)) → ∃ σ' G' dom' m', So_makeKinds_26 F rc f σ x1 (nI i) (nI j) = (if (ga σ' 29 i) = (1 : Int32) then (bi (Ki_makeOpen F σ') (fun r5 σ4 => So_makeKinds_97 F rc σ4 x1 (nI i) (nI i) r5)) else (So_makeKinds_97 F rc σ' x1 (nI i) (nI i) (0 : Int32))) ∧ lsE [] σ' G' dom' m' E ∧ gn G' = gn G + d ∧ xt G dom m G' dom' m' ∧ dmK2 i q dom' ∧ (∀ l, l < q → ∃ k, ga σ' 41 (3 * i + l) = nI k ∧ rp G' dom' m' k (pE i l)) ∧ sx [306] [23, 24, 25, 41] σ σ' ∧ ∀ z, (z < 3 * i ∨ 3 * i + 3 ≤ z) → ga σ' 41 z = ga σ 41 z := by
  intro d
  induction d with
  | zero =>
    intro f j σ G dom m hj hf h32 hL hG hd hp
    obtain ⟨f, rfl⟩ : ∃ f', f = f' + 1 := ⟨f - 1, by omega⟩
    obtain rfl : j = q := by omega
    refine ⟨σ, G, dom, m, ?_, hL, rfl, xt_rfl _ _ _, hd, hp, sx_rfl _ _ _, fun z _ => rfl⟩
    rw [So_makeKinds_26, So_makeKinds_b26, gd_t (inb_nI (by omega) (by omega)), nI_clamp (by omega), h32, if_pos (nI_le (Nat.le_refl _) (by omega))]
  | succ d ih =>
    intro f j σ G dom m hj hf h32 hL hG hd hp
    obtain ⟨f, rfl⟩ : ∃ f', f = f' + 1 := ⟨f - 1, by omega⟩
    have hnd : ¬ dom (cpa i j) := by
      intro z
      rcases hd _ z with ⟨i', j', y1, y2, y3⟩ | ⟨i', y1, y2⟩
      · unfold cpa at y1; omega
      · unfold cpa cre at y2; omega
    obtain ⟨σ1, a1, a2, a3, a4, a5⟩ := ls_open (F := F) (x := cpa i j) hL (by omega) hnd
    have s2 : sx [306] [23, 24, 25, 41] σ (sa σ1 41 (3 * i + j) (nI (gn G))) := sx_sa (sx_mono (by decide) (by decide) a2) (by decide) _ _
    have e41 : ∀ z, ga (sa σ1 41 (3 * i + j) (nI (gn G))) 41 z = if z = 3 * i + j then nI (gn G) else ga σ 41 z := by
      intro z; simp only [zs, if_true]; rw [up_at, a2.2.1 41 (by decide)]
    obtain ⟨σ', G', dom', m', b1, b2, b3, b4, b5, b6, b7, b8⟩ := ih f (j + 1) (sa σ1 41 (3 * i + j) (nI (gn G))) _ _ _ (by omega) (by omega) (by rw [s2.2.1 32 (by decide)]; exact h32) (ls_fr a3 (sy_sx (sx_sa (sx_rfl [] [41] σ1) (by decide) (3 * i + j) (nI (gn G)))) (by decide) (by decide)) (by rw [ad_n]; omega) (fun z hz => by
        rcases hz with y | y
        · rcases hd z y with ⟨i', j', y1, y2, y3⟩ | y
          · exact Or.inl ⟨i', j', y1, y2, by omega⟩
          · exact Or.inr y
        · exact Or.inl ⟨i, j, y, by omega, by omega⟩) (fun l hl => by
        rw [e41]
        by_cases el : l = j
        · rw [if_pos (by omega), el]; exact ⟨gn G, rfl, a5⟩
        · rw [if_neg (by omega)]
          obtain ⟨k, c1, c2⟩ := hp l (by omega)
          exact ⟨k, c1, a4 _ _ c2⟩)
    refine ⟨σ', G', dom', m', ?_, b2, by rw [b3, ad_n]; omega, xt_tr a4 b4, b5, b6, sx_tr s2 b7, fun z hz => by rw [b8 z hz, e41, if_neg (by omega)]⟩
    rw [So_makeKinds_26, So_makeKinds_b26, gd_t (inb_nI (by omega) (by omega)), nI_clamp (by omega), h32, if_neg (nI_ge (by omega) (by omega)), a1, bi_some]
    show gd (inb (nI i * (3 : Int32) + nI j) 48) _ = _
    rw [e3n, gd_t (inb_nI (by omega) (by omega)), nI_clamp (by omega), nI_1, b1]
theorem wh_loop {i : Nat} (hi : i < 16) : ∀ (j f : Nat) (σ : zS) (G : SG) (x : Nat) (r : TE), j ≤ 3 → j < f → lsE [] σ G dom m E → gn G + j ≤ 1713 → rp G dom m x r → (∀ l, l < j → ∃ k, ga σ 41 (3 * i + l) = nI k ∧ rp G dom m k (pE i l)) → ∃ σ' G' y, So_wholeKind_50 F f σ (nI (3 * i)) (nI x) (nI j - 1) = some (nI y, σ') ∧ lsE [] σ' G' dom m E ∧ gn G' = gn G + j ∧ xt G dom m G' dom m ∧ rp G' dom m y (chE i j r) ∧ sx [306] [23, 24, 25] σ σ' := by
  intro j
  induction j with
  | zero =>
    intro f σ G x r hj hf hL hG hx hp
    obtain ⟨f, rfl⟩ : ∃ f', f = f' + 1 := ⟨f - 1, by omega⟩
    refine ⟨σ, G, x, ?_, hL, rfl, xt_rfl _ _ _, hx, sx_rfl _ _ _⟩
    rw [So_wholeKind_50, So_wholeKind_b50, show nI 0 - (1 : Int32) = -1 by rw [nI_0]; rfl, if_pos (by decide)]
  | succ j ih =>
    intro f σ G x r hj hf hL hG hx hp
    obtain ⟨f, rfl⟩ : ∃ f', f = f' + 1 := ⟨f - 1, by omega⟩
    obtain ⟨k, c1, c2⟩ := hp j (by omega)
    obtain ⟨σ1, a1, a2, a3, a4, a5⟩ := ls_arr (F := F) (l := k) (r := x) hL (by omega) c2 hx
    obtain ⟨σ', G', y, b1, b2, b3, b4, b5, b6⟩ := ih f σ1 _ (gn G) _ (by omega) (by omega) a3 (by rw [ad_n]; omega) a5 (fun l hl => by
      obtain ⟨k', d1, d2⟩ := hp l (by omega)
      exact ⟨k', by rw [a2.2.1 41 (by decide)]; exact d1, a4 _ _ d2⟩)
    refine ⟨σ', G', y, ?_, b2, by rw [b3, ad_n]; omega, xt_tr a4 b4, b5, sx_tr a2 b6⟩
    rw [So_wholeKind_50, So_wholeKind_b50, nI_s1, if_neg (nI_pos (by omega)), nI_add, gd_t (inb_nI (by omega) (by omega)), nI_clamp (by omega), c1, a1, bi_some]
    show So_wholeKind_50 F f σ1 (nI (3 * i)) (nI (gn G)) (nI j + (-1)) = _
    rw [← Int32.sub_eq_add_neg, b1]
theorem mk_one (hF : 1300 ≤ F) (rc : zS → Int32 → Int32 → Option zS) (x1 : Int32) {i so q : Nat} (hi : i < 16) (h29 : ga σ 29 i = nI so) (hso : so ≤ 2) (h32 : ga σ 32 i = nI q) (hq : q ≤ 3) (hq1 : so = 2 → q = 1) (hL : lsE [] σ G dom m E) (hG : gn G + 7 ≤ 1713) (hd : dmK2 i 0 dom) : ∃ σ' G' dom' m', So_makeKinds_26 F rc F σ x1 (nI i) 0 = rc σ' x1 (nI (i + 1)) ∧ lsE [] σ' G' dom' m' E ∧ gn G' ≤ gn G + 7 ∧ xt G dom m G' dom' m' ∧ dmK2 (i + 1) 0 dom' ∧ dkC σ' G' dom' m' i ∧ sx [306] [23, 24, 25, 40, 41, 42] σ σ' ∧ (∀ z, (z < 3 * i ∨ 3 * i + 3 ≤ z) → ga σ' 41 z = ga σ 41 z) ∧ (∀ z, z ≠ i → ga σ' 40 z = ga σ 40 z ∧ ga σ' 42 z = ga σ 42 z) := by
  obtain ⟨σ1, G1, dom1, m1, a1, a2, a3, a4, a5, a6, a7, a8⟩ := mk_par (F := F) rc x1 hi hq q F 0 σ G dom m (by omega) (by omega) h32 hL (by omega) hd (fun l hl => by omega)
  have h29' : ga σ1 29 i = nI so := by rw [a7.2.1 29 (by decide)]; exact h29
  have h32' : ga σ1 32 i = nI q := by rw [a7.2.1 32 (by decide)]; exact h32
  have key : ∀ (σ2 : zS) (G2 : SG) (dom2 : Nat → Prop) (m2 : Nat → Nat) (k : Nat), lsE [] σ2 G2 dom2 m2 E → gn G2 ≤ gn G1 + 1 → xt G1 dom1 m1 G2 dom2 m2 → dmK2 (i + 1) 0 dom2 → sx [306] [23, 24, 25] σ1 σ2 → rp G2 dom2 m2 k (rE so i) → ∃ σ' G' dom' m', So_makeKinds_97 F rc σ2 x1 (nI i) (nI i) (nI k) = rc σ' x1 (nI (i + 1)) ∧ lsE [] σ' G' dom' m' E ∧ gn G' ≤ gn G + 7 ∧ xt G dom m G' dom' m' ∧ dmK2 (i + 1) 0 dom' ∧ dkC σ' G' dom' m' i ∧ sx [306] [23, 24, 25, 40, 41, 42] σ σ' ∧ (∀ z, (z < 3 * i ∨ 3 * i + 3 ≤ z) → ga σ' 41 z = ga σ 41 z) ∧ (∀ z, z ≠ i → ga σ' 40 z = ga σ 40 z ∧ ga σ' 42 z = ga σ 42 z) := by
    intro σ2 G2 dom2 m2 k hL2 hG2 hx2 hd2 hs2 hk
    have s3 : sx [306] [23, 24, 25, 42] σ1 (sa σ2 42 i (nI k)) := sx_sa (sx_mono (by decide) (by decide) hs2) (by decide) _ _
    have L3 : lsE [] (sa σ2 42 i (nI k)) G2 dom2 m2 E := ls_fr hL2 (sy_sx (sx_sa (sx_rfl [] [42] σ2) (by decide) i (nI k))) (by decide) (by decide)
    have p3 : ∀ l, l < q → ∃ k', ga (sa σ2 42 i (nI k)) 41 (3 * i + l) = nI k' ∧ rp G2 dom2 m2 k' (pE i l) := by
      intro l hl
      obtain ⟨k', c1, c2⟩ := a6 l hl
      exact ⟨k', by rw [s3.2.1 41 (by decide)]; exact c1, hx2 _ _ c2⟩
    have hw : ∃ σ4 G4 y, So_wholeKind F (sa σ2 42 i (nI k)) (nI i) = some (nI y, σ4) ∧ lsE [] σ4 G4 dom2 m2 E ∧ gn G4 ≤ gn G2 + q ∧ xt G2 dom2 m2 G4 dom2 m2 ∧ rp G4 dom2 m2 y (wE so q i) ∧ sx [306] [23, 24, 25] (sa σ2 42 i (nI k)) σ4 := by
      have e1 : nI i * (3 : Int32) = nI (3 * i) := by have := e3n i 0; rw [nI_0, Int32.add_zero] at this; simpa using this
      have g29 : ga (sa σ2 42 i (nI k)) 29 i = nI so := by rw [s3.2.1 29 (by decide)]; exact h29'
      have g32 : ga (sa σ2 42 i (nI k)) 32 i = nI q := by rw [s3.2.1 32 (by decide)]; exact h32'
      have g42 : ga (sa σ2 42 i (nI k)) 42 i = nI k := by simp [zs, up_at]
      by_cases e : so = 2
      · obtain ⟨k', c1, c2⟩ := p3 0 (by have := hq1 e; omega)
        refine ⟨sa σ2 42 i (nI k), G2, k', ?_, L3, by omega, xt_rfl _ _ _, by rw [wE, if_pos e]; exact c2, sx_rfl _ _ _⟩
        rw [So_wholeKind, gd_t (inb_nI (by omega) (by omega)), nI_clamp (by omega), g29, if_pos (by rw [e]; rfl), e1, gd_t (inb_nI (by omega) (by omega)), nI_clamp (by omega)]
        rw [Nat.add_zero] at c1
        rw [c1]
      · obtain ⟨σ4, G4, y, c1, c2, c3, c4, c5, c6⟩ := wh_loop (F := F) (dom := dom2) (m := m2) hi q F (sa σ2 42 i (nI k)) G2 k (rE so i) hq (by omega) L3 (by omega) hk p3
        refine ⟨σ4, G4, y, ?_, c2, by omega, c4, by rw [wE, if_neg e]; exact c5, c6⟩
        rw [So_wholeKind, gd_t (inb_nI (by omega) (by omega)), nI_clamp (by omega), g29, if_neg (show ¬ nI so = 2 from fun z => e ((nI_eq (b := 2) (by omega) (by omega)).mp z)), e1, g42, g32, c1]
    obtain ⟨σ4, G4, y, c1, c2, c3, c4, c5, c6⟩ := hw
    have s4 : sx [306] [23, 24, 25, 42] σ1 σ4 := sx_tr s3 (sx_mono (by decide) (by decide) c6)
    have sF : sx [306] [23, 24, 25, 40, 41, 42] σ (sa σ4 40 i (nI y)) := sx_sa (sx_tr (sx_mono (by decide) (by decide) a7) (sx_mono (by decide) (by decide) s4)) (by decide) _ _
    have e42 : ∀ z, ga (sa σ4 40 i (nI y)) 42 z = if z = i then nI k else ga σ 42 z := by
      intro z
      have : ga (sa σ4 40 i (nI y)) 42 z = ga σ4 42 z := by simp [zs]
      rw [this, c6.2.1 42 (by decide)]
      simp only [zs, if_true]
      rw [up_at, hs2.2.1 42 (by decide), a7.2.1 42 (by decide)]
    have e40 : ∀ z, ga (sa σ4 40 i (nI y)) 40 z = if z = i then nI y else ga σ 40 z := by
      intro z
      simp only [zs, if_true]
      rw [up_at, s4.2.1 40 (by decide), a7.2.1 40 (by decide)]
    have e41 : ∀ z, ga (sa σ4 40 i (nI y)) 41 z = ga σ1 41 z := by
      intro z
      have : ga (sa σ4 40 i (nI y)) 41 z = ga σ4 41 z := by simp [zs]
      rw [this, s4.2.1 41 (by decide)]
    refine ⟨sa σ4 40 i (nI y), G4, dom2, m2, ?_, ls_fr c2 (sy_sx (sx_sa (sx_rfl [] [40] σ4) (by decide) i (nI y))) (by decide) (by decide), by omega, xt_tr a4 (xt_tr hx2 c4), hd2, ⟨so, q, by rw [sF.2.1 29 (by decide)]; exact h29, hso, by rw [sF.2.1 32 (by decide)]; exact h32, hq, ⟨y, by rw [e40, if_pos rfl], c5⟩, ⟨k, by rw [e42, if_pos rfl], c4 _ _ hk⟩, fun j hj => ?_⟩, sF, fun z hz => by rw [e41, a8 z hz], fun z hz => by rw [e40, e42, if_neg hz, if_neg hz]; exact ⟨rfl, rfl⟩⟩
    · rw [So_makeKinds_97, gd_t (inb_nI (by omega) (by omega)), nI_clamp (by omega), c1, bi_some]
      show gd (inb (nI i) 16) _ = _
      rw [gd_t (inb_nI (by omega) (by omega)), So_makeKinds_112, nI_1]
    · rw [e41]
      obtain ⟨k', d1, d2⟩ := a6 j hj
      exact ⟨k', d1, c4 _ _ (hx2 _ _ d2)⟩
  have dm : dmK2 (i + 1) 0 dom1 := fun z hz => by
    rcases a5 z hz with ⟨i', j', y1, y2, y3⟩ | ⟨i', y1, y2⟩
    · exact Or.inl ⟨i', j', y1, y2, by omega⟩
    · exact Or.inr ⟨i', by omega, y2⟩
  rw [show (0 : Int32) = nI 0 from nI_0.symm, a1, h29']
  by_cases e : so = 1
  · have hnd : ¬ dom1 (cre i) := by
      intro z
      rcases a5 _ z with ⟨i', j', y1, y2, y3⟩ | ⟨i', y1, y2⟩
      · unfold cpa cre at y1; omega
      · unfold cre at y2; omega
    obtain ⟨σ2, b1, b2, b3, b4, b5⟩ := ls_open (F := F) (x := cre i) a2 (by omega) hnd
    rw [if_pos (by rw [e]; rfl), b1, bi_some]
    exact key σ2 _ _ _ (gn G1) b3 (by rw [ad_n]; omega) b4 (fun z hz => by
      rcases hz with y | y
      · exact dm z y
      · exact Or.inr ⟨i, by omega, y⟩) b2 (by rw [rE, if_pos e]; exact b5)
  · rw [if_neg (show ¬ nI so = 1 from fun z => e ((nI_eq (b := 1) (by omega) (by omega)).mp z))]
    show ∃ σ' G' dom' m', So_makeKinds_97 F rc σ1 x1 (nI i) (nI i) (0 : Int32) = _ ∧ _
    rw [show (0 : Int32) = nI 0 from nI_0.symm]
    exact key σ1 G1 dom1 m1 0 a2 (by omega) (xt_rfl _ _ _) dm (sx_rfl _ _ _) (by rw [rE, if_neg e]; exact rp_star a2.1)
end K
