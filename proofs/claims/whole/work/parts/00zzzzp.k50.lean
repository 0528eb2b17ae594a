/-! A group in both. Own text. -/
/-- a fault of sort 6 in both: places, sides -/
def six (σ τ : zS) : Prop := ∃ p H x y d, gi σ 200 = 6 ∧ gi σ 201 = nI p ∧ gi τ 8 = 6 ∧ gi τ 9 = nI p ∧ gi τ 10 = 1 ∧ MS τ H ∧ x < gn H ∧ y < gn H ∧ gi τ 79 = nI x ∧ gi τ 80 = nI y ∧ dpt d (gT H x) ∧ dpt d (gT H y) ∧ lnR σ 15 (prT (ltV (V2 d (gT H x) (gT H y))) d (gT H x)) ∧ lnR σ 16 (prT (ltV (V2 d (gT H x) (gT H y))) d (gT H y)) ∧ ∀ w, Sol H w → w 0 = iS
/-- a pair of kinds that both are the same closed tree -/
def pairT (G H : SG) (k k' : Nat) : Prop := k < gn G ∧ k' < gn H ∧ gT G k = gT H k' ∧ ∃ d, dpt d (gT G k)
/-- frames of a group -/
def frGC (σ σ' : zS) : Prop := (∀ r, r ∉ [200, 201, 306, 307, 308, 309, 310, 807, 811, 814, 815] → gi σ' r = gi σ r) ∧ (∀ a, a ∉ [23, 24, 25, 26, 27, 28, 35, 40, 41, 42, 49, 50, 51, 52, 53, 54, 56] → ga σ' a = ga σ a) ∧ (∀ b, b ≠ 55 → gb σ' b = gb σ b) ∧ (∀ a, gl σ' a = gl σ a) ∧ (∀ a, gr σ' a = gr σ a) ∧ (∀ j, j ≠ 1501 → j ≠ 1601 → mi σ' j = mi σ j) ∧ (∀ a, a ≠ lA 15 → a ≠ lA 16 → ma σ' a = ma σ a) ∧ (∀ a, mb σ' a = mb σ a)
theorem frGC_sy {I A : List Nat} {σ σ' : zS} (h : sy I A σ σ') (hI : ∀ r, r ∈ I → r ∈ [200, 201, 306, 307, 308, 309, 310, 807, 811, 814, 815]) (hA : ∀ r, r ∈ A → r ∈ [23, 24, 25, 26, 27, 28, 35, 40, 41, 42, 49, 50, 51, 52, 53, 54, 56]) : frGC σ σ' :=
  ⟨fun r hr => h.1 r (fun z => hr (hI r z)), fun a ha => h.2.1 a (fun z => ha (hA a z)), h.2.2.1, fun a => by unfold gl; rw [h.2.2.2.1], fun a => by unfold gr; rw [h.2.2.2.2], fun j _ _ => by rw [sy_mi h], fun a _ _ => by rw [sy_ma h], fun a => sy_mb h a⟩
theorem frGC_tr {σ σ1 σ2 : zS} (h : frGC σ σ1) (g : frGC σ1 σ2) : frGC σ σ2 := by
  obtain ⟨a1, a2, a3, a4, a5, a6, a7, a8⟩ := h
  obtain ⟨b1, b2, b3, b4, b5, b6, b7, b8⟩ := g
  exact ⟨fun r hr => (b1 r hr).trans (a1 r hr), fun r hr => (b2 r hr).trans (a2 r hr), fun r hr => (b3 r hr).trans (a3 r hr), fun r => (b4 r).trans (a4 r), fun r => (b5 r).trans (a5 r), fun j j1 j2 => (b6 j j1 j2).trans (a6 j j1 j2), fun j j1 j2 => (b7 j j1 j2).trans (a7 j j1 j2), fun r => (b8 r).trans (a8 r)⟩
section A
variable {F : Nat} {σ τ : zS} {G H : SG} {N D M g : Nat} {gp live : Nat → Bool} {KA TT : Nat → TE} {TL : List TR} {x1 : Int32}
theorem rvF_fail {τ : zS} {E Ea Eb : List EQ} {e : EQ} (hE : E = Ea ++ e :: Eb) (h : rvF τ Ea e) : fail E Ea e := by
  obtain ⟨H, dom, m, x, y, a1, a2, a3, a4, a5, _⟩ := h
  exact ⟨⟨Eb, hE⟩, fso_Rp a2, nfso_Rp a2 a3 a4 a5⟩
/-- kinds that both hold of the same are, closed, the same -/
theorem cl_pair {G H : SG} {dom dom' : Nat → Prop} {m m' : Nat → Nat} {E : List (TE × TE)} (h : Rp G dom m E) (g : Rp H dom' m' E) (hn : 0 < gn G) (h0 : gup G 0 = 0) (hs : gso G 0 = 1) {k k' : Nat} {e : TE} (hk : rp G dom m k e) (hk' : rp H dom' m' k' e) : pairT (clG G) (clH H) k k' := by
  obtain ⟨θ, θ', key⟩ := Rp_ren h g
  obtain ⟨e1, e2⟩ := key k k' e hk hk'
  obtain ⟨d, hd⟩ := rp_fin h hk
  refine ⟨hk.1, hk'.1, ?_, d, ?_⟩
  · rw [clG_T h.1 hn h0 hs hk.1, clH_T g.1 hk'.1]
    exact clT_ren (gT_wfT h.1 hk.1) (gT_wfT g.1 hk'.1) e1 e2
  · rw [clG_T h.1 hn h0 hs hk.1]
    intro p hp z
    have := clT_at p _ (gT_wfT h.1 hk.1)
    rw [z] at this
    by_cases c : gT G k p = 1
    · exact hd p hp c
    · rw [if_neg c] at this; cases this
/-- old kinds keep their trees -/
theorem cl_keep {G G' : SG} {dom' : Nat → Prop} {m' : Nat → Nat} (hw : wfG G) (hno : noO G) (hx : xt G (fun _ => False) (fun z => z) G' dom' m') (hw' : wfG G') {k d : Nat} (hk : k < gn G) (hd : dpt d (gT G k)) : k < gn G' ∧ gT G' k = gT G k ∧ ∃ T : TE, rp G' dom' m' k T ∧ ∀ α, ev α T = gT G k := by
  obtain ⟨T, hT⟩ := tree_TE d _ (gT_wfT hw hk) hd (fun p => noO_cl hw hno p k hk)
  have h1 := hx _ _ (rp_clo hw hno hk hT (fun _ => False) (fun z => z))
  refine ⟨h1.1, ?_, T, h1, hT⟩
  rw [h1.2 _ (gT_sol hw') (fun z => gT G' (m' z)) (fun z hz => rfl), hT]
theorem grp_step (hF : 20000 ≤ F) (hc : grC σ τ G D M gp live KA TT TL x1) (hm : grM σ τ H N D M g gp live KA TT TL) (hoG : noO G) (hoH : noO H) {lo : Nat} (h307 : gi σ 307 = nI lo) (hlo : lo ≤ gn G) (h35 : ∀ i, i < D → gp i = true → ga σ 35 i = 0) : ∃ σ' τ', (∀ {β : Type} (K : zS → Option β), bv (So_makeKinds F (si σ 807 0) x1) (fun σ7 => bv (So_listTold F σ7 x1) (fun σ9 => bv (So_listMembers F σ9 x1) (fun σ11 => bv (So_solveListed F σ11) (fun σ13 => bv (So_countOpens F σ13 x1) (fun σ15 => bv (Ki_closeGroup F σ15) K))))) = K σ') ∧ Md_solve F τ (nI g) = some τ' ∧ frGC σ σ' ∧ ((∃ G' H', CS σ' G' ∧ MS τ' H' ∧ noO G' ∧ noO H' ∧ gi σ' 200 = 0 ∧ gi σ' 201 = gi σ 201 ∧ sx [48] [6, 26, 27, 28, 29, 30, 49, 50, 51, 52, 53, 54] τ τ' ∧ gi σ' 307 = nI (gn G') ∧ gn G' ≤ gn G + 7 * cN gp D + 3 * wT gp TL ∧ gn H' ≤ gn H + 7 * cN gp D + cN (lfG τ gp) N + 2 * wA gp TL ∧ (∀ k d, k < gn G → dpt d (gT G k) → k < gn G' ∧ gT G' k = gT G k) ∧ (∀ k d, k < gn H → dpt d (gT H k) → k < gn H' ∧ gT H' k = gT H k) ∧ (∀ y, y < D → gp y = true → (∃ k k', ga σ' 40 y = nI k ∧ ga τ' 49 y = nI k' ∧ pairT G' H' k k') ∧ ∀ j, j < qN σ y → ∃ k k', ga σ' 41 (3 * y + j) = nI k ∧ ga τ' 50 (3 * y + j) = nI k' ∧ pairT G' H' k k') ∧ (∀ l, gp l = false → ga σ' 40 l = ga σ 40 l ∧ ga τ' 49 l = ga τ 49 l ∧ ga σ' 35 l = ga σ 35 l ∧ ga τ' 52 l = ga τ 52 l ∧ ∀ j, j < 3 → ga σ' 41 (3 * l + j) = ga σ 41 (3 * l + j) ∧ ga τ' 50 (3 * l + j) = ga τ 50 (3 * l + j)) ∧ (∀ l, l < D → gp l = true → ga σ' 35 l = ga τ' 52 l) ∧ grW σ τ D gp live KA TL σ' G') ∨ (six σ' τ' ∧ (∃ G', CS σ' G' ∧ noO G' ∧ gi σ' 307 = nI (gn G') ∧ gn G' ≤ gn G + 7 * cN gp D + 3 * wT gp TL) ∧ sx [8, 9, 10, 48, 79, 80] [6, 26, 27, 28, 29, 30, 49, 50, 51, 53, 54] τ τ' ∧ knd τ' (gn H + 7 * cN gp D + cN (lfG τ gp) N + 2 * wA gp TL))) := by
  have hcc := hc
  have hmm := hm
  obtain ⟨h1, h2, h3, h4, h5, h6, h7, h8, h9, h10, h11, h12, h13, h14, h15, h16, h17, h18, h19, h20, h21, h22⟩ := hc
  have hD := h4.2.1
  have hMS : MS τ H := hm.1
  have hdP : dcP τ D := hm.2.2.2.2.2.1
  have hgp : ∀ i, i < D → (ga τ 48 i = nI g ↔ gp i = true) := hm.2.2.2.2.2.2.1
  have hnt : nt (tdE σ D gp KA TT M ++ mbE σ τ D gp KA 0 TL) = nt (tdE σ D gp KA TT M ++ mrE σ τ D gp KA 0 TL) := by rw [nt_app, nt_app, mb_nt]
  have hsq : ∀ y, y < D → ∃ so q, ga σ 29 y = nI so ∧ so ≤ 2 ∧ ga σ 32 y = nI q ∧ q ≤ 3 ∧ soN σ y = so ∧ qN σ y = q := by
    intro y hy
    obtain ⟨so, q, c1, c2, c3, c4, c5⟩ := h4.2.2 y hy
    exact ⟨so, q, c1, c2, c3, c4, by unfold soN; rw [c1, nI_clamp (by omega)], by unfold qN; rw [c3, nI_clamp (by omega)]⟩
  -- counting what is open, whatever it is
  have count : ∀ (s : zS) (Gx : SG) (dx : Nat → Prop) (mx : Nat → Nat) (E : List (TE × TE)), CS s Gx → Rp Gx dx mx E → (∀ y, y < D → gp y = true → dkC s Gx dx mx y) → (∀ i, i < D → gp i = true → ga s 35 i = 0) → gi s 400 = nI D → ga s 29 = ga σ 29 → ga s 32 = ga σ 32 → tz (gn G) Gx → gi s 307 = nI lo → gn G ≤ gn Gx → ∃ (b : Nat → Nat → Bool) (s' : zS), (∀ {β : Type} (K : zS → Option β), bv (So_countOpens F s x1) (fun σ15 => bv (Ki_closeGroup F σ15) K) = K s') ∧ CS s' (clG Gx) ∧ sx [307, 309, 310] [25, 26, 28, 35] s s' ∧ gi s' 307 = nI (gn Gx) ∧ (∀ l, ga s' 35 l = if l < D ∧ gp l = true then nI (cN (b l) (qN σ l)) else ga s 35 l) ∧ (∀ i, i < D → gp i = true → ∀ j, j < qN σ i → ∃ k, ga s 41 (3 * i + j) = nI k ∧ rp Gx dx mx k (pE i j) ∧ (b i j = true ↔ ∃ p v, gT Gx k p = v + 2)) := by
    intro s Gx dx mx E hC hR hk h35' h400 e29 e32 htz hs307 hle
    have hdO : dcO s D := dcO_cg h4 (h400.trans h4.1.symm) e29 e32
    have eq : ∀ y, qN s y = qN σ y := by intro y; unfold qN; rw [e32]
    have hpar : ∀ i, i < D → gp i = true → ∀ j, j < qN σ i → ∃ k, ga s 41 (3 * i + j) = nI k ∧ rp Gx dx mx k (pE i j) := by
      intro i hi hg j hj
      obtain ⟨so, q, c1, c2, c3, c4, c5, c6, c7⟩ := hk i hi hg
      obtain ⟨so', q', d1, d2, d3, d4, d5, d6⟩ := hsq i hi
      have : q = q' := (nI_eq (by omega) (by omega)).mp (c3.symm.trans (by rw [e32]; exact d3))
      exact c7 j (by omega)
    obtain ⟨b, hb⟩ : ∃ b : Nat → Nat → Bool, ∀ i j, b i j = @decide (∃ p v, gT Gx (ga s 41 (3 * i + j)).toNatClampNeg p = v + 2) (Classical.propDecidable _) := ⟨fun i j => @decide (∃ p v, gT Gx (ga s 41 (3 * i + j)).toNatClampNeg p = v + 2) (Classical.propDecidable _), fun _ _ => rfl⟩
    have hbk : ∀ i j k, ga s 41 (3 * i + j) = nI k → k < 2 ^ 31 → (b i j = true ↔ ∃ p v, gT Gx k p = v + 2) := by
      intro i j k hk1 hk2
      rw [hb, hk1, nI_clamp hk2]
      exact @decide_eq_true_iff _ (Classical.propDecidable _)
    have hgx := hC.2.2.1
    have hop : opB s 41 Gx D gp b := by
      intro i hi hg j hj
      rw [eq] at hj
      obtain ⟨k, k1, k2⟩ := hpar i hi hg j hj
      obtain ⟨d, hd⟩ := rp_fin hR k2
      exact ⟨k, d, k1, k2.1, hd, hbk i j k k1 (by have := k2.1; omega)⟩
    obtain ⟨s1, a1, a2, a3, a4⟩ := co_all (F := F) (gp := gp) (x1 := x1) (b := b) hF h5 hdO hop h35' D F 0 s (by omega) (by omega) hC (sx_rfl _ _ _) (fun l => by rw [if_neg (fun z => by omega)])
    rw [nI_0] at a1
    obtain ⟨s2, b1, b2, b3, b4⟩ := closeC (F := F) hF a2 (lo := lo) (by rw [a3.1 307 (by decide)]; exact hs307) (by omega) (fun k hk1 hk2 => (htz k (by omega)).2 hk2)
    refine ⟨b, s2, fun K => ?_, b2, sx_tr (sx_mono (by decide) (by decide) a3) (sx_mono (by decide) (by decide) b3), b4, fun l => ?_, fun i hi hg j hj => ?_⟩
    · rw [So_countOpens, a1, bv_some, b1, bv_some]
    · rw [b3.2.1 35 (by decide), a4]
      by_cases c : l < D ∧ gp l = true
      · rw [if_pos c, if_pos c, eq]
      · rw [if_neg c, if_neg c]
    · obtain ⟨k, k1, k2⟩ := hpar i hi hg j hj
      exact ⟨k, k1, k2, hbk i j k k1 (by have := k2.1; omega)⟩
  rcases solveC (F := F) hF hcc with ⟨σ1, G1, dom1, m1, a1, a2, a3, a4, a5, a6, a7, a8, aL, a9⟩ | ⟨Ea, e, Eb, x, y, σ1, G1, dom1, m1, f', i', a1, a2, a3, a4, a5, a6, a7, a8, aL, a9, a10⟩
  · rcases solveM (F := F) hF hmm with ⟨τ1, H1, dom2, m2, b1, b2, b3, b4, b5, b6, b7⟩ | ⟨τ1, Ea', e', Eb', b1, b2, b3, b4, b5⟩
    · -- both solve
      have hRM : Rp H1 dom2 m2 (eqP (tdE σ D gp KA TT M ++ mbE σ τ D gp KA 0 TL)) := nt_Rp hnt.symm b2.2.1
      obtain ⟨b, σ2, c1, c2, c3, c4, c5, c6⟩ := count σ1 G1 dom1 m1 _ a2 a3 a6 (fun i hi hg => by rw [a4.2.1 35 (by decide)]; exact h35 i hi hg) (by rw [a4.1 400 (by decide)]; exact h4.1) (a4.2.1 29 (by decide)) (a4.2.1 32 (by decide)) (a9 hoG) (by rw [a4.1 307 (by decide)]; exact h307) aL
      obtain ⟨θ, θ', key⟩ := Rp_ren a3 hRM
      have hdP1 : dcP τ1 D := dcP_cg hdP (b3.1 52 (by decide)) (b3.2.1 33 (by decide)) (b3.2.1 36 (by decide))
      have hq36 : ∀ i, i < D → ga τ1 36 i = nI (qN σ i) ∧ qN σ i ≤ 3 := by
        intro i hi
        obtain ⟨so', q', d1, d2, d3, d4, d5, d6⟩ := hsq i hi
        obtain ⟨so, q, e1, e2, e3, e4, e5, e6, e7, e8, _⟩ := h3.2.2.2 i hi
        have : q' = q := (nI_eq (by omega) (by omega)).mp (d3.symm.trans e7)
        exact ⟨by rw [b3.2.1 36 (by decide), e8, d6, this], by omega⟩
      have hparM : ∀ i, i < D → gp i = true → ∀ j, j < qN σ i → ∃ k, ga τ1 50 (3 * i + j) = nI k ∧ rp H1 dom2 m2 k (pE i j) := by
        intro i hi hg j hj
        obtain ⟨so, q, e1, e2, e3, e4, e5, e6, e7⟩ := b5 i hi hg
        obtain ⟨w1, w2⟩ := hq36 i hi
        have : q = qN σ i := (nI_eq (by omega) (by omega)).mp (e3.symm.trans w1)
        exact e7 j (by omega)
      have hoM : opM σ τ1 H1 D gp b := by
        intro i hi hg j hj
        obtain ⟨k, k1, k2, k3⟩ := c6 i hi hg j hj
        obtain ⟨k', k1', k2'⟩ := hparM i hi hg j hj
        obtain ⟨d, hd⟩ := rp_fin hRM k2'
        obtain ⟨e1, e2⟩ := key k k' _ k2 k2'
        refine ⟨k', d, k1', k2'.1, hd, k3.trans ⟨fun ⟨p, v, hp⟩ => ?_, fun ⟨p, v, hp⟩ => ?_⟩⟩
        · obtain ⟨s, s1, _⟩ := (ren p _ _ (gT_wfT a3.1 k2.1) (gT_wfT hRM.1 k2'.1) e1 e2).2.2 v hp
          exact ⟨p, s, s1⟩
        · obtain ⟨s, s1, _⟩ := (ren p _ _ (gT_wfT hRM.1 k2'.1) (gT_wfT a3.1 k2.1) e2 e1).2.2 v hp
          exact ⟨p, s, s1⟩
      obtain ⟨τ2, d1, d2, d3, d4⟩ := om_all (F := F) (g := g) hF hdP1 hq36 (fun i hi => by rw [b3.2.1 48 (by decide)]; exact hgp i hi) hoM D F 0 τ1 (by omega) (by omega) b2.1 (sx_rfl _ _ _) (fun l => by rw [if_neg (fun z => by omega)])
      rw [nI_0] at d1
      obtain ⟨τ3, e1, e2, e3⟩ := closeH (F := F) hF d2
      have hC1 := a2
      obtain ⟨g1, g2, g3, g4, g5, g6, g7⟩ := a2
      have pr : ∀ {k k' : Nat} {ex : TE}, rp G1 dom1 m1 k ex → rp H1 dom2 m2 k' ex → pairT (clG G1) (clH H1) k k' := fun hk hk' => cl_pair a3 hRM (by omega) g4 g5 hk hk'
      have sT : sx [48] [6, 26, 27, 28, 29, 30, 49, 50, 51, 52, 53, 54] τ τ3 := sx_tr (sx_mono (by decide) (by decide) b3) (sx_tr (sx_mono (by decide) (by decide) d3) (sx_mono (by decide) (by decide) e3))
      have sC : sy [306, 307, 308, 309, 310, 807, 811, 814, 815] [23, 24, 25, 26, 27, 28, 35, 40, 41, 42, 49, 50, 51, 52, 53, 54, 56] σ σ2 := sy_tr (sy_mono (by decide) (by decide) a4) (sy_mono (by decide) (by decide) (sy_sx c3))
      refine ⟨σ2, τ3, fun K => by rw [a1, c1], by rw [b1, Md_closeGroup, d1, e1, bv_some], frGC_sy sC (by decide) (by decide), Or.inl ⟨clG G1, clH H1, c2, e2, clG_no (by rw [g5]; decide), clH_no, by rw [sC.1 200 (by decide)]; exact h2, sC.1 201 (by decide), sT, c4, a8, b7, fun k d hk hd => ?_, fun k d hk hd => ?_, fun y hy hg => ⟨?_, fun j hj => ?_⟩, fun l hl => ?_, fun l hl hg => ?_, ?_⟩⟩
      · obtain ⟨q1, q2, T, q3, q4⟩ := cl_keep h1.2.2.2.2.2.1 hoG a5 g6 hk hd
        refine ⟨q1, ?_⟩
        rw [clG_T g6 (by omega) g4 g5 q1, q2]
        funext p
        exact sT_clo p _ (gT_wfT h1.2.2.2.2.2.1 hk) (fun q => noO_cl h1.2.2.2.2.2.1 hoG q k hk)
      · obtain ⟨q1, q2, T, q3, q4⟩ := cl_keep hMS.2.2.2.1 hoH b4 b2.1.2.2.2.1 hk hd
        refine ⟨q1, ?_⟩
        rw [clH_T b2.1.2.2.2.1 q1, q2]
        funext p
        exact sT_clo p _ (gT_wfT hMS.2.2.2.1 hk) (fun q => noO_cl hMS.2.2.2.1 hoH q k hk)
      · obtain ⟨so, q, u1, u2, u3, u4, ⟨k, u5, u6⟩, _⟩ := a6 y hy hg
        obtain ⟨so', q', v1, v2, v3, v4, ⟨k', v5, v6⟩, _⟩ := b5 y hy hg
        obtain ⟨so2, q2, w1, w2, w3, w4, w5, w6, w7, w8, _⟩ := h3.2.2.2 y hy
        have es : so' = so := (nI_eq (by omega) (by omega)).mp (v1.symm.trans ((by rw [b3.2.1 33 (by decide)] : ga τ1 33 y = ga τ 33 y).trans (w4.trans (w3.symm.trans ((by rw [a4.2.1 29 (by decide)] : ga σ1 29 y = ga σ 29 y).symm.trans u1)))))
        have eq : q' = q := (nI_eq (by omega) (by omega)).mp (v3.symm.trans ((by rw [b3.2.1 36 (by decide)] : ga τ1 36 y = ga τ 36 y).trans (w8.trans (w7.symm.trans ((by rw [a4.2.1 32 (by decide)] : ga σ1 32 y = ga σ 32 y).symm.trans u3)))))
        rw [es, eq] at v6
        exact ⟨k, k', by rw [c3.2.1 40 (by decide)]; exact u5, by rw [e3.2.1 49 (by decide), d3.2.1 49 (by decide)]; exact v5, pr u6 v6⟩
      · obtain ⟨k, k1, k2, k3⟩ := c6 y hy hg j hj
        obtain ⟨k', k1', k2'⟩ := hparM y hy hg j hj
        exact ⟨k, k', by rw [c3.2.1 41 (by decide)]; exact k1, by rw [e3.2.1 50 (by decide), d3.2.1 50 (by decide)]; exact k1', pr k2 k2'⟩
      · obtain ⟨u1, u2, u3⟩ := a7 l hl
        obtain ⟨v1, v2, v3⟩ := b6 l hl
        refine ⟨by rw [c3.2.1 40 (by decide)]; exact u1, by rw [e3.2.1 49 (by decide), d3.2.1 49 (by decide)]; exact v1, by rw [c5, if_neg (fun z => by rw [hl] at z; cases z.2), a4.2.1 35 (by decide)], by rw [e3.2.1 52 (by decide), d4, if_neg (fun z => by rw [hl] at z; cases z.2), b3.2.1 52 (by decide)], fun j hj => ⟨by rw [c3.2.1 41 (by decide)]; exact u3 j hj, by rw [e3.2.1 50 (by decide), d3.2.1 50 (by decide)]; exact v3 j hj⟩⟩
      · rw [c5, if_pos ⟨hl, hg⟩, e3.2.1 52 (by decide), d4, if_pos ⟨hl, hg⟩]
      · have hsol : Sol G1 (fun k => clT (gT G1 k)) := Sol_sT _ (gT_sol a3.1)
        refine ⟨fun z => clT (gT G1 (m1 z)), fun z hz => a3.2.2.2.2 _ hsol (fun z => clT (gT G1 (m1 z))) (fun _ _ => rfl) z (by rw [eqP_app]; exact List.mem_append_right _ hz), fun y hy hgl => ?_⟩
        have key2 : ∃ k, ga σ1 40 y = nI k ∧ rp G1 dom1 m1 k (KA y) := by
          cases hgy : gp y with
          | true =>
            obtain ⟨so, q, u1, u2, u3, u4, ⟨k, u5, u6⟩, _⟩ := a6 y hy hgy
            obtain ⟨so', q', v1, v2, v3, v4, v5, v6⟩ := hsq y hy
            have x1 : so' = so := (nI_eq (by omega) (by omega)).mp (v1.symm.trans ((by rw [a4.2.1 29 (by decide)] : ga σ1 29 y = ga σ 29 y).symm.trans u1))
            have x2 : q' = q := (nI_eq (by omega) (by omega)).mp (v3.symm.trans ((by rw [a4.2.1 32 (by decide)] : ga σ1 32 y = ga σ 32 y).symm.trans u3))
            exact ⟨k, u5, by rw [h10 y hy hgy, v5, v6, x1, x2]; exact u6⟩
          | false =>
            have hl : live y = true := by
              rcases hgl with z | z
              · rw [hgy] at z; cases z
              · exact z
            obtain ⟨k, u1, u2⟩ := h9 y hy hl hgy
            exact ⟨k, by rw [(a7 y hgy).1]; exact u1, a5 _ _ u2⟩
        obtain ⟨k, x1, x2⟩ := key2
        refine ⟨k, by rw [c3.2.1 40 (by decide)]; exact x1, by have := x2.1; have := hC1.2.2.1; omega, ?_⟩
        rw [clG_T g6 (by omega) g4 g5 x2.1]
        exact x2.2 _ hsol _ (fun _ _ => rfl)
    · exfalso
      exact fail_fso hnt.symm (rvF_fail b2 b4) (fso_Rp a3)
  · rcases solveM (F := F) hF hmm with ⟨τ1, H1, dom2, m2, b1, b2, b3, b4, b5, b6, b7⟩ | ⟨τ1, Ea', e', Eb', b1, b2, b3, b4, b5⟩
    · exfalso
      have hf : fail (tdE σ D gp KA TT M ++ mbE σ τ D gp KA 0 TL) Ea e := ⟨⟨Eb, a1⟩, fso_Rp a2, nfso_Rp a2 a3 a4 a5⟩
      exact fail_fso hnt hf (fso_Rp b2.2.1)
    · -- both stop
      have hf : fail (tdE σ D gp KA TT M ++ mbE σ τ D gp KA 0 TL) Ea e := ⟨⟨Eb, a1⟩, fso_Rp a2, nfso_Rp a2 a3 a4 a5⟩
      obtain ⟨ee, en⟩ := fail_same hnt hf (rvF_fail b2 b4)
      subst ee
      obtain ⟨H1, dom2, m2, x', y', q1, q2, q3, q4, q5, q6, q7, q8, q9, q10, q11⟩ := b4
      have hRM : Rp H1 dom2 m2 (eqP Ea) := nt_Rp en.symm q2
      obtain ⟨θ, θ', key⟩ := Rp_ren a2 hRM
      obtain ⟨k1, k2⟩ := key x x' _ a3 q3
      obtain ⟨k3, k4⟩ := key y y' _ a4 q4
      obtain ⟨dx, hdx⟩ := rp_fin a2 a3
      obtain ⟨dy, hdy⟩ := rp_fin a2 a4
      have hdx' : dpt (dx + dy) (gT G1 x) := dpt_mono (by omega) hdx
      have hdy' : dpt (dx + dy) (gT G1 y) := dpt_mono (by omega) hdy
      have wx := gT_wfT a2.1 a3.1
      have wy := gT_wfT a2.1 a4.1
      have wx' := gT_wfT hRM.1 q3.1
      have wy' := gT_wfT hRM.1 q4.1
      obtain ⟨p1, p2⟩ := sides_eq wx wy wx' wy' k1 k2 k3 k4 hdx' hdy'
      have s6 : sx [200, 201] [] σ1 (si (si σ1 200 6) 201 (nI e.2.2)) := sx_si (sx_si (sx_rfl _ _ _) (by decide) _) (by decide) _
      have hC6 : CS (si (si σ1 200 6) 201 (nI e.2.2)) G1 := CS_sx s6 (by decide) (by decide) (by decide) (by decide) a6
      obtain ⟨s, c1, c2, c3, c4, c5, c6, c7, c8, c9, c10, c11, c12⟩ := sidesC (F := F) hF hC6 a3.1 a4.1 hdx' hdy'
      have hs200 : gi s 200 = 6 := by rw [c5 200 (by decide) (by decide)]; simp [zs]
      have hs201 : gi s 201 = nI e.2.2 := by rw [c5 201 (by decide) (by decide)]; simp [zs]
      have hstop : So_solveListed_2 F (f' + 1) s i' = some s := by
        have : Fa_isThere F s = some (1, s) := by rw [Fa_isThere, hs200, if_neg (by decide)]; rfl
        rw [So_solveListed_2, So_solveListed_b2, this, bi_some]
        split
        · rfl
        · rfl
      have ga_s : ∀ a, a ≠ 26 → a ≠ 28 → ga s a = ga σ1 a := fun a z1 z2 => by rw [c6 a z1 z2, s6.2.1 a (by simp)]
      have gi_s : ∀ r, r ≠ 309 → r ≠ 310 → r ≠ 200 → r ≠ 201 → gi s r = gi σ1 r := fun r z1 z2 z3 z4 => by rw [c5 r z1 z2, s6.1 r (by simp [z3, z4])]
      obtain ⟨b, σ2, d1, d2, d3, d4, d5, d6⟩ := count s G1 dom1 m1 _ c2 a2 (fun y hy hg => dkC_cg (a8 y hy hg) ⟨by rw [ga_s 29 (by decide) (by decide)], by rw [ga_s 32 (by decide) (by decide)], by rw [ga_s 40 (by decide) (by decide)], by rw [ga_s 42 (by decide) (by decide)]⟩ (fun j _ => by rw [ga_s 41 (by decide) (by decide)]) (xt_rfl _ _ _)) (fun i hi hg => by rw [ga_s 35 (by decide) (by decide), a7.2.1 35 (by decide)]; exact h35 i hi hg) (by rw [gi_s 400 (by decide) (by decide) (by decide) (by decide), a7.1 400 (by decide)]; exact h4.1) (by rw [ga_s 29 (by decide) (by decide), a7.2.1 29 (by decide)]) (by rw [ga_s 32 (by decide) (by decide), a7.2.1 32 (by decide)]) (a9 hoG) (by rw [gi_s 307 (by decide) (by decide) (by decide) (by decide), a7.1 307 (by decide)]; exact h307) aL.1
      have fr1 : frGC σ σ1 := frGC_sy a7 (by decide) (by decide)
      have fr2 : frGC σ1 s := by
        refine ⟨fun r hr => ?_, fun a ha => ?_, fun b _ => ?_, fun a => ?_, fun a => ?_, fun j j1 j2 => ?_, fun a j1 j2 => ?_, fun a => ?_⟩
        · simp at hr
          exact gi_s r (by omega) (by omega) (by omega) (by omega)
        · simp at ha
          exact ga_s a (by omega) (by omega)
        · rw [c7]; exact sx_gb s6 b
        · rw [c8]; exact sx_gl s6 a
        · rw [c9]; exact sx_gr s6 a
        · rw [c10 j j1 j2]; rw [sx_mi s6]
        · rw [c11 a j1 j2]; rw [sx_ma s6]
        · rw [c12]; exact sx_mb s6 a
      have fr3 : frGC s σ2 := frGC_sy (sy_sx d3) (by decide) (by decide)
      have ln : ∀ x P, lnR s x P → lnR σ2 x P := by
        intro x P h
        rcases h with ⟨⟨w1, w2⟩, w3⟩ | ⟨z, w1, w2, w3, w4⟩
        · exact Or.inl ⟨⟨by rw [sx_mi d3]; exact w1, fun i v hv => by rw [sx_ma d3]; exact w2 i v hv⟩, w3⟩
        · exact Or.inr ⟨z, by rw [sx_mi d3]; exact w1, w2, w3, w4⟩
      refine ⟨σ2, τ1, fun K => ?_, b1, frGC_tr fr1 (frGC_tr fr2 fr3), Or.inr ⟨⟨e.2.2, H1, x', y', dx + dy, by rw [d3.1 200 (by decide)]; exact hs200, by rw [d3.1 201 (by decide)]; exact hs201, q6, q7, q8, q1, q3.1, q4.1, q9, q10, ?_, ?_, ?_, ?_, fun w hw => (q11.2 w hw (fun z => w (m2 z)) (fun z _ => rfl))⟩, ⟨clG G1, d2, clG_no (by rw [a6.2.2.2.2.1]; decide), d4, aL.2⟩, b3, b5⟩⟩
      · rw [a10, c1, bv_some, hstop, bv_some, d1]
      · exact alk_dpt (alk_ren wx wx' k1 k2).1 hdx'
      · exact alk_dpt (alk_ren wy wy' k3 k4).1 hdy'
      · rw [← p1]; exact ln 15 _ c3
      · rw [← p2]; exact ln 16 _ c4
end A
