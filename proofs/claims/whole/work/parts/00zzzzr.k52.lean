/-! One round of groups in both. Own text. -/
theorem cN_or {p q : Nat → Bool} (h : ∀ i, ¬ (p i = true ∧ q i = true)) : ∀ n, cN (fun i => p i || q i) n = cN p n + cN q n
  | 0 => rfl
  | n + 1 => by
    rw [cN, cN, cN, cN_or h n]
    have := h n
    cases hp : p n <;> cases hq : q n <;> simp_all <;> omega
theorem wT_or {p q : Nat → Bool} (h : ∀ i, ¬ (p i = true ∧ q i = true)) : ∀ l : List TR, wT (fun i => p i || q i) l = wT p l + wT q l
  | [] => rfl
  | (o, t, nn, As, me) :: l => by
    rw [wT, wT, wT, wT_or h l]
    have := h o
    cases hp : p o <;> cases hq : q o <;> simp_all <;> omega
theorem wA_or {p q : Nat → Bool} (h : ∀ i, ¬ (p i = true ∧ q i = true)) : ∀ l : List TR, wA (fun i => p i || q i) l = wA p l + wA q l
  | [] => rfl
  | (o, t, nn, As, me) :: l => by
    rw [wA, wA, wA, wA_or h l]
    have := h o
    cases hp : p o <;> cases hq : q o <;> simp_all <;> omega
theorem wA_le (gp : Nat → Bool) : ∀ l : List TR, wA gp l ≤ actT l
  | [] => Nat.le_refl _
  | (o, t, nn, As, me) :: l => by
    rw [wA, actT]
    have := wA_le gp l
    split <;> omega
/-- what is done before round k -/
def dnK (Nn : Nat → Nat → Bool) (D k y : Nat) : Bool := decide (y < D) && (gS Nn D k y).isSome
def dPr (σ τ : zS) (G H : SG) (y : Nat) : Prop := (∃ k k', ga σ 40 y = nI k ∧ ga τ 49 y = nI k' ∧ pairT G H k k') ∧ (∀ j, j < qN σ y → ∃ k k', ga σ 41 (3 * y + j) = nI k ∧ ga τ 50 (3 * y + j) = nI k' ∧ pairT G H k k') ∧ ga σ 35 y = ga τ 52 y
def GK (σ τ : zS) (G H : SG) (Nn : Nat → Nat → Bool) (D M N : Nat) (TL : List TR) (S R k : Nat) : Prop := TS σ τ D M N TL ∧ CS σ G ∧ MS τ H ∧ noO G ∧ noO H ∧ (∃ lo, gi σ 307 = nI lo ∧ 1 ≤ lo ∧ lo ≤ gn G ∧ (0 < k → lo = gn G)) ∧ gi σ 200 = 0 ∧ gi τ 8 = 0 ∧ (0 < gn H ∧ gT H 0 = iS) ∧ (∀ y, dnK Nn D k y = true → dPr σ τ G H y) ∧ (∀ y, y < D → dnK Nn D k y = false → ga σ 35 y = 0) ∧ (∀ i, i < M → ga σ 43 i = 4 → ∃ a a', ga σ 47 i = nI a ∧ ga τ 44 (c4 σ i) = nI a' ∧ pairT G H a a') ∧ gn G ≤ S + 7 * cN (dnK Nn D k) D + 3 * wT (dnK Nn D k) TL ∧ gn H ≤ R + 7 * cN (dnK Nn D k) D + cN (lfG τ (dnK Nn D k)) N + 2 * wA (dnK Nn D k) TL ∧ S ≤ 401 ∧ R ≤ 401 ∧ WKD σ D G TL (dnK Nn D k)
section A
variable {F : Nat} {σ τ : zS} {G H : SG} {D M N S R k i : Nat} {TL : List TR} {x1 : Int32} {Nn : Nat → Nat → Bool}
theorem pairT_TE (hG : wfG G) (hnG : noO G) {a a' : Nat} (h : pairT G H a a') : ∃ T : TE, ∀ α, ev α T = gT G a := by
  obtain ⟨h1, h2, h3, d, hd⟩ := h
  exact tree_TE d _ (gT_wfT hG h1) hd (fun p => noO_cl hG hnG p a h1)
theorem round_ok (hF : 20000 ≤ F) (hN : Nn = cw (nbA σ D M) D) (h : GK σ τ G H Nn D M N TL S R k) (hl : ld Nn D k = some i) (hx : mS1 x1 (fun j => decide (j < D) && tg Nn i j)) (hgR : gR τ D (gS Nn D (k + 1))) (hk16 : k < 16) : ∃ σ' τ', (∀ {β : Type} (K : zS → Option β), bv (So_makeKinds F (si σ 807 0) x1) (fun σ7 => bv (So_listTold F σ7 x1) (fun σ9 => bv (So_listMembers F σ9 x1) (fun σ11 => bv (So_solveListed F σ11) (fun σ13 => bv (So_countOpens F σ13 x1) (fun σ15 => bv (Ki_closeGroup F σ15) K))))) = K σ') ∧ Md_solve F τ (nI k) = some τ' ∧ frGC σ σ' ∧ ((∃ G' H', GK σ' τ' G' H' Nn D M N TL S R (k + 1) ∧ gi σ' 201 = gi σ 201 ∧ sx [48] [6, 26, 27, 28, 29, 30, 49, 50, 51, 52, 53, 54] τ τ') ∨ (six σ' τ' ∧ (∃ G', CS σ' G' ∧ noO G' ∧ gi σ' 307 = nI (gn G') ∧ gn G' ≤ 1113) ∧ sx [8, 9, 10, 48, 79, 80] [6, 26, 27, 28, 29, 30, 49, 50, 51, 53, 54] τ τ' ∧ knd τ' 3000)) := by
  have hTS := h.1
  obtain ⟨h1, h2, h3, h4, h5, ⟨lo, h6, h6a, h6b, h6c⟩, h7, h8, ⟨h9, h9'⟩, h10, h11, h12, h13, h14, h15, h16, hWD⟩ := h
  obtain ⟨⟨a1, a2, a3⟩, ⟨b1, b2⟩, ⟨c1, c2⟩, d1, e1, ⟨f1, f2, f3, f4, f5, f6, f7⟩, ⟨g1, g2, g3, g4, g5, g6, g7⟩, ⟨i1, i2⟩, ⟨j1, j2⟩, k1⟩ := hTS
  have hD := a2.2.1
  have hA : ∀ i j, nbA σ D M i j = true → i < D ∧ j < D := nbA_out M
  have tr : ∀ i k j, Nn i k = true → Nn k j = true → Nn i j = true := by
    intro i k j q1 q2
    rw [hN] at q1 q2 ⊢
    exact cw_tr hA q1 q2
  have nbN : ∀ i j, nbA σ D M i j = true → Nn i j = true := by
    intro i j hij
    rw [hN]
    have : ∀ m, cw (nbA σ D M) m i j = true := by
      intro m
      induction m with
      | zero => exact hij
      | succ m ih => rw [cw_s, ih]; rfl
    exact this D
  obtain ⟨gp, hgp⟩ : ∃ gp : Nat → Bool, gp = fun j => decide (j < D) && tg Nn i j := ⟨_, rfl⟩
  obtain ⟨dn, hdn⟩ : ∃ dn : Nat → Bool, dn = dnK Nn D k := ⟨_, rfl⟩
  have gpD : ∀ j, gp j = true → j < D ∧ tg Nn i j = true := by
    intro j hj
    rw [hgp] at hj
    simpa using hj
  have disj : ∀ j, ¬ (dn j = true ∧ gp j = true) := by
    intro j ⟨q1, q2⟩
    have := gS_new tr hl (gpD j q2).2
    rw [hdn] at q1
    unfold dnK at q1
    rw [this] at q1
    simp at q1
  have dn1 : dnK Nn D (k + 1) = fun j => dn j || gp j := by
    funext j
    rw [hdn, hgp]
    unfold dnK
    rw [gS_s Nn D k hl]
    by_cases c : tg Nn i j = true
    · rw [if_pos c]; show _ = (_ || (decide (j < D) && tg Nn i j)); rw [c]; cases decide (j < D) <;> simp
    · have hc : tg Nn i j = false := by cases hc : tg Nn i j <;> simp_all
      rw [if_neg c]; show _ = (_ || (decide (j < D) && tg Nn i j)); rw [hc]; simp
  have hel := (fst1_s D 0 i hl).2.2.1
  have iD : i < D := by have := (fst1_s D 0 i hl).2.1; omega
  obtain ⟨live, hlive⟩ : ∃ live : Nat → Bool, live = fun y => dn y || gp y := ⟨_, rfl⟩
  have clos : ∀ o y, gp o = true → y < D → nbA σ D M o y = true → live y = true := by
    intro o y ho hy hn
    have hNo := nbN o y hn
    have hNi : Nn i y = true := by
      rcases tg_iff.mp (gpD o ho).2 with z | z
      · rw [z]; exact hNo
      · exact tr i o y z.1 hNo
    unfold el at hel
    simp only [Bool.and_eq_true] at hel
    have h2 := List.all_eq_true.mp hel.2 y (List.mem_range.mpr hy)
    rw [hNi] at h2
    rw [hlive, hdn, hgp]
    unfold dnK
    cases hc : tg Nn i y <;> cases hc2 : (gS Nn D k y).isSome <;> simp_all
  have hwG := h2.2.2.2.2.2.1
  have hwH := h3.2.2.2.1
  -- the expressions of what is done
  have exT : ∀ y, ∃ T : TE, dn y = true → ∀ a, ga σ 40 y = nI a → a < 2 ^ 31 → ∀ α, ev α T = gT G a := by
    intro y
    cases hy : dn y with
    | false => exact ⟨.var 0, fun z => by cases z⟩
    | true =>
      rw [hdn] at hy
      obtain ⟨⟨a, a', q1, q2, q3⟩, _⟩ := h10 y hy
      obtain ⟨T, hT⟩ := pairT_TE hwG h4 q3
      refine ⟨T, fun _ b hb hb2 => ?_⟩
      have hgn := h2.2.2.1
      have := q3.1
      have : a = b := (nI_eq (by omega) hb2).mp (q1.symm.trans hb)
      rw [← this]; exact hT
  obtain ⟨TA, hTA⟩ := Classical.axiomOfChoice exT
  have exU : ∀ m, ∃ T : TE, m < M → ga σ 43 m = 4 → ∀ a, ga σ 47 m = nI a → a < 2 ^ 31 → ∀ α, ev α T = gT G a := by
    intro m
    by_cases hm : m < M ∧ ga σ 43 m = 4
    · obtain ⟨a, a', q1, q2, q3⟩ := h12 m hm.1 hm.2
      obtain ⟨T, hT⟩ := pairT_TE hwG h4 q3
      refine ⟨T, fun _ _ b hb hb2 => ?_⟩
      have hgn := h2.2.2.1
      have := q3.1
      have : a = b := (nI_eq (by omega) hb2).mp (q1.symm.trans hb)
      rw [← this]; exact hT
    · exact ⟨.var 0, fun z1 z2 => absurd ⟨z1, z2⟩ hm⟩
  obtain ⟨TT, hTT⟩ := Classical.axiomOfChoice exU
  obtain ⟨KA, hKA⟩ : ∃ KA : Nat → TE, KA = fun y => if gp y = true then wE (soN σ y) (qN σ y) y else TA y := ⟨_, rfl⟩
  have hgnG := h2.2.2.1
  have hgnH := h3.2.2.1
  have oldP : ∀ y, live y = true → gp y = false → ∃ a a', ga σ 40 y = nI a ∧ ga τ 49 y = nI a' ∧ pairT G H a a' ∧ (∀ α, ev α (KA y) = gT G a) := by
    intro y hl hg
    have hd : dn y = true := by rw [hlive] at hl; simpa [hg] using hl
    have hd' := hd
    rw [hdn] at hd'
    obtain ⟨⟨a, a', q1, q2, q3⟩, _⟩ := h10 y hd'
    refine ⟨a, a', q1, q2, q3, ?_⟩
    rw [hKA]
    show ∀ α, ev α (if gp y = true then _ else TA y) = _
    rw [if_neg (by rw [hg]; decide)]
    exact hTA y hd a q1 (by have := q3.1; omega)
  have toldP : ∀ m, m < M → ga σ 43 m = 4 → ∃ a a', ga σ 47 m = nI a ∧ ga τ 44 (c4 σ m) = nI a' ∧ pairT G H a a' ∧ (∀ α, ev α (TT m) = gT G a) := by
    intro m hm hr
    obtain ⟨a, a', q1, q2, q3⟩ := h12 m hm hr
    exact ⟨a, a', q1, q2, q3, hTT m hm hr a q1 (by have := q3.1; omega)⟩
  have lenT200 := wT_le (fun i => dn i || gp i) TL
  have lenA200 := wA_le (fun i => dn i || gp i) TL
  have cD16 := cN_le (fun i => dn i || gp i) D
  have cN400 := cN_le (fun n => lfG τ dn n || lfG τ gp n) N
  have disjL : ∀ n, ¬ (lfG τ dn n = true ∧ lfG τ gp n = true) := by
    intro n ⟨q1, q2⟩
    unfold lfG at q1 q2
    simp at q1 q2
    exact disj _ ⟨q1.2, q2.2⟩
  have elfG : lfG τ (fun j => dn j || gp j) = fun n => lfG τ dn n || lfG τ gp n := by
    funext n
    unfold lfG
    cases isLf τ n <;> simp
  rw [wT_or disj] at lenT200
  rw [wA_or disj] at lenA200
  rw [cN_or disj] at cD16
  rw [cN_or disjL] at cN400
  rw [← hdn] at h13 h14
  have hc : grC σ τ G D M gp live KA TT TL x1 := by
    refine ⟨h2, h7, a1, a2, by rw [hgp]; exact hx, ⟨fun m o y q1 q2 q3 q4 q5 q6 q7 => clos o y q5 q6 (i1 m o y q1 q2 q3 q4 q6 q7), i2⟩, b1, b2, fun y hy hl hg => ?_, fun y hy hg => by rw [hKA]; exact if_pos hg, fun m hm hr => ?_, by rw [td_N]; exact e1 gp, f1, f2, f3, f4, f5, f6, f7, g4, g5, by omega⟩
    · obtain ⟨a, a', q1, q2, q3, q4⟩ := oldP y hl hg
      exact ⟨a, q1, rp_clo hwG h4 q3.1 q4 _ _⟩
    · obtain ⟨a, a', q1, q2, q3, q4⟩ := toldP m hm hr
      exact ⟨a, q1, rp_clo hwG h4 q3.1 q4 _ _⟩
  have h48 : ∀ j, j < D → (ga τ 48 j = nI k ↔ gp j = true) := by
    intro j hj
    rw [hgR j hj, gS_s Nn D k hl, hgp]
    by_cases c : tg Nn i j = true
    · rw [if_pos c]
      simp [eO, c, hj]
    · rw [if_neg c]
      have hf : (decide (j < D) && tg Nn i j) = false := by cases hc : tg Nn i j <;> simp_all
      constructor
      · intro z
        exfalso
        cases hg : gS Nn D k j with
        | none =>
          rw [hg] at z
          exact nI_m1 k (by omega) z.symm
        | some x =>
          rw [hg] at z
          have hx := gS_lt k j x hg
          have : x = k := (nI_eq (by omega) (by omega)).mp z
          omega
      · intro z
        have z' : (decide (j < D) && tg Nn i j) = true := z
        rw [hf] at z'; cases z'
  have htm : tmL σ τ D N gp KA (lfG τ gp) (lfX σ τ D KA) 0 TL := by
    have : ∀ (l : List TR) (j s lo : Nat), cTL σ M j s l → soL D lo l → tmL σ τ D N gp KA (lfG τ gp) (lfX σ τ D KA) j l := by
      intro l
      induction l with
      | nil => intro j s lo _ _; trivial
      | cons e l ih =>
        intro j s lo hc hso
        obtain ⟨o, t, nn, As, me⟩ := e
        obtain ⟨⟨u1, u2, u3, u4, u5⟩, u6⟩ := hc
        obtain ⟨v1, v2, v3⟩ := hso
        refine ⟨⟨u3, fun c n hcl hn q1 q2 q3 q4 hg => ?_⟩, ih _ _ _ u6 v3⟩
        have hb : lfB c < 2 := by unfold lfB; omega
        have onL : nL τ n = o := by unfold nL; rw [q3, nI_clamp (by omega)]
        refine ⟨?_, ?_⟩
        · unfold lfG isLf
          rw [onL, hg, q1]
          rcases Nat.lt_or_ge (lfB c) 1 with z | z
          · rw [show lfB c = 0 by omega]; simp [nI_0]
          · rw [show lfB c = 1 by omega]
            have : nI 1 = (1 : Int32) := rfl
            simp [this]
        · unfold lfX
          rw [kE, q1, q2, q3, q4, onL]
          by_cases z : lfB c = 0
          · rw [if_pos (by rw [z]; exact nI_0), if_pos z]
          · rw [if_neg (nI_ne0 (by omega) (by omega)), if_neg z]
            by_cases ck : ga σ 29 o = 2
            · have : keyP σ o j = nI o := by unfold keyP; rw [if_pos ck]
              rw [this]
            · obtain ⟨m, m1, m2, m3, m4⟩ := u5.1 c hcl
              rw [if_neg z] at m2
              have hp := i2 m o m1 m2 m4 v2 ck
              rw [m3] at hp
              unfold smF
              rw [if_neg hp, if_neg hp]
    exact this TL 0 0 0 f1 f6
  have hm : grM σ τ H N D M k gp live KA TT TL := by
    refine ⟨h3, ⟨h9, fun w hv α _ => by rw [sol_noO hwH h5 hv h9]; exact h9'⟩, h8, k1, a1, a3, h48, ⟨j1, fun n hn hl => ?_⟩, g6, by omega, fun y hy hl hg => ?_, fun y hy hg => by rw [hKA]; exact if_pos hg, ⟨c1, b2, c2⟩, fun m hm hr => ?_, f6, htm, g1, g2, by omega, g4, g5, by omega⟩
    · obtain ⟨o, o1, o2, o3⟩ := j2 n hn hl
      refine ⟨o, o1, o2, fun z => (o3 z).imp id (fun ⟨y, y1, y2, y3⟩ => ⟨y, y1, y2, fun hg => clos o y hg y1 y3⟩)⟩
    · obtain ⟨a, a', q1, q2, q3, q4⟩ := oldP y hl hg
      exact ⟨a', q2, rp_clo hwH h5 q3.2.1 (fun α => by rw [q4 α]; exact q3.2.2.1) _ _⟩
    · obtain ⟨q1, q2, q3⟩ := d1 m hm hr
      obtain ⟨a, a', p1, p2, p3, p4⟩ := toldP m hm hr
      exact ⟨q1, q2, q3, a', p2, rp_clo hwH h5 p3.2.1 (fun α => by rw [p4 α]; exact p3.2.2.1) _ _⟩
  have h35 : ∀ y, y < D → gp y = true → ga σ 35 y = 0 := by
    intro y hy hg
    refine h11 y hy ?_
    rw [← hdn]
    cases hc : dn y with
    | false => rfl
    | true => exact absurd ⟨hc, hg⟩ (disj y)
  obtain ⟨σ', τ', r1, r2, r3, r4⟩ := grp_step (F := F) hF hc hm h4 h5 h6 h6b h35
  refine ⟨σ', τ', r1, r2, r3, ?_⟩
  rcases r4 with ⟨G', H', s1, s2, s3, s4, s5, s6, s7, s8, s9, s10, s11, s12, s13, s14, s15, s16⟩ | r4
  · refine Or.inl ⟨G', H', ⟨TS_cg h1 (frGC_S r3) (trS_sx s7 (by decide) (by decide)), s1, s2, s3, s4, ⟨gn G', s8, s1.2.1, Nat.le_refl _, fun _ => rfl⟩, s5, by rw [s7.1 8 (by decide)]; exact h8, ?_, fun y hy => ?_, fun y hy hn => ?_, fun m hm' hr => ?_, ?_, ?_, h15, h16, ?_⟩, s6, s7⟩
    · have := s12 0 0 h9 (by rw [h9']; exact dpt_S 0)
      exact ⟨by omega, by rw [this.2, h9']⟩
    · rw [dn1] at hy
      have eq : qN σ' y = qN σ y := by unfold qN; rw [r3.2.1 32 (by decide)]
      unfold dPr
      rw [eq]
      cases hg : gp y with
      | true =>
        obtain ⟨p1, p2⟩ := s13 y (gpD y hg).1 hg
        exact ⟨p1, p2, s15 y (gpD y hg).1 hg⟩
      | false =>
        have hd : dn y = true := by simpa [hg] using hy
        rw [hdn] at hd
        obtain ⟨⟨a, a', q1, q2, q3⟩, q4, q5⟩ := h10 y hd
        obtain ⟨t1, t2, t3, t4, t5⟩ := s14 y hg
        have keep : ∀ a a', pairT G H a a' → pairT G' H' a a' := by
          intro a a' ⟨w1, w2, w3, d, w4⟩
          obtain ⟨v1, v2⟩ := s11 a d w1 w4
          obtain ⟨v3, v4⟩ := s12 a' d w2 (by rw [← w3]; exact w4)
          exact ⟨v1, v3, by rw [v2, v4, w3], d, by rw [v2]; exact w4⟩
        refine ⟨⟨a, a', by rw [t1]; exact q1, by rw [t2]; exact q2, keep a a' q3⟩, fun j hj => ?_, by rw [t3, t4]; exact q5⟩
        obtain ⟨b, b', p1, p2, p3⟩ := q4 j hj
        obtain ⟨so, q, w1, w2, w3, w4, _⟩ := a2.2.2 y (by unfold dnK at hd; simp at hd; exact hd.1)
        have hq3 : qN σ y = q := by unfold qN; rw [w3, nI_clamp (by omega)]
        obtain ⟨t6, t7⟩ := t5 j (by omega)
        exact ⟨b, b', by rw [t6]; exact p1, by rw [t7]; exact p2, keep b b' p3⟩
    · rw [dn1] at hn
      have hn2 : dn y = false ∧ gp y = false := by simpa using hn
      obtain ⟨t1, t2, t3, t4, t5⟩ := s14 y hn2.2
      rw [t3]
      exact h11 y hy (by rw [← hdn]; exact hn2.1)
    · rw [r3.2.1 43 (by decide)] at hr
      obtain ⟨a, a', q1, q2, w1, w2, w3, d, w4⟩ := h12 m hm' hr
      obtain ⟨v1, v2⟩ := s11 a d w1 w4
      obtain ⟨v3, v4⟩ := s12 a' d w2 (by rw [← w3]; exact w4)
      have ec : c4 σ' m = c4 σ m := c4_fr m (fun j _ => by rw [r3.2.1 43 (by decide)])
      exact ⟨a, a', by rw [r3.2.1 47 (by decide)]; exact q1, by rw [ec, s7.2.1 44 (by decide)]; exact q2, v1, v3, by rw [v2, v4, w3], d, by rw [v2]; exact w4⟩
    · rw [dn1, cN_or disj, wT_or disj]; omega
    · have e1 : lfG τ' (fun j => dn j || gp j) = fun n => lfG τ dn n || lfG τ gp n := by
        rw [lfG_cg (s7.2.1 2 (by decide)) (s7.2.1 4 (by decide)), elfG]
      rw [dn1, e1, cN_or disj, cN_or disjL, wA_or disj]; omega
    · have hTO : ∀ (l : List TR) (j s lo : Nat), cTL σ M j s l → soL D lo l → ∀ o t nn As me, (o, t, nn, As, me) ∈ l → okT t ∧ lfM σ M o t ∧ o < D := by
        intro l
        induction l with
        | nil => intro j s lo _ _ o t nn As me he; cases he
        | cons e l ih =>
          intro j s lo hc hso o t nn As me he
          obtain ⟨o', t', nn', As', me'⟩ := e
          obtain ⟨⟨u1, u2, u3, u4, u5⟩, u6⟩ := hc
          rcases List.mem_cons.mp he with z | z
          · cases z; exact ⟨u3, u5, hso.2.1⟩
          · exact ih _ _ _ u6 hso.2.2 o t nn As me z
      have e29 : ga σ' 29 = ga σ 29 := r3.2.1 29 (by decide)
      have e32 : ga σ' 32 = ga σ 32 := r3.2.1 32 (by decide)
      have b30 : gb σ' 30 = gb σ 30 := r3.2.2.1 30 (by decide)
      have b33 : gb σ' 33 = gb σ 33 := r3.2.2.1 33 (by decide)
      intro o t nn As me hm ho h29
      obtain ⟨ok, olf, oD⟩ := hTO TL 0 0 0 f1 f6 o t nn As me hm
      rw [e29] at h29
      rw [dn1] at ho ⊢
      cases hgo : gp o with
      | true =>
        have hl : ∀ c, c ∈ lvs t → lfB c = 0 → fTy σ (lfN c) D 0 = -1 ∨ ∃ y, y < D ∧ fTy σ (lfN c) D 0 = nI y ∧ live y = true := by
          intro c hc hb
          rcases fTy_rng σ (lfN c) D 0 with z | ⟨y, y1, y2, y3, _⟩
          · exact Or.inl z
          · obtain ⟨m, m1, m2, m3, m4⟩ := olf.1 c hc
            rw [if_pos hb] at m2
            exact Or.inr ⟨y, by omega, y3, clos o y hgo (by omega) (i1 m o y m1 m2 m4 oD (by omega) (by rw [m3]; exact y3))⟩
        obtain ⟨so, q, w1, w2, w3, w4, _⟩ := a2.2.2 o oD
        have hq3 : qN σ o ≤ 3 := by unfold qN; rw [w3, nI_clamp (by omega)]; exact w4
        refine ⟨fun c hc hb => ?_, wkd_new hD s16 hm ok oD hgo h29 (by rw [hKA]; exact if_pos hgo) hq3 hl e29 e32 b30 b33⟩
        rcases hl c hc hb with z | ⟨y, y1, y2, y3⟩
        · exact Or.inl (by rw [fTy_cg e29 b30]; exact z)
        · exact Or.inr ⟨y, y1, by rw [fTy_cg e29 b30]; exact y2, by rw [hlive] at y3; exact y3⟩
      | false =>
        have hdo : dn o = true := by simpa [hgo] using ho
        obtain ⟨x1, pks, r, fv, x2, x3, x4, x5⟩ := hWD o t nn As me hm (by rw [← hdn]; exact hdo) h29
        have keepK : ∀ y, y < D → dn y = true → gT G' (ga σ' 40 y).toNatClampNeg = gT G (ga σ 40 y).toNatClampNeg := by
          intro y hy hd
          have hgy : gp y = false := by
            cases hc : gp y with
            | false => rfl
            | true => exact absurd ⟨hd, hc⟩ (disj y)
          have hd' := hd
          rw [hdn] at hd'
          obtain ⟨⟨a, a', q1, q2, q3⟩, _⟩ := h10 y hd'
          obtain ⟨w1, w2, w3, d, w4⟩ := q3
          rw [(s14 y hgy).1, q1, nI_clamp (by omega)]
          exact (s11 a d w1 w4).2
        have eqn : qN σ' o = qN σ o := by unfold qN; rw [e32]
        refine ⟨fun c hc hb => ?_, pks, r, fv, by rw [eqn]; exact x2, by rw [keepK o oD hdo]; exact x3, WT_cg t r (fun c hc => ?_) x4, fun v j hv hj => ?_⟩
        · rcases x1 c hc hb with z | ⟨y, y1, y2, y3⟩
          · exact Or.inl (by rw [fTy_cg e29 b30]; exact z)
          · rw [← hdn] at y3
            exact Or.inr ⟨y, y1, by rw [fTy_cg e29 b30]; exact y2, by show (dn y || gp y) = true; rw [y3]; rfl⟩
        · unfold lkQ
          by_cases z : lfB c = 0
          · rw [if_pos z, if_pos z]
            unfold kT
            rw [fTy_cg e29 b30]
            rcases x1 c hc z with u | ⟨y, y1, y2, y3⟩
            · rw [if_pos u, if_pos u]
            · have hne : ¬ fTy σ (lfN c) D 0 = -1 := by rw [y2]; exact nI_m1 y (by omega)
              rw [if_neg hne, if_neg hne, y2, nI_clamp (by omega)]
              rw [← hdn] at y3
              exact keepK y y1 y3
          · rw [if_neg z, if_neg z]
        · rw [eqn] at hv hj
          rw [fPa_cg b33] at hv
          exact x5 v j hv hj
  · obtain ⟨u1, ⟨G', u2, u3, u4, u5⟩, u6, u7⟩ := r4
    have e1 := cN_or disj D
    have e2 := wT_or disj TL
    have e3 := cN_le (fun i => dn i || gp i) D
    have e4 := wT_le (fun i => dn i || gp i) TL
    have e5 := cN_le dn D
    have e6 := cN_le gp D
    have e7 := cN_le (lfG τ dn) N
    have e8 := cN_le (lfG τ gp) N
    have e9 := wA_le dn TL
    have e10 := wA_le gp TL
    exact Or.inr ⟨u1, ⟨G', u2, u3, u4, by omega⟩, u6, knd_mo u7 (by omega)⟩
end A
