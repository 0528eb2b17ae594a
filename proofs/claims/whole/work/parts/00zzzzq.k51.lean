/-! A text that has been read, as the solvers see it. Own text. -/
def TS (σ τ : zS) (D M N : Nat) (TL : List TR) : Prop :=
  (dcN σ τ D ∧ dcO σ D ∧ dcP τ D) ∧ (gi σ 505 = nI M ∧ M ≤ 600) ∧ (gi τ 62 = nI (c4 σ M) ∧ c4 σ M ≤ 300) ∧ (∀ i, i < M → ga σ 43 i = 4 → fDe σ (gb σ 44 i) D 0 ≠ -1 ∧ gb τ 42 (c4 σ i) = gb σ 44 i ∧ ga τ 43 (c4 σ i) = ga σ 45 i) ∧ (∀ gp : Nat → Bool, (tdN σ D gp M).length ≤ 16) ∧ (cTL σ M 0 0 TL ∧ mi σ 1007 = nI TL.length ∧ mi σ 1004 = nI (lenT TL) ∧ lenT TL ≤ 200 ∧ TL.length ≤ 200 ∧ soL D 0 TL ∧ mMe σ 0 TL) ∧ (mTL τ N 0 0 TL ∧ AB τ D TL ∧ actT TL ≤ 200 ∧ (alA τ TL).Nodup ∧ (∀ x, x ∈ alA τ TL → x < 1000) ∧ gi τ 16 = nI N ∧ N ≤ 400) ∧ ((∀ i o y, i < M → ga σ 43 i = 5 → ga σ 46 i = nI o → o < D → y < D → fTy σ (gb σ 44 i) D 0 = nI y → nbA σ D M o y = true) ∧ (∀ i o, i < M → ga σ 43 i = 6 → ga σ 46 i = nI o → o < D → ga σ 29 o ≠ 2 → fPa σ o (gb σ 44 i) (qN σ o) 0 ≠ -1)) ∧ (fTy σ 4812404 D 0 = -1 ∧ ∀ n, n < N → isLf τ n = true → ∃ o, o < D ∧ ga τ 4 n = nI o ∧ (ga τ 2 n = 0 → gb τ 3 n = 4812404 ∨ ∃ y, y < D ∧ fTy σ (gb τ 3 n) D 0 = nI y ∧ nbA σ D M o y = true)) ∧ gi τ 49 = 0
theorem nbA_cg {σ σ' : zS} {D : Nat} (h1 : ga σ' 43 = ga σ 43) (h2 : ga σ' 46 = ga σ 46) (h3 : ga σ' 29 = ga σ 29) (h4 : gb σ' 44 = gb σ 44) (h5 : gb σ' 30 = gb σ 30) : ∀ m i j, nbA σ' D m i j = nbA σ D m i j := by
  intro m
  induction m with
  | zero => intro i j; rfl
  | succ m ih => intro i j; simp only [nbA, ih, h1, h2, h4, fTy_cg h3 h5]
/-- what the solvers leave alone -/
def trS (τ τ' : zS) : Prop := (∀ r, r = 52 ∨ r = 62 ∨ r = 16 ∨ r = 49 → gi τ' r = gi τ r) ∧ (∀ a, a = 2 ∨ a = 4 ∨ a = 5 ∨ a = 7 ∨ a = 8 ∨ a = 9 ∨ a = 33 ∨ a = 35 ∨ a = 36 ∨ a = 39 ∨ a = 40 ∨ a = 41 ∨ a = 43 → ga τ' a = ga τ a) ∧ ∀ b, gb τ' b = gb τ b
theorem trS_sx {I A : List Nat} {τ τ' : zS} (h : sx I A τ τ') (hI : 52 ∉ I ∧ 62 ∉ I ∧ 16 ∉ I ∧ 49 ∉ I) (hA : ∀ a, a ∈ A → ¬ (a = 2 ∨ a = 4 ∨ a = 5 ∨ a = 7 ∨ a = 8 ∨ a = 9 ∨ a = 33 ∨ a = 35 ∨ a = 36 ∨ a = 39 ∨ a = 40 ∨ a = 41 ∨ a = 43)) : trS τ τ' :=
  ⟨fun r hr => h.1 r (by rcases hr with z | z | z | z <;> subst z; exact hI.1; exact hI.2.1; exact hI.2.2.1; exact hI.2.2.2), fun a ha => h.2.1 a (fun z => hA a z ha), fun b => sx_gb h b⟩
/-- as frGC, and more may change -/
def frS (σ σ' : zS) : Prop := (∀ r, r ∉ [101, 200, 201, 306, 307, 308, 309, 310, 412, 807, 811, 814, 815] → gi σ' r = gi σ r) ∧ (∀ a, a ∉ [23, 24, 25, 26, 27, 28, 35, 36, 37, 38, 39, 40, 41, 42, 48, 49, 50, 51, 52, 53, 54, 56] → ga σ' a = ga σ a) ∧ (∀ b, b ≠ 55 → gb σ' b = gb σ b) ∧ (∀ j, j ≠ 1501 → j ≠ 1601 → mi σ' j = mi σ j) ∧ (∀ a, a ≠ lA 15 → a ≠ lA 16 → ma σ' a = ma σ a) ∧ (∀ a, mb σ' a = mb σ a)
theorem frGC_S {σ σ' : zS} (h : frGC σ σ') : frS σ σ' := by
  obtain ⟨a1, a2, a3, a4, a5, a6, a7, a8⟩ := h
  exact ⟨fun r hr => a1 r (fun z => hr ((show ∀ r, r ∈ [200, 201, 306, 307, 308, 309, 310, 807, 811, 814, 815] → r ∈ [101, 200, 201, 306, 307, 308, 309, 310, 412, 807, 811, 814, 815] from by decide) r z)), fun a ha => a2 a (fun z => ha ((show ∀ a, a ∈ [23, 24, 25, 26, 27, 28, 35, 40, 41, 42, 49, 50, 51, 52, 53, 54, 56] → a ∈ [23, 24, 25, 26, 27, 28, 35, 36, 37, 38, 39, 40, 41, 42, 48, 49, 50, 51, 52, 53, 54, 56] from by decide) a z)), a3, a6, a7, a8⟩
theorem TS_cg {σ σ' τ τ' : zS} {D M N : Nat} {TL : List TR} (h : TS σ τ D M N TL) (hs : frS σ σ') (ht : trS τ τ') : TS σ' τ' D M N TL := by
  obtain ⟨⟨a1, a2, a3⟩, ⟨b1, b2⟩, ⟨c1, c2⟩, d1, e1, ⟨f1, f2, f3, f4, f5, f6, f7⟩, ⟨g1, g2, g3, g4, g5, g6, g7⟩, ⟨h1, h2⟩, ⟨i1, i2⟩, j1⟩ := h
  have A : ∀ a, a ∉ [23, 24, 25, 26, 27, 28, 35, 36, 37, 38, 39, 40, 41, 42, 48, 49, 50, 51, 52, 53, 54, 56] → ga σ' a = ga σ a := hs.2.1
  have B : ∀ b, b ≠ 55 → gb σ' b = gb σ b := hs.2.2.1
  have T := ht.2.1
  have fT : ∀ v, fTy σ' v D 0 = fTy σ v D 0 := fun v => fTy_cg (A 29 (by decide)) (B 30 (by decide)) v D 0
  have fD : ∀ v, fDe σ' v D 0 = fDe σ v D 0 := fun v => fDe_cg (B 30 (by decide)) v D 0
  have qq : ∀ o, qN σ' o = qN σ o := by intro o; unfold qN; rw [A 32 (by decide)]
  have fP : ∀ o v q, fPa σ' o v q 0 = fPa σ o v q 0 := fun o v q => fPa_cg (B 33 (by decide)) o v q 0
  have cc : ∀ i, c4 σ' i = c4 σ i := fun i => c4_fr i (fun j _ => by rw [A 43 (by decide)])
  have nb := nbA_cg (D := D) (A 43 (by decide)) (A 46 (by decide)) (A 29 (by decide)) (B 44 (by decide)) (B 30 (by decide))
  have okL : ∀ e, e ∈ TL → okT e.2.1 := by
    have : ∀ (l : List TR) (j s : Nat), cTL σ M j s l → ∀ e, e ∈ l → okT e.2.1 := by
      intro l
      induction l with
      | nil => intro j s _ e he; cases he
      | cons x l ih =>
        intro j s hc e he
        obtain ⟨o, t, nn, As, me⟩ := x
        rcases List.mem_cons.mp he with z | z
        · rw [z]; exact hc.1.2.2.1
        · exact ih _ _ hc.2 e z
    exact this TL 0 0 f1
  have eal : alA τ' TL = alA τ TL := alA_cg (T 4 (by simp)) (T 5 (by simp)) TL okL
  refine ⟨⟨dcN_cg (hs.1 400 (by decide)) (ht.1 52 (by simp)) (fun a ha => A a (by rcases ha with z | z | z <;> subst z <;> decide)) (fun a ha => B a (by rcases ha with z | z <;> subst z <;> decide)) (fun a ha => T a (by rcases ha with z | z | z <;> subst z <;> simp)) (fun a _ => ht.2.2 a) a1, dcO_cg a2 (hs.1 400 (by decide)) (A 29 (by decide)) (A 32 (by decide)), dcP_cg a3 (ht.1 52 (by simp)) (T 33 (by simp)) (T 36 (by simp))⟩, ⟨(hs.1 505 (by decide)).trans b1, b2⟩, ⟨by rw [ht.1 62 (by simp), cc]; exact c1, by rw [cc]; exact c2⟩, fun i hi hr => ?_, fun gp => ?_, ⟨?_, by rw [hs.2.2.2.1 1007 (by decide) (by decide)]; exact f2, by rw [hs.2.2.2.1 1004 (by decide) (by decide)]; exact f3, f4, f5, f6, ?_⟩, ⟨mTL_cg (fun a ha => T a (by rcases ha with z | z | z | z | z | z | z | z <;> subst z <;> simp)) (ht.2.2 3) TL 0 0 g1, fun i hi => by rw [T 39 (by simp), T 40 (by simp)]; exact g2 i hi, g3, by rw [eal]; exact g4, by rw [eal]; exact g5, (ht.1 16 (by simp)).trans g6, g7⟩, ⟨fun i o y i1' i2' i3' i4' i5' i6' => ?_, fun i o i1' i2' i3' i4' i5' => ?_⟩, ⟨by rw [fT]; exact i1, fun n hn hl => ?_⟩, (ht.1 49 (by simp)).trans j1⟩
  · rw [A 43 (by decide)] at hr
    obtain ⟨q1, q2, q3⟩ := d1 i hi hr
    exact ⟨by rw [B 44 (by decide), fD]; exact q1, by rw [ht.2.2, cc, B 44 (by decide)]; exact q2, by rw [T 43 (by simp), cc, A 45 (by decide)]; exact q3⟩
  · have : ∀ m, tdN σ' D gp m = tdN σ D gp m := by
      intro m
      induction m with
      | zero => rfl
      | succ m ih =>
        have ei : inG σ' D gp m = inG σ D gp m := by unfold inG; rw [A 43 (by decide), B 44 (by decide), fD]
        rw [tdN, tdN, ih, ei, B 44 (by decide), fD]
    rw [this]; exact e1 gp
  · have : ∀ (l : List TR) (j s : Nat), cTL σ M j s l → cTL σ' M j s l := by
      intro l
      induction l with
      | nil => intro j s _; trivial
      | cons e l ih =>
        intro j s hc
        obtain ⟨o, t, nn, As, me⟩ := e
        obtain ⟨⟨c1, c2, c3, c4, c5⟩, c6⟩ := hc
        have M7 : ∀ a, a ≠ lA 15 → a ≠ lA 16 → ma σ' a = ma σ a := hs.2.2.2.2.1
        refine ⟨⟨by rw [M7 65 (by decide) (by decide)]; exact c1, by rw [M7 64 (by decide) (by decide)]; exact c2, c3, rwL_fr _ _ (fun i _ _ => ?_) c4, lfM_fr (Nat.le_refl _) (fun i _ => ⟨by rw [A 43 (by decide)], by rw [B 44 (by decide)], by rw [A 46 (by decide)], by rw [A 47 (by decide)]⟩) c5⟩, ih _ _ c6⟩
        · rw [M7 (rA 10 0) (by decide) (by decide), M7 (rA 10 2) (by decide) (by decide), M7 (rA 10 3) (by decide) (by decide), hs.2.2.2.2.2]
          exact ⟨rfl, rfl, rfl, rfl⟩
    exact this TL 0 0 f1
  · have : ∀ (l : List TR) (mc : Nat), mMe σ mc l → mMe σ' mc l := by
      intro l
      induction l with
      | nil => intro mc _; trivial
      | cons e l ih =>
        intro mc hm
        obtain ⟨o, t, nn, As, me⟩ := e
        rw [mMe] at hm ⊢
        rw [A 29 (by decide)]
        exact ⟨hm.1, ih _ hm.2⟩
    exact this TL 0 f7
  · rw [A 43 (by decide)] at i2'
    rw [A 46 (by decide)] at i3'
    rw [B 44 (by decide), fT] at i6'
    rw [nb]
    exact h1 i o y i1' i2' i3' i4' i5' i6'
  · rw [A 43 (by decide)] at i2'
    rw [A 46 (by decide)] at i3'
    rw [A 29 (by decide)] at i5'
    rw [B 44 (by decide), qq, fP]
    exact h2 i o i1' i2' i3' i4' i5'
  · have hl' : isLf τ n = true := by unfold isLf at hl ⊢; rw [T 2 (by simp)] at hl; exact hl
    obtain ⟨o, o1, o2, o3⟩ := i2 n hn hl'
    refine ⟨o, o1, by rw [T 4 (by simp)]; exact o2, fun z => ?_⟩
    rw [T 2 (by simp)] at z
    rw [ht.2.2 3]
    rcases o3 z with w | ⟨y, y1, y2, y3⟩
    · exact Or.inl w
    · exact Or.inr ⟨y, y1, by rw [fT]; exact y2, by rw [nb]; exact y3⟩
