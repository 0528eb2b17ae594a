/-! What the lists of equations depend on; a group in the reference. Own text. -/
section C
variable {τ τ' : zS}
theorem nL_cg (h4 : ga τ' 4 = ga τ 4) (h5 : ga τ' 5 = ga τ 5) (n : Nat) : nL τ' n = nL τ n ∧ nR τ' n = nR τ n := by unfold nL nR; rw [h4, h5]; exact ⟨rfl, rfl⟩
theorem apN_cg (h4 : ga τ' 4 = ga τ 4) (h5 : ga τ' 5 = ga τ 5) : ∀ t, okT t → ∀ (n : Nat), apN τ' t n = apN τ t n := by
  apply tE_ind
  · intro c _ n; rfl
  · intro f a _ _ h1 h2 n
    show apN τ' f (nL τ' n) ++ apN τ' a (nR τ' n) ++ [n] = apN τ f (nL τ n) ++ apN τ a (nR τ n) ++ [n]
    rw [(nL_cg h4 h5 n).1, (nL_cg h4 h5 n).2, h1, h2]
  · intro f a _ _ h1 h2 n
    show apN τ' f (nL τ' n) ++ apN τ' a (nR τ' n) = apN τ f (nL τ n) ++ apN τ a (nR τ n)
    rw [(nL_cg h4 h5 n).1, (nL_cg h4 h5 n).2, h1, h2]
  · intro p t _ h1 n
    show apN τ' t (nL τ' n) = apN τ t (nL τ n)
    rw [(nL_cg h4 h5 n).1, h1]
  · intro p t _ h1 n
    exact h1 n
theorem eqR_cg (h4 : ga τ' 4 = ga τ 4) (h5 : ga τ' 5 = ga τ 5) (ty sm : Int64 → TE) : ∀ t, okT t → ∀ (n : Nat), eqR τ' ty sm t n = eqR τ ty sm t n := by
  apply tE_ind
  · intro c _ n; rfl
  · intro f a _ _ h1 h2 n
    show eqR τ' ty sm f (nL τ' n) ++ eqR τ' ty sm a (nR τ' n) ++ [(kE ty sm f (nL τ' n), .op (kE ty sm a (nR τ' n)) (.var (n + 1)), plT a)] = eqR τ ty sm f (nL τ n) ++ eqR τ ty sm a (nR τ n) ++ [(kE ty sm f (nL τ n), .op (kE ty sm a (nR τ n)) (.var (n + 1)), plT a)]
    rw [(nL_cg h4 h5 n).1, (nL_cg h4 h5 n).2, h1, h2]
  · intro f a _ _ h1 h2 n
    show eqR τ' ty sm f (nL τ' n) ++ [(kE ty sm f (nL τ' n), .var 0, plT f)] ++ eqR τ' ty sm a (nR τ' n) ++ (if isR a = true then [] else [(kE ty sm a (nR τ' n), .var 0, plT a)]) = eqR τ ty sm f (nL τ n) ++ [(kE ty sm f (nL τ n), .var 0, plT f)] ++ eqR τ ty sm a (nR τ n) ++ (if isR a = true then [] else [(kE ty sm a (nR τ n), .var 0, plT a)])
    rw [(nL_cg h4 h5 n).1, (nL_cg h4 h5 n).2, h1, h2]
  · intro p t _ h1 n
    show eqR τ' ty sm t (nL τ' n) ++ [(kE ty sm t (nL τ' n), .var 0, plT t)] = eqR τ ty sm t (nL τ n) ++ [(kE ty sm t (nL τ n), .var 0, plT t)]
    rw [(nL_cg h4 h5 n).1, h1]
  · intro p t _ h1 n
    exact h1 n
theorem alA_cg (h4 : ga τ' 4 = ga τ 4) (h5 : ga τ' 5 = ga τ 5) : ∀ (l : List TR), (∀ e, e ∈ l → okT e.2.1) → alA τ' l = alA τ l
  | [], _ => rfl
  | (o, t, nn, As, me) :: l, h => by rw [alA, alA, apN_cg h4 h5 t (h _ List.mem_cons_self) nn, alA_cg h4 h5 l (fun e he => h e (List.mem_cons_of_mem _ he))]
theorem mrE_cg (h4 : ga τ' 4 = ga τ 4) (h5 : ga τ' 5 = ga τ 5) (σ : zS) (D : Nat) (gp : Nat → Bool) (KA : Nat → TE) : ∀ (l : List TR) (j : Nat), (∀ e, e ∈ l → okT e.2.1) → mrE σ τ' D gp KA j l = mrE σ τ D gp KA j l
  | [], _, _ => rfl
  | (o, t, nn, As, me) :: l, j, h => by rw [mrE, mrE, eqR_cg h4 h5 _ _ t (h _ List.mem_cons_self), mrE_cg h4 h5 σ D gp KA l (j + 1) (fun e he => h e (List.mem_cons_of_mem _ he))]
end C
theorem mTL_cg {τ τ' : zS} {hi : Nat} (h2 : ∀ a, a = 2 ∨ a = 4 ∨ a = 5 ∨ a = 7 ∨ a = 8 ∨ a = 9 ∨ a = 33 ∨ a = 41 → ga τ' a = ga τ a) (h3 : gb τ' 3 = gb τ 3) : ∀ (l : List TR) (a mc : Nat), mTL τ hi a mc l → mTL τ' hi a mc l
  | [], _, _, _ => trivial
  | (o, t, nn, As, me) :: l, a, mc, h => by
    obtain ⟨⟨m1, m2, m3, m4, m5⟩, m6⟩ := h
    have e33 : ga τ' 33 = ga τ 33 := h2 33 (by simp)
    refine ⟨⟨nd_mono (Nat.le_refl _) (Nat.le_refl _) (fun i _ _ => by rw [h2 2 (by simp), h3, h2 4 (by simp), h2 5 (by simp)]; exact ⟨rfl, rfl, rfl, rfl⟩) t nn As m1, ?_, by rw [e33, h2 41 (by simp)]; exact m3, by rw [e33]; exact m4, m5⟩, ?_⟩
    · rw [e33]
      exact acL_fr _ _ (fun j _ _ => by rw [h2 7 (by simp), h2 8 (by simp), h2 9 (by simp)]; exact ⟨rfl, rfl, rfl⟩) m2
    · rw [e33]
      exact mTL_cg h2 h3 l _ _ m6
theorem tm_ok {σ τ : zS} {D N : Nat} {gp : Nat → Bool} {KA : Nat → TE} {lg : Nat → Bool} {lx : Nat → TE} : ∀ (l : List TR) (j : Nat), tmL σ τ D N gp KA lg lx j l → ∀ e, e ∈ l → okT e.2.1
  | [], _, _, e, he => by cases he
  | (o, t, nn, As, me) :: l, j, h, e, he => by
    rcases List.mem_cons.mp he with z | z
    · rw [z]; exact h.1.1
    · exact tm_ok l (j + 1) h.2 e z
theorem tmL_cg {σ τ τ' : zS} {D N : Nat} {gp : Nat → Bool} {KA : Nat → TE} {lg : Nat → Bool} {lx : Nat → TE} (h2 : ∀ a, a = 2 ∨ a = 4 ∨ a = 5 → ga τ' a = ga τ a) (h3 : gb τ' 3 = gb τ 3) : ∀ (l : List TR) (j : Nat), tmL σ τ D N gp KA lg lx j l → tmL σ τ' D N gp KA lg lx j l
  | [], _, _ => trivial
  | (o, t, nn, As, me) :: l, j, h => by
    obtain ⟨⟨a1, a2⟩, a3⟩ := h
    refine ⟨⟨a1, ?_⟩, tmL_cg h2 h3 l (j + 1) a3⟩
    rw [h2 2 (by simp), h3, h2 4 (by simp), h2 5 (by simp)]
    exact a2
theorem lfG_cg {τ τ' : zS} {gp : Nat → Bool} (h2 : ga τ' 2 = ga τ 2) (h4 : ga τ' 4 = ga τ 4) : lfG τ' gp = lfG τ gp := by
  funext n; unfold lfG isLf nL; rw [h2, h4]
theorem lfX_cg {σ τ τ' : zS} {D : Nat} {KA : Nat → TE} (h2 : ga τ' 2 = ga τ 2) (h3 : gb τ' 3 = gb τ 3) (h4 : ga τ' 4 = ga τ 4) (h5 : ga τ' 5 = ga τ 5) : lfX σ τ' D KA = lfX σ τ D KA := by
  funext n; unfold lfX nL; rw [h2, h3, h4, h5]
/-- the store at the start of a group -/
theorem Rp_0 {H : SG} (h : wfG H) : Rp H (fun _ => False) (fun z => z) [] :=
  ⟨h, ⟨0, fun x hx => hx.elim⟩, fun x hx => hx.elim, fun α _ => ⟨gT H, gT_sol h, fun x hx => hx.elim⟩, fun w _ α _ e he => by cases he⟩
section A
variable {F : Nat} {σ τ : zS} {H : SG} {N D M g : Nat} {gp live : Nat → Bool} {KA TT : Nat → TE} {TL : List TR}
/-- what a group is solved from, in the reference -/
def grM (σ τ : zS) (H : SG) (N D M g : Nat) (gp live : Nat → Bool) (KA TT : Nat → TE) (TL : List TR) : Prop :=
  MS τ H ∧ rp H (fun _ => False) (fun z => z) 0 (.var 0) ∧ gi τ 8 = 0 ∧ gi τ 49 = 0 ∧ dcN σ τ D ∧ dcP τ D ∧ (∀ i, i < D → (ga τ 48 i = nI g ↔ gp i = true)) ∧ lfH σ τ D N gp live ∧ gi τ 16 = nI N ∧ N ≤ 1000 ∧ (∀ y, y < D → live y = true → gp y = false → ∃ k, ga τ 49 y = nI k ∧ rp H (fun _ => False) (fun z => z) k (KA y)) ∧ (∀ y, y < D → gp y = true → KA y = wE (soN σ y) (qN σ y) y) ∧ (gi τ 62 = nI (c4 σ M) ∧ M ≤ 600 ∧ c4 σ M ≤ 300) ∧ (∀ i, i < M → ga σ 43 i = 4 → fDe σ (gb σ 44 i) D 0 ≠ -1 ∧ gb τ 42 (c4 σ i) = gb σ 44 i ∧ ga τ 43 (c4 σ i) = ga σ 45 i ∧ ∃ k, ga τ 44 (c4 σ i) = nI k ∧ rp H (fun _ => False) (fun z => z) k (TT i)) ∧ soL D 0 TL ∧ tmL σ τ D N gp KA (lfG τ gp) (lfX σ τ D KA) 0 TL ∧ mTL τ N 0 0 TL ∧ AB τ D TL ∧ actT TL ≤ 1600 ∧ (alA τ TL).Nodup ∧ (∀ x, x ∈ alA τ TL → x < 1000) ∧ gn H + 7 * cN gp D + cN (lfG τ gp) N + 2 * wA gp TL < 4000
theorem solveM (hF : 20000 ≤ F) (h : grM σ τ H N D M g gp live KA TT TL) : (∃ τ' H' dom' m', Md_solve F τ (nI g) = bv (Md_closeGroup F τ' (nI g)) (fun s => some s) ∧ RV τ' H' dom' m' (tdE σ D gp KA TT M ++ mrE σ τ D gp KA 0 TL) ∧ sx [48] [6, 26, 27, 28, 29, 30, 49, 50, 51, 53, 54] τ τ' ∧ xt H (fun _ => False) (fun z => z) H' dom' m' ∧ (∀ y, y < D → gp y = true → dkM τ' H' dom' m' y) ∧ (∀ l, gp l = false → ga τ' 49 l = ga τ 49 l ∧ ga τ' 51 l = ga τ 51 l ∧ ∀ j, j < 3 → ga τ' 50 (3 * l + j) = ga τ 50 (3 * l + j)) ∧ gn H' ≤ gn H + 7 * cN gp D + cN (lfG τ gp) N + 2 * wA gp TL) ∨ (∃ τ' Ea e Eb, Md_solve F τ (nI g) = some τ' ∧ tdE σ D gp KA TT M ++ mrE σ τ D gp KA 0 TL = Ea ++ e :: Eb ∧ sx [8, 9, 10, 48, 79, 80] [6, 26, 27, 28, 29, 30, 49, 50, 51, 53, 54] τ τ' ∧ rvF τ' Ea e ∧ knd τ' (gn H + 7 * cN gp D + cN (lfG τ gp) N + 2 * wA gp TL)) := by
  obtain ⟨h1, h2, h3, h4, h5, h6, h7, h8, h9, h10, h11, h12, ⟨h13, h14, h15⟩, h16, h17, h18, h19, h20, h21, h22, h23, h24⟩ := h
  have hD := h6.2.1
  have hRV : RV τ H (fun _ => False) (fun z => z) [] := ⟨h1, Rp_0 h1.2.2.2.1, h2, h3, h4⟩
  obtain ⟨τa, Ha, da, ma', a1, a2, a3, a4, a5, a6, a7, a8⟩ := pr_all (F := F) (g := g) (gp := gp) (by omega) D F 0 τ H _ _ (by omega) (by omega) h6 h7 hRV (fun z hz => hz.elim) (by show gn H + 7 * cN gp D ≤ 4000 + 7 * 0; omega)
  rw [nI_0] at a1
  have a3' : gn Ha ≤ gn H + 7 * cN gp D := by have : cN gp 0 = 0 := rfl; omega
  have g2 : ga τa 2 = ga τ 2 := a7.2.1 2 (by decide)
  have g4 : ga τa 4 = ga τ 4 := a7.2.1 4 (by decide)
  have g5 : ga τa 5 = ga τ 5 := a7.2.1 5 (by decide)
  have g3 : gb τa 3 = gb τ 3 := sx_gb a7 3
  have elg : lfG τa gp = lfG τ gp := lfG_cg g2 g4
  have elx : lfX σ τa D KA = lfX σ τ D KA := lfX_cg g2 g3 g4 g5
  have hdca : dcN σ τa D := dcN_tx h5 a7 (by decide) (by decide)
  have hdpa : dcP τa D := dcP_cg h6 (a7.1 52 (by decide)) (a7.2.1 33 (by decide)) (a7.2.1 36 (by decide))
  have hgpa : ∀ i, i < D → (ga τa 48 i = nI g ↔ gp i = true) := fun i hi => by rw [a7.2.1 48 (by decide)]; exact h7 i hi
  have hka : ∀ o, o < D → gp o = true → dkM τa Ha da ma' o := fun o ho hg => a6 o (by omega) ho hg
  have hsq : ∀ y, y < D → nI (soN σ y) = ga τa 33 y ∧ soN σ y ≤ 2 ∧ nI (qN σ y) = ga τa 36 y ∧ qN σ y ≤ 3 := by
    intro y hy
    obtain ⟨so, q, c1, c2, c3, c4, c5, c6, c7, c8, _⟩ := hdca.2.2.2 y hy
    unfold soN qN
    rw [c3, c7, nI_clamp (by omega), nI_clamp (by omega)]
    exact ⟨c4.symm, c1, c8.symm, c2⟩
  have hKg : ∀ y, y < D → gp y = true → ∃ k, ga τa 49 y = nI k ∧ rp Ha da ma' k (KA y) := by
    intro y hy hg
    obtain ⟨so, q, c1, c2, c3, c4, ⟨k, c5, c6⟩, _⟩ := hka y hy hg
    obtain ⟨q1, q2, q3, q4⟩ := hsq y hy
    have e1 : soN σ y = so := (nI_eq (by omega) (by omega)).mp (q1.trans c1)
    have e2 : qN σ y = q := (nI_eq (by omega) (by omega)).mp (q3.trans c3)
    exact ⟨k, c5, by rw [h12 y hy hg, e1, e2]; exact c6⟩
  have hKa : ∀ y, y < D → live y = true → ∃ k, ga τa 49 y = nI k ∧ rp Ha da ma' k (KA y) := by
    intro y hy hl
    cases hg : gp y with
    | true => exact hKg y hy hg
    | false =>
      obtain ⟨k, c1, c2⟩ := h11 y hy hl hg
      exact ⟨k, by rw [(a8 y (Or.inr hg)).1]; exact c1, a4 _ _ c2⟩
  have hlfa : lfH σ τa D N gp live := by
    refine ⟨h8.1, fun n hn hl => ?_⟩
    have : isLf τ n = true := by unfold isLf at hl ⊢; rw [g2] at hl; exact hl
    obtain ⟨o, o1, o2, o3⟩ := h8.2 n hn this
    exact ⟨o, o1, by rw [g4]; exact o2, by rw [g2, g3]; exact o3⟩
  obtain ⟨τb, Hb, db, mb', b1, b2, b3, b4, b5, b6, b7⟩ := ly_all (F := F) (g := g) (gp := gp) (live := live) (KA := KA) (σ := σ) (τ0 := τa) (by omega) hdca hlfa hgpa hKa hka (by rw [a7.1 16 (by decide)]; exact h9) h10 N F 0 τa Ha da ma' (by omega) (by omega) (sx_rfl _ _ _) a2 (fun l _ hl => by omega) (fun z hz => by
    rcases a5 z hz with ⟨i', j', y1, y2, y3⟩ | ⟨i', y1, y2⟩
    · unfold cpa at y1; exact Or.inl (by omega)
    · unfold cre at y2; exact Or.inl (by omega)) (xt_rfl _ _ _) (by rw [elg]; show gn Ha + cN (lfG τ gp) N < 4000 + 0; omega)
  rw [nI_0] at b1
  have b7' : gn Hb ≤ gn Ha + cN (lfG τ gp) N := by rw [elg] at b7; have : cN (lfG τ gp) 0 = 0 := rfl; omega
  have SVb : SV τa (lfG τa gp) (lfX σ τa D KA) 0 N τb Hb db mb' (tdE σ D gp KA TT 0) := ⟨sx_mono (by decide) (by decide) b2, b3, b4⟩
  have hWa : wsH σ τa Hb db mb' D M gp KA TT := by
    refine ⟨fun y hy hg => ?_, fun i hi hr => ?_⟩
    · obtain ⟨k, c1, c2⟩ := hKg y hy hg
      exact ⟨k, c1, b6 _ _ c2⟩
    · obtain ⟨w1, w2, w3, k, w4, w5⟩ := h16 i hi hr
      exact ⟨w1, by rw [sx_gb a7]; exact w2, by rw [a7.2.1 43 (by decide)]; exact w3, k, by rw [a7.2.1 44 (by decide)]; exact w4, b6 _ _ (a4 _ _ w5)⟩
  have eS : Md_solve F τ (nI g) = Md_solve_98 F F τb (nI g) (nI (c4 σ 0)) := by
    rw [Md_solve, show (0 : Int32) = nI 0 from nI_0.symm, nI_0, a1, b1]
    rfl
  have fr : ∀ {s : zS}, sx [48] [6, 26, 27, 28, 29, 30, 53, 54] τa s → sx [48] [6, 26, 27, 28, 29, 30, 49, 50, 51, 53, 54] τ s := fun hs => sx_tr (sx_mono (by decide) (by decide) a7) (sx_mono (by decide) (by decide) hs)
  have fr' : ∀ {s : zS}, sx [8, 9, 10, 48, 79, 80] [6, 26, 27, 28, 29, 30, 53, 54] τa s → sx [8, 9, 10, 48, 79, 80] [6, 26, 27, 28, 29, 30, 49, 50, 51, 53, 54] τ s := fun hs => sx_tr (sx_mono (by decide) (by decide) a7) (sx_mono (by decide) (by decide) hs)
  have emr : mrE σ τa D gp KA 0 TL = mrE σ τ D gp KA 0 TL := mrE_cg g4 g5 σ D gp KA TL 0 (tm_ok TL 0 h18)
  have eal : alA τa TL = alA τ TL := alA_cg g4 g5 TL (tm_ok TL 0 h18)
  rw [eS]
  rcases ws_all (F := F) (lg := lfG τa gp) (lx := lfX σ τa D KA) (N := N) (g := g) hF hdca hgpa (by rw [a7.1 62 (by decide)]; exact h13) h14 h15 hWa M F 0 τb Hb (by omega) (by omega) SVb (xt_rfl _ _ _) rfl with ⟨τc, Hc, c1, c2, c3, c4'⟩ | ⟨τ', Ea, e, Eb, c1, c2, c3, c5, c6⟩
  · have e162 : Md_solve_162 F τc (nI g) = Md_solve_164 F F τc (nI g) (nI 0) := by rw [Md_solve_162, nI_0]
    rw [c1, e162]
    have htm : tmL σ τa D N gp KA (lfG τa gp) (lfX σ τa D KA) 0 TL := by
      rw [elg, elx]
      exact tmL_cg (fun a ha => by rcases ha with z | z | z <;> subst z; exact g2; exact g4; exact g5) g3 TL 0 h18
    have hmT : mTL τa N 0 0 TL := mTL_cg (fun a ha => a7.2.1 a (by rcases ha with z | z | z | z | z | z | z | z <;> subst z <;> decide)) g3 TL 0 0 h19
    have hdomc : ∀ x, x ∈ alA τa TL → ¬ db x := by
      intro x hx z
      have hx1 := h23 x (by rw [← eal]; exact hx)
      rcases b5 x z with ⟨y1, _⟩ | ⟨l, _, _, _, y⟩
      · omega
      · have := cfr_ge (ga τa 4 l) (ga τa 5 l) (gb τa 3 l); omega
    rcases ac_grp (F := F) (σ := σ) (τ0 := τa) (lg := lfG τa gp) (lx := lfX σ τa D KA) (g := g) (KA := KA) hF hdpa (fun l hl => by
        unfold lfG isLf at hl
        simp at hl
        exact hl.1) h10 hgpa (fun i hi => ⟨(hsq i hi).1, (hsq i hi).2.1⟩) hka D F 0 TL 0 0 0 τc Hc db mb' _ (by omega) (by omega) h17 htm hmT (fun i' _ hi' => by
        rw [Nat.zero_add, Nat.zero_add, a7.2.1 39 (by decide), a7.2.1 40 (by decide)]
        exact h20 i' hi') c2 (xt_tr b6 c3) (by omega) (by rw [eal]; exact h22) hdomc (by omega) with ⟨τd, Hd, dd, md, d1, d2, d3, d4⟩ | ⟨τ', Ea, e, Eb, d1, d2, d3, d4, d5⟩
    · refine Or.inl ⟨τd, Hd, dd, md, d1, by rw [← emr]; exact d2.2.1, fr d2.1, xt_tr a4 d3, fun y hy hg => ?_, fun l hl => ?_, by omega⟩
      · have s := d2.1
        exact dkM_cg (hka y hy hg) ⟨by rw [s.2.1 33 (by decide)], by rw [s.2.1 36 (by decide)], by rw [s.2.1 49 (by decide)], by rw [s.2.1 51 (by decide)]⟩ (fun j _ => by rw [s.2.1 50 (by decide)]) d3
      · have s := d2.1
        obtain ⟨q1, q2, q3⟩ := a8 l (Or.inr hl)
        rw [s.2.1 49 (by decide), s.2.1 51 (by decide), s.2.1 50 (by decide)]
        exact ⟨q1, q2, q3⟩
    · exact Or.inr ⟨τ', Ea, e, Eb, d1, by rw [← emr]; exact d2, fr' d3, d4, knd_mo d5 (by omega)⟩
  · exact Or.inr ⟨τ', Ea, e, Eb ++ mrE σ τ D gp KA 0 TL, c1, by rw [c2]; simp, fr' c3, c5, knd_mo c6 (by omega)⟩
end A
