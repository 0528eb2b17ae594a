/-! A text while it is read: what steps keep. Own text. -/
def JB (B : Nat → Int32) (n c : Nat) (σ τ : zS) (k M s N a : Nat) : Prop := cS B n c 10 σ k M s ∧ mO B n τ k M s N a ∧ (∀ i, i < M → meR σ τ i) ∧ s ≤ 200 ∧ N ≤ 2 * s ∧ a ≤ s
/-- every mention but of a told kind belongs to a declaration -/
def owCn (σ : zS) (D M : Nat) : Prop := ∀ i, i < M → ga σ 43 i ≠ 4 → ∃ o, o < D ∧ ga σ 46 i = nI o
def TLp (σ τ : zS) (D M N : Nat) (TL : List TR) : Prop := (mi σ 1007 = nI TL.length ∧ owCn σ D M) ∧ cTL σ M 0 0 TL ∧ mTL τ N 0 0 TL ∧ soL D 0 TL
def AB (τ : zS) (D : Nat) (TL : List TR) : Prop := ∀ i, i < D → ga τ 39 i = nI (apos i TL) ∧ ga τ 40 i = nI (apos (i + 1) TL)
theorem DC_fr {σ σ' τ τ' : zS} {M s Lv N a M2 D : Nat} (h1 : frC 10 M s σ σ') (h2 : frM Lv N a M2 τ τ') (h : DC σ τ D) : DC σ' τ' D := by
  obtain ⟨a1, a2, a3, a4⟩ := h
  refine ⟨by rw [h1.1 400 (by decide) (by decide) (by decide) (by decide), a1], by rw [h2.1 52 (by unfold exM; omega), a2], a3, fun i hi => dcR_fr (a4 i hi) (fun j hj => h1.2.1 j i (by omega)) (h1.2.2.2.1 30 i (by omega)) (fun j _ => h1.2.2.2.1 33 _ (by omega)) (fun j hj => h2.2.1 j i (by unfold okM; omega)) (h2.2.2.2.1 34 i (by omega) (by omega)) (fun j _ => h2.2.2.2.1 37 _ (by omega) (by omega))⟩
theorem TLp_fr {σ σ' τ τ' : zS} {M M' s N N' a D Lv : Nat} {TL : List TR} (h1 : frC 10 M s σ σ') (h2 : frM Lv N a M τ τ') (hs : lenT TL ≤ s) (ha : actT TL ≤ a) (hM : M ≤ M') (hN : N ≤ N') (hnew : ∀ i, M ≤ i → i < M' → ga σ' 43 i ≠ 4 → ∃ o, o < D ∧ ga σ' 46 i = nI o) (h : TLp σ τ D M N TL) : TLp σ' τ' D M' N' TL := by
  obtain ⟨⟨a1, a0⟩, a2, a3, a4⟩ := h
  have q33 : ∀ i, ga τ' 33 i = ga τ 33 i := fun i => h2.2.1 33 i (by unfold okM; omega)
  refine ⟨⟨by rw [h1.2.2.2.2.2.1 1007 (by decide), a1], fun i hi h4 => by
    rcases Nat.lt_or_ge i M with w | w
    · rw [h1.2.1 43 i (by omega)] at h4
      rw [h1.2.1 46 i (by omega)]
      exact a0 i w h4
    · exact hnew i w hi h4⟩, cTL_fr hM TL 0 0 (fun i _ => ⟨h1.2.2.2.2.2.2.1 64 i (by unfold rA; omega), h1.2.2.2.2.2.2.1 65 i (by unfold rA; omega)⟩) (fun i hi => ⟨h1.2.2.2.2.2.2.1 60 i (by omega), h1.2.2.2.2.2.2.2 61 i (by omega), h1.2.2.2.2.2.2.1 62 i (by omega), h1.2.2.2.2.2.2.1 63 i (by omega)⟩) (fun i hi => ⟨h1.2.1 43 i (by omega), h1.2.2.2.1 44 i (by omega), h1.2.1 46 i (by omega), h1.2.1 47 i (by omega)⟩) a2, mTL_fr hN (fun i _ => ⟨q33 i, h2.2.1 41 i (by unfold okM; omega)⟩) (fun i hi => ⟨h2.2.1 2 i (by unfold okM; omega), h2.2.2.2.1 3 i (by omega) (by omega), h2.2.1 4 i (by unfold okM; omega), h2.2.1 5 i (by unfold okM; omega)⟩) TL 0 0 0 a4 (fun i hi => ⟨h2.2.1 7 i (by unfold okM; omega), h2.2.1 8 i (by unfold okM; omega), h2.2.1 9 i (by unfold okM; omega)⟩) a3, a4⟩
theorem AB_fr {τ τ' : zS} {D Lv N a M : Nat} {TL : List TR} (h2 : frM Lv N a M τ τ') (h : AB τ D TL) : AB τ' D TL := fun i hi => ⟨by rw [h2.2.1 39 i (by unfold okM; omega), (h i hi).1], by rw [h2.2.1 40 i (by unfold okM; omega), (h i hi).2]⟩
theorem c4_ext {σ : zS} {M : Nat} : ∀ (d : Nat), (∀ i, M ≤ i → i < M + d → ga σ 43 i ≠ 4) → c4 σ (M + d) = c4 σ M
  | 0, _ => rfl
  | d + 1, h => by
    show c4 σ (M + d + 1) = _
    rw [c4, if_neg (h (M + d) (by omega) (by omega)), Nat.add_zero, c4_ext d (fun i i1 i2 => h i i1 (by omega))]
theorem WK_fr {σ σ' τ τ' : zS} {M M' s Lv N a S R : Nat} (h1 : frC 10 M s σ σ') (h2 : frM Lv N a M τ τ') (hM : M ≤ M') (hn : ∀ i, M ≤ i → i < M' → ga σ' 43 i ≠ 4) (h : WK σ τ M S R) : WK σ' τ' M' S R := by
  obtain ⟨a1, a2, a3, a3', a4, a5, a6⟩ := h
  have e43 : ∀ i, i < M → ga σ' 43 i = ga σ 43 i := fun i hi => h1.2.1 43 i (by omega)
  have ec : ∀ i, i ≤ M → c4 σ' i = c4 σ i := fun i hi => c4_fr i (fun j hj => e43 j (by omega))
  have eM : c4 σ' M' = c4 σ M := by
    obtain ⟨d, rfl⟩ : ∃ d, M' = M + d := ⟨M' - M, by omega⟩
    rw [c4_ext d hn, ec M (Nat.le_refl _)]
  refine ⟨by rw [h2.1 62 (by unfold exM; omega), a1, eM], by rw [h1.1 306 (by decide) (by decide) (by decide) (by decide), a2], by rw [h2.1 48 (by unfold exM; omega), a3], by rw [h2.1 49 (by unfold exM; omega), a3'], a4, a5, fun i hi h4 => ?_⟩
  rcases Nat.lt_or_ge i M with q | q
  · rw [ec i (by omega)]
    refine wiR_fr (a6 i q (by rw [← e43 i q]; exact h4)) (h1.2.2.2.1 44 i (by omega)) (h1.2.1 45 i (by omega)) (h1.2.1 47 i (by omega)) (h2.2.2.2.1 42 _ (by omega) (by omega)) (h2.2.1 43 _ (by unfold okM; omega)) (h2.2.1 44 _ (by unfold okM; omega)) (Nat.le_refl _) (Nat.le_refl _) (fun i _ => ⟨h1.2.1 23 i (by omega), h1.2.1 24 i (by omega), h1.2.1 25 i (by omega)⟩) (fun i _ => ⟨h2.2.1 26 i (by unfold okM; omega), h2.2.1 27 i (by unfold okM; omega), h2.2.1 28 i (by unfold okM; omega), h2.2.1 29 i (by unfold okM; omega)⟩)
  · exact absurd h4 (hn i q hi)
theorem leL_ne4 {σ : zS} {o : Int32} : ∀ (l : List Nat) (i : Nat), leL σ o i l → ∀ j, i ≤ j → j < i + l.length → ga σ 43 j ≠ 4
  | [], i, _, j, h1, h2 => by simp only [List.length_nil] at h2; omega
  | c :: l, i, h, j, h1, h2 => by
    simp only [List.length_cons] at h2
    rcases Nat.eq_or_lt_of_le h1 with q | q
    · subst q
      rw [h.1.1]
      split <;> decide
    · exact leL_ne4 l (i + 1) h.2 j (by omega) (by omega)
theorem vaL_in {σ : zS} {M' : Nat} : ∀ (l : List QE) (lv : List Nat) (o : Int32) (i : Nat), vaL σ i l → leL σ o i lv → (l.filter (fun e => decide (e.1 = 2 ∨ e.1 = 3))).map (fun e => (e.1, e.2.1)) = lv.map (fun c => ((if lfB c = 0 then 2 else 3 : Int32), lfN c)) → i + nLf l ≤ M' → ∀ e, e ∈ l → e.1 = 2 → ∃ j v, j < M' ∧ ga σ 43 j = 5 ∧ gb σ 44 j = e.2.1 ∧ ga σ 47 j = nI v ∧ v ≤ e.2.2.1
  | [], _, _, _, _, _, _, _, e, he, _ => by cases he
  | d :: l, lv, o, i, hv, hl, hm, hM, e, he, h2 => by
    by_cases c : d.1 = 2 ∨ d.1 = 3
    · rw [vaL_y c] at hv
      rw [List.filter_cons, if_pos (by simpa using c), List.map_cons] at hm
      cases lv with
      | nil => simp at hm
      | cons q lv =>
        rw [List.map_cons] at hm
        obtain ⟨m1, m2⟩ := List.cons.inj hm
        have m1' : d.1 = (if lfB q = 0 then 2 else 3) ∧ d.2.1 = lfN q := by simpa using m1
        rw [nLf, if_pos c] at hM
        rcases List.mem_cons.mp he with z | z
        · rw [z] at h2 ⊢
          obtain ⟨v, v1, v2⟩ := hv.1 h2
          refine ⟨i, v, by omega, ?_, ?_, v1, v2⟩
          · have hq : lfB q = 0 := by
              by_cases w : lfB q = 0
              · exact w
              · have := m1'.1; rw [if_neg w, h2] at this; exact absurd this (by decide)
            have := hl.1.1
            rw [if_pos hq] at this; exact this
          · rw [hl.1.2.1]; exact m1'.2.symm
        · exact vaL_in l lv o (i + 1) hv.2 hl.2 m2 (by omega) e z h2
    · rw [vaL_n c] at hv
      rw [List.filter_cons, if_neg (by simpa using c)] at hm
      rw [nLf, if_neg c] at hM
      rcases List.mem_cons.mp he with z | z
      · rw [z] at h2; exact absurd (Or.inl h2) c
      · exact vaL_in l lv o i hv hl hm (by omega) e z h2
theorem lf_fil : ∀ t, okT t → ((hdT t :: tlT t).filter (fun e => decide (e.1 = 2 ∨ e.1 = 3))).map (fun e => (e.1, e.2.1)) = (lvs t).map (fun c => ((if lfB c = 0 then 2 else 3 : Int32), lfN c)) := by
  have app : ∀ (e e' : QE) (l : List QE), e'.1 = e.1 → e'.2.1 = e.2.1 → ((e' :: l).filter (fun e => decide (e.1 = 2 ∨ e.1 = 3))).map (fun e => (e.1, e.2.1)) = ((e :: l).filter (fun e => decide (e.1 = 2 ∨ e.1 = 3))).map (fun e => (e.1, e.2.1)) := by
    intro e e' l h1 h2
    by_cases c : e.1 = 2 ∨ e.1 = 3
    · rw [List.filter_cons, if_pos (by simpa [h1] using c), List.filter_cons, if_pos (by simpa using c), List.map_cons, List.map_cons, h1, h2]
    · rw [List.filter_cons, if_neg (by simpa [h1] using c), List.filter_cons, if_neg (by simpa using c)]
  apply tE_ind
  · intro c _
    have : (if lfB c = 0 then (2 : Int32) else 3) = 2 ∨ (if lfB c = 0 then (2 : Int32) else 3) = 3 := by
      by_cases z : lfB c = 0
      · rw [if_pos z]; exact Or.inl rfl
      · rw [if_neg z]; exact Or.inr rfl
    rw [(tT.1 c).1, (tT.1 c).2, List.filter_cons, if_pos (by simpa using this)]
    rfl
  · intro f a _ _ hf ha
    rw [(tT.2.1 f a).2, show hdT (tO f a) :: (tlT f ++ hdT a :: tlT a) = (hdT (tO f a) :: tlT f) ++ (hdT a :: tlT a) from rfl, List.filter_append, List.map_append, app (hdT f) (hdT (tO f a)) (tlT f) (by rw [(tT.2.1 f a).1]) (by rw [(tT.2.1 f a).1]), hf, ha]
    show _ = (lvs f ++ lvs a).map _
    rw [List.map_append]
  · intro l r _ _ hl hr
    rw [(tT.2.2.1 l r).1, (tT.2.2.1 l r).2, List.filter_cons, if_neg (show ¬ (decide ((45 : Int32) = 2 ∨ (45 : Int32) = 3)) = true by decide), show hdT l :: (tlT l ++ hdT r :: tlT r) = (hdT l :: tlT l) ++ (hdT r :: tlT r) from rfl, List.filter_append, List.map_append, hl, hr]
    show _ = (lvs l ++ lvs r).map _
    rw [List.map_append]
  · intro p t _ ht
    rw [(tT.2.2.2.1 p t).1, (tT.2.2.2.1 p t).2, List.filter_cons, if_neg (show ¬ (decide ((91 : Int32) = 2 ∨ (91 : Int32) = 3)) = true by decide), ht]
    rfl
  · intro p t _ ht
    rw [(tT.2.2.2.2 p t).2, app (hdT t) (hdT (tW p t)) (tlT t) (by rw [(tT.2.2.2.2 p t).1]) (by rw [(tT.2.2.2.2 p t).1]), ht]
    rfl
/-- the ones behind a name, for a whole type -/
theorem lvA_in {σ : zS} {o : Int32} {M M' : Nat} {t : TE} (ok : okT t) (h : lvA σ o M t) (hM : M + (lvs t).length ≤ M') : ∀ e, e ∈ hdT t :: tlT t → e.1 = 2 → ∃ j v, j < M' ∧ ga σ 43 j = 5 ∧ gb σ 44 j = e.2.1 ∧ ga σ 47 j = nI v ∧ v ≤ e.2.2.1 :=
  vaL_in _ _ o M h.2 h.1 (lf_fil t ok) (by rw [nLf_t t ok]; exact hM)
theorem leL_lfM {σ : zS} {o : Nat} {M' : Nat} : ∀ (l : List Nat) (i : Nat), leL σ (nI o) i l → i + l.length ≤ M' → ∀ c, c ∈ l → ∃ j, j < M' ∧ ga σ 43 j = (if lfB c = 0 then 5 else 6) ∧ gb σ 44 j = lfN c ∧ ga σ 46 j = nI o
  | [], _, _, _, c, hc => by cases hc
  | d :: l, i, h, hM, c, hc => by
    simp only [List.length_cons] at hM
    rcases List.mem_cons.mp hc with q | q
    · subst q
      exact ⟨i, by omega, h.1⟩
    · exact leL_lfM l (i + 1) h.2 (by omega) c q
/-- what is common to a text at a declaration and inside one -/
def TXn (B : Nat → Int32) (n c : Nat) (σ0 τ0 σ τ : zS) (k M s N a D S R : Nat) (TL : List TR) : Prop :=
  JB B n c σ τ k M s N a ∧ TLp σ τ D M N TL ∧ s = lenT TL ∧ a = actT TL ∧ WK σ τ M S R ∧ frTC σ0 σ ∧ frTM τ0 τ
/-- the rooms that are left -/
def bnT (B : Nat → Int32) (n k M S : Nat) (σ : zS) : Prop := mB B n k M ∧ 3 * S ≤ tkP B n k + 3 ∧ 4 * c4 σ M ≤ tkP B n k
def TX (B : Nat → Int32) (n c : Nat) (σ0 τ0 σ τ : zS) (k M s N a D S R : Nat) (TL : List TR) : Prop :=
  TXn B n c σ0 τ0 σ τ k M s N a D S R TL ∧ bnT B n k M S σ ∧ DC σ τ D
/-- the reference with a fault, in a text -/
def FS (τ0 τ : zS) (f : Int32) (p : Nat) : Prop := gi τ 8 = f ∧ gi τ 9 = nI p ∧ frTM τ0 τ ∧ (∃ a', a' ≤ 450 ∧ gi τ 23 = nI a') ∧ (∃ N2, N2 ≤ 402 ∧ gi τ 16 = nI N2) ∧ ∃ R', R' ≤ 500 ∧ gi τ 48 = nI R'
def FC (σ0 σ : zS) (f : Int32) (p : Nat) : Prop := gi σ 200 = f ∧ gi σ 201 = nI p ∧ frTC σ0 σ
section T
variable {F : Nat} {B : Nat → Int32} {n c : Nat} {σ0 τ0 σ τ : zS} {k M s N a D S R : Nat} {TL : List TR}
theorem TX_R (hT : tEnd B n c) (h : TX B n c σ0 τ0 σ τ k M s N a D S R TL) : R ≤ 401 ∧ S ≤ 401 ∧ k ≤ c ∧ s ≤ 200 ∧ N ≤ 400 ∧ a ≤ 200 ∧ M ≤ 600 := by
  obtain ⟨⟨hJ, hL, hs, ha, hW, f1, f2⟩, ⟨j4, b1, b2⟩, hD⟩ := h
  have := tkP_le B n k
  have := hT.1.1
  obtain ⟨j1, j2, j3, j5, j6, j7⟩ := hJ
  have := hW.2.2.2.2.2.1
  have := j4.1
  have := j1.2.1
  omega
/-- a step of both -/
theorem TXn_step (hT : tEnd B n c) (h : TXn B n c σ0 τ0 σ τ k M s N a D S R TL) (h1 : tkS B n k ≠ 1) (h0 : tkS B n k ≠ 0) {τ' : zS} (fr : frN τ τ') (cu : curT B n (k + 1) τ') : Ta_step F σ = some (si σ 106 (nI (k + 1))) ∧ TXn B n c σ0 τ0 (si σ 106 (nI (k + 1))) τ' (k + 1) M s N a D S R TL ∧ frC 10 M s σ (si σ 106 (nI (k + 1))) ∧ frM 0 N a M τ τ' := by
  obtain ⟨hJ, hL, hs, ha, hW, f1, f2⟩ := h
  obtain ⟨jC, jM, jme, js, jN, ja⟩ := hJ
  obtain ⟨e1, C1, fc⟩ := c_step (F := F) hT jC h1
  have h8 : gi τ 8 = 0 := (jM.2.2.1.2.2.2.1 h0).1
  have fm := frM_N 0 N a M h8 fr
  obtain ⟨fa1, fa2, fa3, fa4, _⟩ := fr
  obtain ⟨m1, m2, m3, m31, m17, m16, m23, m18⟩ := jM
  refine ⟨e1, ⟨⟨C1, ⟨by rw [fa2, m1], ?_, cu, ?_, ?_, ?_, ?_, ?_⟩, fun i hi => meR_fr fc fm hi (jme i hi), js, jN, ja⟩, TLp_fr fc fm (by omega) (by omega) (Nat.le_refl _) (Nat.le_refl _) (fun i i1 i2 => by omega) hL, hs, ha, WK_fr fc fm (Nat.le_refl _) (fun i i1 i2 => by omega) hW, frTC_tr f1 (frTC_C fc), frTM_tr f2 (frTM_M fm)⟩, fc, fm⟩
  · rw [fa1 2 (by decide) (by decide) (by decide) (by decide) (by decide) (by decide), m2]
  · rw [fa1 31 (by decide) (by decide) (by decide) (by decide) (by decide) (by decide), m31]
  · rw [fa1 17 (by decide) (by decide) (by decide) (by decide) (by decide) (by decide), m17]
  · rw [fa1 16 (by decide) (by decide) (by decide) (by decide) (by decide) (by decide), m16]
  · rw [fa1 23 (by decide) (by decide) (by decide) (by decide) (by decide) (by decide), m23]
  · rw [fa1 18 (by decide) (by decide) (by decide) (by decide) (by decide) (by decide), m18]
theorem bnT_step (hT : tEnd B n c) (hk : k ≤ c) (h1 : tkS B n k ≠ 1) (h : bnT B n k M S σ) {σ' : zS} (e : c4 σ' M = c4 σ M) : bnT B n (k + 1) M S σ' := by
  have hk := tEnd_s hT hk h1
  have nx := (tk_next hk.2).2
  obtain ⟨b1, b2, b3⟩ := h
  exact ⟨mB_step b1 hk.2, by omega, by omega⟩
theorem bnT_tell (hT : tEnd B n c) (hs : nmT (tkS B n k)) (h : bnT B n k M S σ) {σ' : zS} (e : c4 σ' (M + 1) = c4 σ M) : M < 600 ∧ bnT B n (k + 1) (M + 1) S σ' := by
  obtain ⟨l1, _, _⟩ := nmT_letter hT.1 hs
  have nx := (tk_next l1).2
  obtain ⟨b1, b2, b3⟩ := h
  obtain ⟨q1, q2⟩ := mB_add hT.1 b1 hs
  exact ⟨q1, q2, by omega, by omega⟩
theorem TX_step (hT : tEnd B n c) (h : TX B n c σ0 τ0 σ τ k M s N a D S R TL) (h1 : tkS B n k ≠ 1) (h0 : tkS B n k ≠ 0) {τ' : zS} (fr : frN τ τ') (cu : curT B n (k + 1) τ') : Ta_step F σ = some (si σ 106 (nI (k + 1))) ∧ TX B n c σ0 τ0 (si σ 106 (nI (k + 1))) τ' (k + 1) M s N a D S R TL ∧ frC 10 M s σ (si σ 106 (nI (k + 1))) ∧ frM 0 N a M τ τ' := by
  obtain ⟨e1, e2, e3, e4⟩ := TXn_step (F := F) hT h.1 h1 h0 fr cu
  exact ⟨e1, ⟨e2, bnT_step hT h.1.1.1.2.1 h1 h.2.1 (c4_fr M (fun i _ => by simp [zs])), DC_fr e3 e4 h.2.2⟩, e3, e4⟩
/-- the reference's fault as it stands at a bad token -/
theorem TX_bad (hT : tEnd B n c) (h : TX B n c σ0 τ0 σ τ k M s N a D S R TL) (h0 : tkS B n k = 0) : FS τ0 τ 1 (tkP B n k) := by
  obtain ⟨b1, b2, b3, b4, b5, b6, b7⟩ := TX_R hT h
  obtain ⟨⟨hJ, hL, hs, ha, hW, f1, f2⟩, _⟩ := h
  obtain ⟨jC, jM, jme, js, jN, ja⟩ := hJ
  have hcu := jM.2.2.1.2.2.1 h0
  exact ⟨hcu.1, hcu.2, f2, ⟨a, by omega, jM.2.2.2.2.2.2.1⟩, ⟨N, by omega, jM.2.2.2.2.2.1⟩, R, by omega, hW.2.2.1⟩
/-- both raise a fault at the token -/
theorem TX_raise (hT : tEnd B n c) (h : TX B n c σ0 τ0 σ τ k M s N a D S R TL) (f : Int32) (hf : f ≠ 0) : (∃ σ', bi (Ta_start F σ) (fun r2 σ1 => bv (Fa_raise F σ1 f r2) (fun σ4 => some ((0 : Int32), σ4))) = some (0, σ') ∧ FC σ0 σ' f (tkP B n k)) ∧ (tkS B n k ≠ 0 → ∃ τ', Md_wrong F τ f (gi τ 5) = some τ' ∧ FS τ0 τ' f (tkP B n k) ∧ gi τ' 32 = gi τ 32) := by
  obtain ⟨b1, b2, b3, b4, b5, b6, b7⟩ := TX_R hT h
  obtain ⟨⟨hJ, hL, hs, ha, hW, f1, f2⟩, _⟩ := h
  obtain ⟨jC, jM, jme, js, jN, ja⟩ := hJ
  constructor
  · obtain ⟨σ', t1, t2, t3, t4⟩ := c_raise (F := F) hT jC f
    exact ⟨σ', t1, t2, t3, frTC_tr f1 (frTC_C t4)⟩
  · intro h0
    have h8 : gi τ 8 = 0 := (jM.2.2.1.2.2.2.1 h0).1
    have h5 : gi τ 5 = nI (tkP B n k) := jM.2.2.1.1
    obtain ⟨w1, w2⟩ := m_wrong (F := F) (L := 0) (N := N) (a := a) (M := M) h8 (f := f) (p := gi τ 5) hf
    exact ⟨_, w1, ⟨by simp [zs], by simp [zs, h5], frTM_tr f2 (frTM_M w2), ⟨a, by omega, by simp [zs, jM.2.2.2.2.2.2.1]⟩, ⟨N, by omega, by simp [zs, jM.2.2.2.2.2.1]⟩, R, by omega, by simp [zs, hW.2.2.1]⟩, by simp [zs]⟩
/-- a mention of both, at a name; the step comes later -/
theorem TXn_tell (hT : tEnd B n c) (h : TXn B n c σ0 τ0 σ τ k M s N a D S R TL) (hs : nmT (tkS B n k)) (hM : M < 600) (r o x : Int32) (h4 : r ≠ 4) (h5 : r ≠ 5) (ho : gi τ 32 = o ∨ (o = -1 ∧ gi τ 32 < 0)) (hoD : ∃ o', o' < D ∧ o = nI o') : ∃ σ' τ', Me_add F σ r o = some σ' ∧ Md_tell F τ (rlM r) x = some τ' ∧ TXn B n c σ0 τ0 σ' τ' k (M + 1) s N a D S R TL ∧ frC 10 M s σ σ' ∧ frM 0 N a M τ τ' ∧ c4 σ' (M + 1) = c4 σ M ∧ (∀ j, j ≠ 505 → gi σ' j = gi σ j) ∧ (∀ j, j ≠ 31 → gi τ' j = gi τ j) ∧ (∀ j, gl τ' j = gl τ j) := by
  have hne : tkS B n k ≠ 0 := by rcases hs with q | q <;> rw [q] <;> decide
  obtain ⟨hJ, hL, hss, ha, hW, f1, f2⟩ := h
  obtain ⟨jC, jM, jme, js, jN, ja⟩ := hJ
  obtain ⟨σ', e1, C1, fc, me, ic⟩ := c_meadd (F := F) hT jC hM r o
  have h8 : gi τ 8 = 0 := (jM.2.2.1.2.2.2.1 hne).1
  obtain ⟨m1, m2, m3, m31, m17, m16, m23, m18⟩ := jM
  have f6 : gl τ 6 = tkN B n k := m3.2.2.2.2.1 (by rcases hs with q | q <;> rw [q] <;> decide)
  have f5 : gi τ 5 = nI (tkP B n k) := m3.1
  have nar : vp_nar .boolean (1 : Int32) = 1 := by decide
  obtain ⟨τ', e2⟩ : ∃ τ', τ' = si (sa (sa (sa (sa (sa (sb (sa τ 10 M (rlM r)) 11 M (tkN B n k)) 12 M (nI (tkP B n k))) 13 M (gi τ 32)) 14 M x) 15 M 1) 16 M 0) 31 (nI (M + 1)) := ⟨_, rfl⟩
  have ht : Md_tell F τ (rlM r) x = some τ' := by
    rw [Md_tell, m31, gd_t (inb_nI (by omega) (by omega)), nI_clamp (by omega), f6, f5, nar, nI_1, e2]
  have fm : frM 0 N a M τ τ' := by
    rw [e2]
    refine ⟨fun j hj => ?_, fun j i hji => ?_, fun j _ => by simp [zs], fun j i j1 j2 => ?_, fun z => absurd h8 z, fun _ => by simp [zs]⟩
    · unfold exM at hj
      have j1 : j ≠ 31 := by omega
      simp [zs, j1]
    · unfold okM at hji
      simp only [at_si, at_sb, at_sa]
      rw [if_neg (by omega), if_neg (by omega), if_neg (by omega), if_neg (by omega), if_neg (by omega), if_neg (by omega)]
    · simp only [at_si, at_sb, at_sa]
      rw [if_neg (by omega)]
  have hr : ∀ i, M ≤ i → i < M + 1 → ga σ' 43 i ≠ 4 := by
    intro i i1 i2
    have : i = M := by omega
    subst this
    rw [me.1]
    exact h4
  have ec : c4 σ' (M + 1) = c4 σ M := by
    rw [c4_ext 1 hr, c4_fr M (fun i hi => fc.2.1 43 i (by omega))]
  refine ⟨σ', τ', e1, ht, ⟨⟨C1, ⟨by rw [e2]; simp [zs, m1], by rw [e2]; simp [zs, m2], by rw [e2]; exact curT_of m3 (by simp [zs]) (by simp [zs]) (by simp [zs]) (by simp [zs]) (by simp [zs]) (by simp [zs]) (by simp [zs]), by rw [e2]; simp [zs], by rw [e2]; simp [zs, m17], by rw [e2]; simp [zs, m16], by rw [e2]; simp [zs, m23], by rw [e2]; simp [zs, m18]⟩, fun i hi => ?_, js, jN, ja⟩, TLp_fr fc fm (by omega) (by omega) (Nat.le_succ _) (Nat.le_refl _) (fun i i1 i2 _ => by
    have : i = M := by omega
    subst this
    rw [me.2.2.2.1]
    exact hoD) hL, hss, ha, WK_fr fc fm (Nat.le_succ _) hr hW, frTC_tr f1 (frTC_C fc), frTM_tr f2 (frTM_M fm)⟩, fc, fm, ec, ic, fun j hj => by rw [e2]; simp [zs, hj], fun j => by rw [e2]; simp [zs]⟩
  rcases Nat.lt_or_ge i M with q | q
  · exact meR_fr fc fm q (jme i q)
  · have : i = M := by omega
    subst this
    obtain ⟨g1, g2, g3, g4, g5⟩ := me
    unfold meR
    rw [g1, g2, g3, g4, g5, e2]
    refine ⟨by simp [at_si, at_sb, at_sa], by simp [at_si, at_sb, at_sa], by simp [at_si, at_sb, at_sa], ?_, fun z => absurd z h5⟩
    have : ga (si (sa (sa (sa (sa (sa (sb (sa τ 10 i (rlM r)) 11 i (tkN B n k)) 12 i (nI (tkP B n k))) 13 i (gi τ 32)) 14 i x) 15 i 1) 16 i 0) 31 (nI (i + 1))) 13 i = gi τ 32 := by simp [at_si, at_sb, at_sa]
    rw [this]
    exact ho
/-- what changes a declaration alone -/
def frD (σ σ' : zS) : Prop := (∀ j, j ≠ 400 → j ≠ 606 → gi σ' j = gi σ j) ∧ (∀ j, j ≠ 29 → j ≠ 31 → j ≠ 32 → j ≠ 34 → j ≠ 35 → j ≠ 37 → ga σ' j = ga σ j) ∧ (∀ j, gl σ' j = gl σ j) ∧ (∀ j, j ≠ 30 → j ≠ 33 → gb σ' j = gb σ j) ∧ (∀ j, gr σ' j = gr σ j) ∧ (∀ j, mi σ' j = mi σ j) ∧ (∀ j, ma σ' j = ma σ j) ∧ (∀ j, mb σ' j = mb σ j)
def frE (D : Nat) (τ τ' : zS) : Prop := (∀ j, j ≠ 32 → j ≠ 52 → j ≠ 66 → j ≠ 67 → gi τ' j = gi τ j) ∧ (∀ j, j ≠ 33 → j ≠ 35 → j ≠ 36 → j ≠ 38 → j ≠ 39 → j ≠ 40 → ga τ' j = ga τ j) ∧ (∀ i, i < D → ga τ' 33 i = ga τ 33 i) ∧ (∀ j, gl τ' j = gl τ j) ∧ (∀ j, j ≠ 34 → j ≠ 37 → gb τ' j = gb τ j)
theorem TXn_dc {D' : Nat} {σ' τ' : zS} (h : TXn B n c σ0 τ0 σ τ k M s N a D S R TL) (h1 : frD σ σ') (h2 : frE D τ τ') (hD' : D ≤ D') : TXn B n c σ0 τ0 σ' τ' k M s N a D' S R TL := by
  obtain ⟨hJ, hL, hss, ha, hW, f1, f2⟩ := h
  obtain ⟨jC, jM, jme, js, jN, ja⟩ := hJ
  obtain ⟨a1, a2, a3, a4, a5, a6, a7, a8⟩ := h1
  obtain ⟨b1, b2, b3, b4, b5⟩ := h2
  obtain ⟨m1, m2, m3, m31, m17, m16, m23, m18⟩ := jM
  obtain ⟨c1, c2, c3, c4', c5, c6, c7, c8⟩ := jC
  refine ⟨⟨⟨by rw [a1 106 (by decide) (by decide), c1], c2, by rw [a1 105 (by decide) (by decide), c3], by rw [a2 20 (by decide) (by decide) (by decide) (by decide) (by decide) (by decide), a4 21 (by decide) (by decide), a2 22 (by decide) (by decide) (by decide) (by decide) (by decide) (by decide)]; exact c4', by rw [a5, c5], by rw [a6, c6], by rw [a1 505 (by decide) (by decide), c7], by rw [a1 200 (by decide) (by decide), c8]⟩, ⟨by rw [b2 1 (by decide) (by decide) (by decide) (by decide) (by decide) (by decide), m1], by rw [b1 2 (by decide) (by decide) (by decide) (by decide), m2], curT_of m3 (b1 3 (by decide) (by decide) (by decide) (by decide)) (b1 4 (by decide) (by decide) (by decide) (by decide)) (b1 5 (by decide) (by decide) (by decide) (by decide)) (b1 7 (by decide) (by decide) (by decide) (by decide)) (b1 8 (by decide) (by decide) (by decide) (by decide)) (b1 9 (by decide) (by decide) (by decide) (by decide)) (b4 6), by rw [b1 31 (by decide) (by decide) (by decide) (by decide), m31], by rw [b1 17 (by decide) (by decide) (by decide) (by decide), m17], by rw [b1 16 (by decide) (by decide) (by decide) (by decide), m16], by rw [b1 23 (by decide) (by decide) (by decide) (by decide), m23], by rw [b1 18 (by decide) (by decide) (by decide) (by decide), m18]⟩, fun i hi => ?_, js, jN, ja⟩, ⟨?_, ?_, ?_, ?_⟩, hss, ha, ⟨?_, ?_, ?_, ?_, hW.2.2.2.2.1, hW.2.2.2.2.2.1, fun i hi h4 => ?_⟩, frTC_tr f1 ?_, frTM_tr f2 ?_⟩
  · have q := jme i hi
    unfold meR at q ⊢
    rw [a2 43 (by decide) (by decide) (by decide) (by decide) (by decide) (by decide), a4 44 (by decide) (by decide), a2 45 (by decide) (by decide) (by decide) (by decide) (by decide) (by decide), a2 46 (by decide) (by decide) (by decide) (by decide) (by decide) (by decide), a2 47 (by decide) (by decide) (by decide) (by decide) (by decide) (by decide), b2 10 (by decide) (by decide) (by decide) (by decide) (by decide) (by decide), b5 11 (by decide) (by decide), b2 12 (by decide) (by decide) (by decide) (by decide) (by decide) (by decide), b2 13 (by decide) (by decide) (by decide) (by decide) (by decide) (by decide), b2 15 (by decide) (by decide) (by decide) (by decide) (by decide) (by decide), b2 16 (by decide) (by decide) (by decide) (by decide) (by decide) (by decide)]
    exact q
  · refine ⟨by rw [a6]; exact hL.1.1, fun i hi h4 => ?_⟩
    rw [a2 43 (by decide) (by decide) (by decide) (by decide) (by decide) (by decide)] at h4
    rw [a2 46 (by decide) (by decide) (by decide) (by decide) (by decide) (by decide)]
    obtain ⟨o, w1, w2⟩ := hL.1.2 i hi h4
    exact ⟨o, by omega, w2⟩
  · exact cTL_fr (Nat.le_refl _) TL 0 0 (fun i _ => ⟨by rw [a7], by rw [a7]⟩) (fun i _ => ⟨by rw [a7], by rw [a8], by rw [a7], by rw [a7]⟩) (fun i _ => ⟨by rw [a2 43 (by decide) (by decide) (by decide) (by decide) (by decide) (by decide)], by rw [a4 44 (by decide) (by decide)], by rw [a2 46 (by decide) (by decide) (by decide) (by decide) (by decide) (by decide)], by rw [a2 47 (by decide) (by decide) (by decide) (by decide) (by decide) (by decide)]⟩) hL.2.1
  · exact mTL_fr (Nat.le_refl _) (fun i hi => ⟨b3 i hi, by rw [b2 41 (by decide) (by decide) (by decide) (by decide) (by decide) (by decide)]⟩) (fun i _ => ⟨by rw [b2 2 (by decide) (by decide) (by decide) (by decide) (by decide) (by decide)], by rw [b5 3 (by decide) (by decide)], by rw [b2 4 (by decide) (by decide) (by decide) (by decide) (by decide) (by decide)], by rw [b2 5 (by decide) (by decide) (by decide) (by decide) (by decide) (by decide)]⟩) TL 0 0 0 hL.2.2.2 (fun i _ => ⟨by rw [b2 7 (by decide) (by decide) (by decide) (by decide) (by decide) (by decide)], by rw [b2 8 (by decide) (by decide) (by decide) (by decide) (by decide) (by decide)], by rw [b2 9 (by decide) (by decide) (by decide) (by decide) (by decide) (by decide)]⟩) hL.2.2.1
  · have key : ∀ (l : List TR) (lo : Nat), soL D lo l → soL D' lo l := by
      intro l
      induction l with
      | nil => intro lo _; trivial
      | cons e l ih =>
        obtain ⟨o, t, nn, As, me⟩ := e
        intro lo hl
        exact ⟨hl.1, by have := hl.2.1; omega, ih o hl.2.2⟩
    exact key TL 0 hL.2.2.2
  · rw [b1 62 (by decide) (by decide) (by decide) (by decide), hW.1, c4_fr (σ := σ) (σ' := σ') M (fun i _ => by rw [a2 43 (by decide) (by decide) (by decide) (by decide) (by decide) (by decide)])]
  · rw [a1 306 (by decide) (by decide)]; exact hW.2.1
  · rw [b1 48 (by decide) (by decide) (by decide) (by decide)]; exact hW.2.2.1
  · rw [b1 49 (by decide) (by decide) (by decide) (by decide)]; exact hW.2.2.2.1
  · rw [a2 43 (by decide) (by decide) (by decide) (by decide) (by decide) (by decide)] at h4
    rw [c4_fr (σ := σ) (σ' := σ') i (fun i _ => by rw [a2 43 (by decide) (by decide) (by decide) (by decide) (by decide) (by decide)])]
    refine wiR_fr (hW.2.2.2.2.2.2 i hi h4) (by rw [a4 44 (by decide) (by decide)]) (by rw [a2 45 (by decide) (by decide) (by decide) (by decide) (by decide) (by decide)]) (by rw [a2 47 (by decide) (by decide) (by decide) (by decide) (by decide) (by decide)]) (by rw [b5 42 (by decide) (by decide)]) (by rw [b2 43 (by decide) (by decide) (by decide) (by decide) (by decide) (by decide)]) (by rw [b2 44 (by decide) (by decide) (by decide) (by decide) (by decide) (by decide)]) (Nat.le_refl _) (Nat.le_refl _) (fun i _ => ⟨?_, ?_, ?_⟩) (fun i _ => ⟨?_, ?_, ?_, ?_⟩)
    · rw [a2 23 (by decide) (by decide) (by decide) (by decide) (by decide) (by decide)]
    · rw [a2 24 (by decide) (by decide) (by decide) (by decide) (by decide) (by decide)]
    · rw [a2 25 (by decide) (by decide) (by decide) (by decide) (by decide) (by decide)]
    · rw [b2 26 (by decide) (by decide) (by decide) (by decide) (by decide) (by decide)]
    · rw [b2 27 (by decide) (by decide) (by decide) (by decide) (by decide) (by decide)]
    · rw [b2 28 (by decide) (by decide) (by decide) (by decide) (by decide) (by decide)]
    · rw [b2 29 (by decide) (by decide) (by decide) (by decide) (by decide) (by decide)]
  · refine ⟨fun j hj => ?_, fun j hj => ?_, a3, fun j j1 j2 _ => a4 j j1 j2, a5, fun j _ _ => a6 j, fun j _ => a7 j, fun j _ => a8 j⟩
    · unfold exTi at hj; exact a1 j (by omega) (by omega)
    · unfold exTa at hj; exact a2 j (by omega) (by omega) (by omega) (by omega) (by omega) (by omega)
  · refine ⟨fun j hj => ?_, fun j hj => ?_, fun j _ => b4 j, fun j _ _ j3 j4 _ => b5 j j3 j4, fun _ => ⟨b1 8 (by decide) (by decide) (by decide) (by decide), b1 9 (by decide) (by decide) (by decide) (by decide)⟩, fun _ => b1 9 (by decide) (by decide) (by decide) (by decide)⟩
    · unfold exMi at hj; exact b1 j (by omega) (by omega) (by omega) (by omega)
    · unfold exMa at hj; exact b2 j (by omega) (by omega) (by omega) (by omega) (by omega) (by omega)
theorem frD_rfl (σ : zS) : frD σ σ := ⟨fun _ _ _ => rfl, fun _ _ _ _ _ _ _ => rfl, fun _ => rfl, fun _ _ _ => rfl, fun _ => rfl, fun _ => rfl, fun _ => rfl, fun _ => rfl⟩
theorem frE_rfl (D : Nat) (τ : zS) : frE D τ τ := ⟨fun _ _ _ _ _ => rfl, fun _ _ _ _ _ _ _ => rfl, fun _ _ => rfl, fun _ => rfl, fun _ _ _ => rfl⟩
end T
