/-! A text while it is read: what both hold of it. Own text. -/
/-- a type of the text: who it belongs to, its tree, its node in the reference, its acts, its method there -/
abbrev TR : Type := Nat × TE × Nat × List AE × Int32
/-- one declaration in both -/
def dcR (σ τ : zS) (i : Nat) : Prop := ∃ so q it, so ≤ 2 ∧ q ≤ 3 ∧ it ≤ 6 ∧ ga σ 29 i = nI so ∧ ga τ 33 i = nI so ∧ gb τ 34 i = gb σ 30 i ∧ ga τ 35 i = ga σ 31 i ∧ ga σ 32 i = nI q ∧ ga τ 36 i = nI q ∧ (∀ j, j < q → gb τ 37 (3 * i + j) = gb σ 33 (3 * i + j)) ∧ ga σ 34 i = nI it ∧ ga τ 38 i = nI it ∧ ga σ 35 i = 0 ∧ ga σ 37 i = 0
def DC (σ τ : zS) (D : Nat) : Prop := gi σ 400 = nI D ∧ gi τ 52 = nI D ∧ D ≤ 16 ∧ ∀ i, i < D → dcR σ τ i
theorem dcR_fr {σ σ' τ τ' : zS} {i : Nat} (h : dcR σ τ i) (h1 : ∀ j, (j = 29 ∨ j = 31 ∨ j = 32 ∨ j = 34 ∨ j = 35 ∨ j = 37) → ga σ' j i = ga σ j i) (h2 : gb σ' 30 i = gb σ 30 i) (h3 : ∀ j, j < 3 → gb σ' 33 (3 * i + j) = gb σ 33 (3 * i + j)) (h4 : ∀ j, (j = 33 ∨ j = 35 ∨ j = 36 ∨ j = 38) → ga τ' j i = ga τ j i) (h5 : gb τ' 34 i = gb τ 34 i) (h6 : ∀ j, j < 3 → gb τ' 37 (3 * i + j) = gb τ 37 (3 * i + j)) : dcR σ' τ' i := by
  obtain ⟨so, q, it, a1, a2, a3, a4, a5, a6, a7, a8, a9, a10, a11, a12, a13, a14⟩ := h
  refine ⟨so, q, it, a1, a2, a3, by rw [h1 29 (by omega), a4], by rw [h4 33 (by omega), a5], by rw [h5, h2, a6], by rw [h4 35 (by omega), h1 31 (by omega), a7], by rw [h1 32 (by omega), a8], by rw [h4 36 (by omega), a9], fun j hj => by rw [h6 j (by omega), h3 j (by omega), a10 j hj], by rw [h1 34 (by omega), a11], by rw [h4 38 (by omega), a12], by rw [h1 35 (by omega), a13], by rw [h1 37 (by omega), a14]⟩
/-- each leaf is a mention below M -/
def lfM (σ : zS) (M o : Nat) (t : TE) : Prop := (∀ c, c ∈ lvs t → ∃ i, i < M ∧ ga σ 43 i = (if lfB c = 0 then 5 else 6) ∧ gb σ 44 i = lfN c ∧ ga σ 46 i = nI o) ∧ ∀ e, e ∈ hdT t :: tlT t → e.1 = 2 → ∃ i v, i < M ∧ ga σ 43 i = 5 ∧ gb σ 44 i = e.2.1 ∧ ga σ 47 i = nI v ∧ v ≤ e.2.2.1
/-- the class's terms from term j, row place s on -/
def cTL (σ : zS) (M : Nat) : Nat → Nat → List TR → Prop
  | _, _, [] => True
  | j, s, (o, t, _, _, _) :: l => (ma σ 65 j = nI o ∧ ma σ 64 j = nI s ∧ okT t ∧ rwL σ 10 s (hdT t :: tlT t) ∧ lfM σ M o t) ∧ cTL σ M (j + 1) (s + lnT t) l
/-- the reference's, from act a, method mc on -/
def mTL (τ : zS) (hi : Nat) : Nat → Nat → List TR → Prop
  | _, _, [] => True
  | a, mc, (o, t, nn, As, me) :: l => (nd τ (nI o) me 0 hi t nn As ∧ acL τ a (As ++ [((if ga τ 33 o = 1 then 2 else 1), nn, plT t)]) ∧ (ga τ 33 o = 1 → ga τ 41 o = nI nn) ∧ me = (if ga τ 33 o = 2 then nI mc else -1) ∧ As.length + 1 ≤ lnT t) ∧ mTL τ hi (a + As.length + 1) (mc + if ga τ 33 o = 2 then 1 else 0) l
def lenT : List TR → Nat
  | [] => 0
  | (_, t, _, _, _) :: l => lnT t + lenT l
def actT : List TR → Nat
  | [] => 0
  | (_, _, _, As, _) :: l => As.length + 1 + actT l
/-- acts ahead of declaration i -/
def apos (i : Nat) : List TR → Nat
  | [] => 0
  | (o, _, _, As, _) :: l => (if o < i then As.length + 1 else 0) + apos i l
/-- owners in order, all below D -/
def soL (D : Nat) : Nat → List TR → Prop
  | _, [] => True
  | lo, (o, _, _, _, _) :: l => lo ≤ o ∧ o < D ∧ soL D o l
/-- methods so far -/
def mcT (τ : zS) : List TR → Nat
  | [] => 0
  | (o, _, _, _, _) :: l => (if ga τ 33 o = 2 then 1 else 0) + mcT τ l
theorem cTL_app (σ : zS) (M : Nat) : ∀ (l1 l2 : List TR) (j s : Nat), cTL σ M j s (l1 ++ l2) ↔ cTL σ M j s l1 ∧ cTL σ M (j + l1.length) (s + lenT l1) l2 := by
  intro l1
  induction l1 with
  | nil => intro l2 j s; simp [cTL, lenT]
  | cons e l ih =>
    intro l2 j s
    obtain ⟨o, t, nn, As, me⟩ := e
    simp only [List.cons_append, cTL, List.length_cons, ih, and_assoc, lenT]
    rw [show j + 1 + l.length = j + (l.length + 1) by omega, show s + lnT t + lenT l = s + (lnT t + lenT l) by omega]
theorem mTL_app (τ : zS) (hi : Nat) : ∀ (l1 l2 : List TR) (a mc : Nat), mTL τ hi a mc (l1 ++ l2) ↔ mTL τ hi a mc l1 ∧ mTL τ hi (a + actT l1) (mc + mcT τ l1) l2 := by
  intro l1
  induction l1 with
  | nil => intro l2 a mc; simp [mTL, actT, mcT]
  | cons e l ih =>
    intro l2 a mc
    obtain ⟨o, t, nn, As, me⟩ := e
    simp only [List.cons_append, mTL, ih, and_assoc, actT, mcT]
    rw [show a + As.length + 1 + actT l = a + (As.length + 1 + actT l) by omega, show (mc + if ga τ 33 o = 2 then 1 else 0) + mcT τ l = mc + ((if ga τ 33 o = 2 then 1 else 0) + mcT τ l) by omega]
theorem lenT_app : ∀ (l1 l2 : List TR), lenT (l1 ++ l2) = lenT l1 + lenT l2
  | [], l2 => by simp [lenT]
  | (_, t, _, _, _) :: l, l2 => by simp only [List.cons_append, lenT, lenT_app l l2]; omega
theorem actT_app : ∀ (l1 l2 : List TR), actT (l1 ++ l2) = actT l1 + actT l2
  | [], l2 => by simp [actT]
  | (_, _, _, As, _) :: l, l2 => by simp only [List.cons_append, actT, actT_app l l2]; omega
theorem apos_app (i : Nat) : ∀ (l1 l2 : List TR), apos i (l1 ++ l2) = apos i l1 + apos i l2
  | [], l2 => by simp [apos]
  | (_, _, _, As, _) :: l, l2 => by simp only [List.cons_append, apos, apos_app i l l2]; omega
theorem apos_all {D : Nat} : ∀ (l : List TR) (lo : Nat), soL D lo l → apos D l = actT l
  | [], _, _ => rfl
  | (o, _, _, As, _) :: l, lo, h => by simp only [apos, actT, if_pos h.2.1, apos_all l o h.2.2]
theorem soL_app {D D' : Nat} : ∀ (l1 l2 : List TR) (lo : Nat), soL D lo l1 → (∀ lo', lo' ≤ D → soL D' lo' l2) → D ≤ D' → lo ≤ D → soL D' lo (l1 ++ l2)
  | [], l2, lo, _, h2, _, hl => h2 lo hl
  | (o, _, _, _, _) :: l, l2, lo, h1, h2, hD, _ => ⟨h1.1, by have := h1.2.1; omega, soL_app l l2 o h1.2.2 h2 hD (by have := h1.2.1; omega)⟩
theorem mcT_fr {τ τ' : zS} {D : Nat} (h : ∀ i, i < D → ga τ' 33 i = ga τ 33 i) : ∀ (l : List TR) (lo : Nat), soL D lo l → mcT τ' l = mcT τ l
  | [], _, _ => rfl
  | (o, _, _, _, _) :: l, lo, hs => by simp only [mcT, h o hs.2.1, mcT_fr h l o hs.2.2]
theorem lfM_fr {σ σ' : zS} {M M' o : Nat} {t : TE} (hM : M ≤ M') (h : ∀ i, i < M → ga σ' 43 i = ga σ 43 i ∧ gb σ' 44 i = gb σ 44 i ∧ ga σ' 46 i = ga σ 46 i ∧ ga σ' 47 i = ga σ 47 i) (g : lfM σ M o t) : lfM σ' M' o t := by
  refine ⟨fun c hc => ?_, fun e he h2 => ?_⟩
  · obtain ⟨i, hi, a1, a2, a3⟩ := g.1 c hc
    obtain ⟨b1, b2, b3, _⟩ := h i hi
    exact ⟨i, by omega, b1.trans a1, b2.trans a2, b3.trans a3⟩
  · obtain ⟨i, v, hi, a1, a2, a3, a4⟩ := g.2 e he h2
    obtain ⟨b1, b2, b3, b4⟩ := h i hi
    exact ⟨i, v, by omega, b1.trans a1, b2.trans a2, b4.trans a3, a4⟩
theorem cTL_fr {σ σ' : zS} {M M' : Nat} (hM : M ≤ M') : ∀ (l : List TR) (j s : Nat), (∀ i, i < j + l.length → ma σ' 64 i = ma σ 64 i ∧ ma σ' 65 i = ma σ 65 i) → (∀ i, i < s + lenT l → ma σ' 60 i = ma σ 60 i ∧ mb σ' 61 i = mb σ 61 i ∧ ma σ' 62 i = ma σ 62 i ∧ ma σ' 63 i = ma σ 63 i) → (∀ i, i < M → ga σ' 43 i = ga σ 43 i ∧ gb σ' 44 i = gb σ 44 i ∧ ga σ' 46 i = ga σ 46 i ∧ ga σ' 47 i = ga σ 47 i) → cTL σ M j s l → cTL σ' M' j s l
  | [], _, _, _, _, _, _ => trivial
  | (o, t, nn, As, me) :: l, j, s, h1, h2, h3, h => by
    simp only [List.length_cons] at h1
    simp only [lenT] at h2
    obtain ⟨⟨a1, a2, a3, a4, a5⟩, a6⟩ := h
    obtain ⟨b1, b2⟩ := h1 j (by omega)
    refine ⟨⟨b2.trans a1, b1.trans a2, a3, rwL_fr _ _ (fun i i1 i2 => ?_) a4, lfM_fr hM h3 a5⟩, cTL_fr hM l (j + 1) (s + lnT t) (fun i hi => h1 i (by omega)) (fun i hi => h2 i (by omega)) h3 a6⟩
    simp only [List.length_cons] at i2
    exact h2 i (by unfold lnT; omega)
theorem mTL_fr {τ τ' : zS} {D hi hi' : Nat} (hh : hi ≤ hi') (h33 : ∀ i, i < D → ga τ' 33 i = ga τ 33 i ∧ ga τ' 41 i = ga τ 41 i) (hn : ∀ i, i < hi → ga τ' 2 i = ga τ 2 i ∧ gb τ' 3 i = gb τ 3 i ∧ ga τ' 4 i = ga τ 4 i ∧ ga τ' 5 i = ga τ 5 i) : ∀ (l : List TR) (a mc lo : Nat), soL D lo l → (∀ i, i < a + actT l → ga τ' 7 i = ga τ 7 i ∧ ga τ' 8 i = ga τ 8 i ∧ ga τ' 9 i = ga τ 9 i) → mTL τ hi a mc l → mTL τ' hi' a mc l
  | [], _, _, _, _, _, _ => trivial
  | (o, t, nn, As, me) :: l, a, mc, lo, hs, ha, h => by
    simp only [actT] at ha
    obtain ⟨⟨a1, a2, a3, a4, a5⟩, a6⟩ := h
    obtain ⟨b1, b2⟩ := h33 o hs.2.1
    unfold mTL
    rw [b1, b2]
    refine ⟨⟨nd_mono (τ := τ) (Nat.le_refl _) hh (fun i _ i2 => hn i i2) t nn As a1, acL_fr _ _ (fun i i1 i2 => ?_) a2, a3, a4, a5⟩, mTL_fr hh h33 hn l _ _ o hs.2.2 (fun i hi => ha i (by omega)) a6⟩
    simp only [List.length_append, List.length_cons, List.length_nil] at i2
    exact ha i (by omega)
/-- kinds that are told, of both -/
def c4 (σ : zS) : Nat → Nat
  | 0 => 0
  | i + 1 => c4 σ i + if ga σ 43 i = 4 then 1 else 0
def wiR (σ τ : zS) (S R i w : Nat) : Prop := gb τ 42 w = gb σ 44 i ∧ ga τ 43 w = ga σ 45 i ∧ ∃ T x z, ga σ 47 i = nI x ∧ ga τ 44 w = nI z ∧ kdC σ 1 S T x ∧ kdM τ 1 R T z
def WK (σ τ : zS) (M S R : Nat) : Prop := gi τ 62 = nI (c4 σ M) ∧ gi σ 306 = nI S ∧ gi τ 48 = nI R ∧ gi τ 49 = 0 ∧ 1 ≤ R ∧ R ≤ S ∧ ∀ i, i < M → ga σ 43 i = 4 → wiR σ τ S R i (c4 σ i)
theorem c4_fr {σ σ' : zS} : ∀ (M : Nat), (∀ i, i < M → ga σ' 43 i = ga σ 43 i) → c4 σ' M = c4 σ M
  | 0, _ => rfl
  | M + 1, h => by simp only [c4, c4_fr M (fun i hi => h i (by omega)), h M (by omega)]
theorem c4_le (σ : zS) : ∀ M, c4 σ M ≤ M
  | 0 => Nat.le_refl _
  | M + 1 => by simp only [c4]; have := c4_le σ M; split <;> omega
theorem c4_lt {σ : zS} : ∀ (M i : Nat), i < M → ga σ 43 i = 4 → c4 σ i < c4 σ M
  | 0, i, h, _ => by omega
  | M + 1, i, h, g => by
    simp only [c4]
    rcases Nat.lt_or_ge i M with q | q
    · have := c4_lt M i q g; omega
    · have : i = M := by omega
      subst this
      rw [if_pos g]
      omega
theorem wiR_fr {σ σ' τ τ' : zS} {S R S' R' i w : Nat} (h : wiR σ τ S R i w) (h1 : gb σ' 44 i = gb σ 44 i) (h2 : ga σ' 45 i = ga σ 45 i) (h3 : ga σ' 47 i = ga σ 47 i) (h4 : gb τ' 42 w = gb τ 42 w) (h5 : ga τ' 43 w = ga τ 43 w) (h6 : ga τ' 44 w = ga τ 44 w) (hS : S ≤ S') (hR : R ≤ R') (h7 : ∀ i, i < S → ga σ' 23 i = ga σ 23 i ∧ ga σ' 24 i = ga σ 24 i ∧ ga σ' 25 i = ga σ 25 i) (h8 : ∀ i, i < R → ga τ' 26 i = ga τ 26 i ∧ ga τ' 27 i = ga τ 27 i ∧ ga τ' 28 i = ga τ 28 i ∧ ga τ' 29 i = ga τ 29 i) : wiR σ' τ' S' R' i w := by
  obtain ⟨a1, a2, T, x, z, a3, a4, a5, a6⟩ := h
  exact ⟨by rw [h4, h1, a1], by rw [h5, h2, a2], T, x, z, h3.trans a3, h6.trans a4, kdC_mono (σ := σ) (Nat.le_refl _) hS (fun i _ i2 => h7 i i2) T x a5, kdM_mono (τ := τ) (Nat.le_refl _) hR (fun i _ i2 => h8 i i2) T z a6⟩
/-- what reading a text leaves alone -/
def exTi (j : Nat) : Prop := j = 106 ∨ j = 200 ∨ j = 201 ∨ j = 306 ∨ j = 400 ∨ j = 505 ∨ j = 606
def exTa (j : Nat) : Prop := j = 23 ∨ j = 24 ∨ j = 25 ∨ j = 29 ∨ j = 31 ∨ j = 32 ∨ j = 34 ∨ j = 35 ∨ j = 37 ∨ (43 ≤ j ∧ j ≤ 47)
def frTC (σ σ' : zS) : Prop := (∀ j, ¬ exTi j → gi σ' j = gi σ j) ∧ (∀ j, ¬ exTa j → ga σ' j = ga σ j) ∧ (∀ j, gl σ' j = gl σ j) ∧ (∀ j, j ≠ 30 → j ≠ 33 → j ≠ 44 → gb σ' j = gb σ j) ∧ (∀ j, gr σ' j = gr σ j) ∧ (∀ j, j ≠ 1004 → j ≠ 1007 → mi σ' j = mi σ j) ∧ (∀ j, (j < 60 ∨ 65 < j) → ma σ' j = ma σ j) ∧ (∀ j, j ≠ 61 → mb σ' j = mb σ j)
def exMi (j : Nat) : Prop := j = 3 ∨ j = 4 ∨ j = 5 ∨ j = 7 ∨ j = 8 ∨ j = 9 ∨ j = 16 ∨ j = 17 ∨ j = 18 ∨ j = 19 ∨ j = 23 ∨ j = 31 ∨ j = 32 ∨ j = 42 ∨ j = 48 ∨ j = 52 ∨ j = 62 ∨ j = 66 ∨ j = 67
def exMa (j : Nat) : Prop := j = 2 ∨ (4 ≤ j ∧ j ≤ 29) ∨ (31 ≤ j ∧ j ≤ 44)
def frTM (τ τ' : zS) : Prop := (∀ j, ¬ exMi j → gi τ' j = gi τ j) ∧ (∀ j, ¬ exMa j → ga τ' j = ga τ j) ∧ (∀ j, j ≠ 6 → gl τ' j = gl τ j) ∧ (∀ j, j ≠ 3 → j ≠ 11 → j ≠ 34 → j ≠ 37 → j ≠ 42 → gb τ' j = gb τ j) ∧ (gi τ 8 ≠ 0 → gi τ' 8 = gi τ 8 ∧ gi τ' 9 = gi τ 9) ∧ (gi τ' 8 = 0 → gi τ' 9 = gi τ 9)
theorem frTC_rfl (σ : zS) : frTC σ σ := ⟨fun _ _ => rfl, fun _ _ => rfl, fun _ => rfl, fun _ _ _ _ => rfl, fun _ => rfl, fun _ _ _ => rfl, fun _ _ => rfl, fun _ _ => rfl⟩
theorem frTC_tr {σ σ1 σ2 : zS} (h1 : frTC σ σ1) (h2 : frTC σ1 σ2) : frTC σ σ2 := by
  obtain ⟨a1, a2, a3, a4, a5, a6, a7, a8⟩ := h1
  obtain ⟨b1, b2, b3, b4, b5, b6, b7, b8⟩ := h2
  exact ⟨fun j h => (b1 j h).trans (a1 j h), fun j h => (b2 j h).trans (a2 j h), fun j => (b3 j).trans (a3 j), fun j g1 g2 g3 => (b4 j g1 g2 g3).trans (a4 j g1 g2 g3), fun j => (b5 j).trans (a5 j), fun j g1 g2 => (b6 j g1 g2).trans (a6 j g1 g2), fun j h => (b7 j h).trans (a7 j h), fun j h => (b8 j h).trans (a8 j h)⟩
theorem frTM_rfl (τ : zS) : frTM τ τ := ⟨fun _ _ => rfl, fun _ _ => rfl, fun _ _ => rfl, fun _ _ _ _ _ _ => rfl, fun _ => ⟨rfl, rfl⟩, fun _ => rfl⟩
theorem frTM_tr {τ τ1 τ2 : zS} (h1 : frTM τ τ1) (h2 : frTM τ1 τ2) : frTM τ τ2 := by
  obtain ⟨a1, a2, a3, a4, a5, a6⟩ := h1
  obtain ⟨b1, b2, b3, b4, b5, b6⟩ := h2
  refine ⟨fun j h => (b1 j h).trans (a1 j h), fun j h => (b2 j h).trans (a2 j h), fun j h => (b3 j h).trans (a3 j h), fun j g1 g2 g3 g4 g5 => (b4 j g1 g2 g3 g4 g5).trans (a4 j g1 g2 g3 g4 g5), ?_, ?_⟩
  · intro z
    obtain ⟨e1, e2⟩ := a5 z
    obtain ⟨f1, f2⟩ := b5 (by rw [e1]; exact z)
    exact ⟨f1.trans e1, f2.trans e2⟩
  · intro z
    have q : gi τ1 8 = 0 := by
      rcases Decidable.em (gi τ1 8 = 0) with q | q
      · exact q
      · have := (b5 q).1
        rw [z] at this
        exact absurd this.symm q
    exact (b6 z).trans (a6 q)
theorem frTC_C {M s : Nat} {σ σ' : zS} (h : frC 10 M s σ σ') : frTC σ σ' := by
  obtain ⟨a1, a2, a3, a4, a5, a6, a7, a8⟩ := h
  refine ⟨fun j hj => ?_, fun j hj => ?_, a3, fun j _ _ h3 => ?_, a5, fun j h1 _ => a6 j (by omega), fun j hj => ?_, fun j hj => ?_⟩
  · unfold exTi at hj; exact a1 j (by omega) (by omega) (by omega) (by omega)
  · unfold exTa at hj; funext i
    exact a2 j i (by omega)
  · funext i; exact a4 j i (Or.inl h3)
  · funext i; exact a7 j i (by unfold rA; omega)
  · funext i; exact a8 j i (by unfold rA; omega)
theorem frTC_K {S : Nat} {la : Int32} {σ σ' : zS} (h : frKC S la σ σ') : frTC σ σ' := by
  obtain ⟨a1, a2, a3, a4, a5, a6, a7, a8⟩ := h
  refine ⟨fun j hj => ?_, fun j hj => ?_, a3, fun j _ _ _ => a4 j, a5, fun j _ _ => a6 j, fun j _ => a7 j, fun j _ => a8 j⟩
  · unfold exTi at hj; exact a1 j (by omega) (by omega) (by omega) (by omega)
  · unfold exTa at hj; funext i; exact a2 j i (by omega) (by omega)
theorem frTM_M {Lv N a M : Nat} {τ τ' : zS} (h : frM Lv N a M τ τ') : frTM τ τ' := by
  obtain ⟨a1, a2, a3, a4, a5, a6⟩ := h
  refine ⟨fun j hj => ?_, fun j hj => ?_, a3, fun j h1 h2 _ _ _ => ?_, a5, a6⟩
  · unfold exMi at hj; exact a1 j (by unfold exM; omega)
  · unfold exMa at hj; funext i; exact a2 j i (by unfold okM; omega)
  · funext i; exact a4 j i (by omega) (by omega)
theorem frTM_K {Lv R : Nat} {q : Int32} {τ τ' : zS} (h : frK Lv R q τ τ') : frTM τ τ' := by
  obtain ⟨a1, a2, a3, a4, a5, a6⟩ := h
  refine ⟨fun j hj => ?_, fun j hj => ?_, a3, fun j _ _ _ _ _ => a4 j, a5, a6⟩
  · unfold exMi at hj; exact a1 j (by unfold exK; omega)
  · unfold exMa at hj; funext i; exact a2 j i ⟨by omega, by omega, by omega⟩
