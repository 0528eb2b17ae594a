/-! Who names whom, in both. Own text. -/
/-- nothing but these registers and arrays has changed -/
def sx (I A : List Nat) (σ σ' : zS) : Prop := (∀ r, r ∉ I → gi σ' r = gi σ r) ∧ (∀ a, a ∉ A → ga σ' a = ga σ a) ∧ σ'.2.2 = σ.2.2
theorem sx_rfl (I A : List Nat) (σ : zS) : sx I A σ σ := ⟨fun _ _ => rfl, fun _ _ => rfl, rfl⟩
theorem sx_tr {I A : List Nat} {σ σ1 σ2 : zS} (h : sx I A σ σ1) (g : sx I A σ1 σ2) : sx I A σ σ2 := ⟨fun r hr => (g.1 r hr).trans (h.1 r hr), fun a ha => (g.2.1 a ha).trans (h.2.1 a ha), g.2.2.trans h.2.2⟩
theorem sx_mono {I A I' A' : List Nat} {σ σ' : zS} (hI : ∀ r, r ∈ I → r ∈ I') (hA : ∀ r, r ∈ A → r ∈ A') (h : sx I A σ σ') : sx I' A' σ σ' := ⟨fun r hr => h.1 r (fun z => hr (hI r z)), fun a ha => h.2.1 a (fun z => ha (hA a z)), h.2.2⟩
theorem sx_si {I A : List Nat} {σ σ' : zS} (h : sx I A σ σ') {r : Nat} (hr : r ∈ I) (v : Int32) : sx I A σ (si σ' r v) := by
  refine ⟨fun q hq => ?_, fun a ha => ?_, h.2.2⟩
  · have : q ≠ r := fun z => hq (z ▸ hr)
    simp only [zs, if_neg this]; exact h.1 q hq
  · simp only [zs]; exact h.2.1 a ha
theorem sx_sA {I A : List Nat} {σ σ' : zS} (h : sx I A σ σ') {b : Nat} (hb : b ∈ A) (f : Nat → Int32) : sx I A σ (sA σ' b f) := by
  refine ⟨fun q hq => ?_, fun a ha => ?_, h.2.2⟩
  · simp only [zs]; exact h.1 q hq
  · have : a ≠ b := fun z => ha (z ▸ hb)
    simp only [zs, if_neg this]; exact h.2.1 a ha
theorem sx_sa {I A : List Nat} {σ σ' : zS} (h : sx I A σ σ') {b : Nat} (hb : b ∈ A) (i : Nat) (v : Int32) : sx I A σ (sa σ' b i v) := sx_sA h hb _
theorem sx_gb {I A : List Nat} {σ σ' : zS} (h : sx I A σ σ') (a : Nat) : gb σ' a = gb σ a := by unfold gb; rw [h.2.2]
theorem sx_gr {I A : List Nat} {σ σ' : zS} (h : sx I A σ σ') (a : Nat) : gr σ' a = gr σ a := by unfold gr; rw [h.2.2]
theorem sx_gl {I A : List Nat} {σ σ' : zS} (h : sx I A σ σ') (a : Nat) : gl σ' a = gl σ a := by unfold gl; rw [h.2.2]
theorem sx_mi {I A : List Nat} {σ σ' : zS} (h : sx I A σ σ') (a : Nat) : mi σ' a = mi σ a := by unfold mi; rw [h.2.2]
theorem sx_ma {I A : List Nat} {σ σ' : zS} (h : sx I A σ σ') (a : Nat) : ma σ' a = ma σ a := by unfold ma; rw [h.2.2]
theorem sx_mb {I A : List Nat} {σ σ' : zS} (h : sx I A σ σ') (a : Nat) : mb σ' a = mb σ a := by unfold mb; rw [h.2.2]
theorem sA_cm (σ : zS) {a b : Nat} (hab : a ≠ b) (f g : Nat → Int32) : sA (sA σ a f) b g = sA (sA σ b g) a f := by
  unfold sA
  have : fu (fu σ.2.1 a f) b g = fu (fu σ.2.1 b g) a f := by
    funext j; unfold fu
    by_cases h : j = b
    · rw [if_pos h, if_neg (by omega), if_pos h]
    · rw [if_neg h]
      by_cases h2 : j = a
      · rw [if_pos h2, if_pos h2]
      · rw [if_neg h2, if_neg h2, if_neg h]
  simp only [this]
theorem dcN_cg {σ σ' τ τ' : zS} {D : Nat} (h1 : gi σ' 400 = gi σ 400) (h2 : gi τ' 52 = gi τ 52) (h3 : ∀ a, a = 29 ∨ a = 31 ∨ a = 32 → ga σ' a = ga σ a) (h4 : ∀ a, a = 30 ∨ a = 33 → gb σ' a = gb σ a) (h5 : ∀ a, a = 33 ∨ a = 35 ∨ a = 36 → ga τ' a = ga τ a) (h6 : ∀ a, a = 34 ∨ a = 37 → gb τ' a = gb τ a) (h : dcN σ τ D) : dcN σ' τ' D := by
  unfold dcN at h ⊢
  rw [h1, h2, h3 29 (by omega), h3 31 (by omega), h3 32 (by omega), h4 30 (by omega), h4 33 (by omega), h5 33 (by omega), h5 35 (by omega), h5 36 (by omega), h6 34 (by omega), h6 37 (by omega)]
  exact h
theorem fTy_cg {σ σ' : zS} (h3 : ga σ' 29 = ga σ 29) (h4 : gb σ' 30 = gb σ 30) (v : Int64) : ∀ d i, fTy σ' v d i = fTy σ v d i
  | 0, _ => rfl
  | d + 1, i => by rw [fTy, fTy, h3, h4, fTy_cg h3 h4 v d (i + 1)]
theorem fDe_cg {σ σ' : zS} (h4 : gb σ' 30 = gb σ 30) (v : Int64) : ∀ d i, fDe σ' v d i = fDe σ v d i
  | 0, _ => rfl
  | d + 1, i => by rw [fDe, fDe, h4, fDe_cg h4 v d (i + 1)]
theorem fPa_cg {σ σ' : zS} (h4 : gb σ' 33 = gb σ 33) (o : Nat) (v : Int64) : ∀ d i, fPa σ' o v d i = fPa σ o v d i
  | 0, _ => rfl
  | d + 1, i => by rw [fPa, fPa, h4, fPa_cg h4 o v d (i + 1)]
/-- who names whom, by the mentions below m -/
def nbA (σ : zS) (D : Nat) : Nat → Nat → Nat → Bool
  | 0, _, _ => false
  | m + 1, i, j => nbA σ D m i j || (decide (ga σ 43 m = 5) && decide (i < D) && decide (j < D) && decide (ga σ 46 m = nI i) && decide (fTy σ (gb σ 44 m) D 0 = nI j))
theorem nbA_out {σ : zS} {D : Nat} : ∀ m i j, nbA σ D m i j = true → i < D ∧ j < D := by
  intro m
  induction m with
  | zero => intro i j h; rw [nbA] at h; cases h
  | succ m ih =>
    intro i j h
    rw [nbA] at h
    simp only [Bool.or_eq_true, Bool.and_eq_true, decide_eq_true_eq] at h
    rcases h with h | ⟨⟨⟨⟨_, h1⟩, h2⟩, _⟩, _⟩
    · exact ih i j h
    · exact ⟨h1, h2⟩
/-- only synonyms -/
def nbS (σ : zS) (D M : Nat) (i j : Nat) : Bool := nbA σ D M i j && decide (ga σ 29 i = 1) && decide (ga σ 29 j = 1)
section N
variable {F : Nat} {σ τ : zS} {D M : Nat}
theorem nm_own (h : nmR σ τ D M true) {i : Nat} (hi : i < M) (h5 : ga σ 43 i = 5) : ∃ o, o < D ∧ ga σ 46 i = nI o ∧ ga τ 13 i = nI o := by
  obtain ⟨h1, h2, h2', h3', h4, h5', h6⟩ := h
  obtain ⟨o, w1, w2⟩ := h5' rfl i hi (by rw [h5]; decide)
  refine ⟨o, w1, w2, ?_⟩
  rcases (h4 i hi).2.2.2.1 with w | ⟨w, _⟩
  · rw [w, w2]
  · rw [w2] at w
    have := h1.2.2.1
    exact absurd w (nI_m1 o (by omega))
/-- mention m names x y, or adds nothing -/
theorem nb_case (h : nmR σ τ D M true) {m : Nat} (hm : m < M) : (ga σ 43 m = 5 ∧ ∃ x y, x < D ∧ y < D ∧ ga σ 46 m = nI x ∧ ga τ 13 m = nI x ∧ fTy σ (gb σ 44 m) D 0 = nI y ∧ ∀ i j, nbA σ D (m + 1) i j = (nbA σ D m i j || (decide (i = x) && decide (j = y)))) ∨ ((ga σ 43 m = 5 → fTy σ (gb σ 44 m) D 0 = -1) ∧ ∀ i j, nbA σ D (m + 1) i j = nbA σ D m i j) := by
  have hD := h.1.2.2.1
  by_cases h5 : ga σ 43 m = 5
  · obtain ⟨x, x1, x2, x3⟩ := nm_own h hm h5
    rcases fTy_rng σ (gb σ 44 m) D 0 with w | ⟨y, w1, w2, w3, _⟩
    · refine Or.inr ⟨fun _ => w, fun i j => ?_⟩
      rw [nbA, w]
      by_cases hj : j < D
      · have : ¬ (-1 : Int32) = nI j := fun z => nI_m1 j (by omega) z.symm
        simp [this]
      · simp [hj]
    · refine Or.inl ⟨h5, x, y, x1, by omega, x2, x3, w3, fun i j => ?_⟩
      rw [nbA, x2, w3]
      congr 1
      by_cases hi : i < D
      · by_cases hj : j < D
        · simp only [h5, hi, hj, decide_true, Bool.true_and]
          congr 1
          · exact decide_eq_decide.mpr ⟨fun z => ((nI_eq (by omega) (by omega)).mp z).symm, fun z => by rw [z]⟩
          · exact decide_eq_decide.mpr ⟨fun z => ((nI_eq (by omega) (by omega)).mp z).symm, fun z => by rw [z]⟩
        · have : ¬ j = y := by omega
          simp [hj, this]
      · have : ¬ i = x := by omega
        simp [hi, this]
  · refine Or.inr ⟨fun z => absurd z h5, fun i j => ?_⟩
    rw [nbA]; simp [h5]
theorem note_loop (hF : 1300 ≤ F) (h : nmR σ τ D M true) : ∀ (d f m : Nat) (g : Nat → Int32), m + d = M → d < f → (∀ i, i < D → ∀ j, j < 32 → bq (g i) j = nbA σ D m i j) → ∃ g', Ch_noteNames_2 F f (sA σ 37 g) (nI m) = some (sA σ 37 g') ∧ (∀ i, i < D → ∀ j, j < 32 → bq (g' i) j = nbA σ D M i j) := by
  have hh := h
  obtain ⟨h1, h2, h2', h3', h4, h5, h6⟩ := h
  have hD := h1.2.2.1
  intro d
  induction d with
  | zero =>
    intro f m g hm hf hg
    obtain ⟨f, rfl⟩ : ∃ f', f = f' + 1 := ⟨f - 1, by omega⟩
    have : m = M := by omega
    subst this
    exact ⟨g, by rw [Ch_noteNames_2, Ch_noteNames_b2, show gi (sA σ 37 g) 505 = nI m by simp only [zs, h2], if_pos (nI_le (by omega) (by omega))], hg⟩
  | succ d ih =>
    intro f m g hm hf hg
    obtain ⟨f, rfl⟩ : ∃ f', f = f' + 1 := ⟨f - 1, by omega⟩
    have cm : (nI m).toNatClampNeg = m := nI_clamp (by omega)
    have hdc : dcN (sA σ 37 g) τ D := dcN_cg (σ := σ) (τ := τ) (by simp [zs]) rfl (by rintro a (rfl | rfl | rfl) <;> simp [zs]) (by rintro a (rfl | rfl) <;> simp [zs]) (fun _ _ => rfl) (fun _ _ => rfl) h1
    have eT : Te_findType F (sA σ 37 g) (gb σ 44 m) = some (fTy σ (gb σ 44 m) D 0, sA σ 37 g) := by
      rw [(findT (F := F) hF hdc _).1, fTy_cg (σ := σ) (by simp [zs]) (by simp [zs])]
    have e0 : Ch_noteNames_2 F (f + 1) (sA σ 37 g) (nI m) = if ga σ 43 m = 5 then Ch_noteNames_56 F (Ch_noteNames_2 F f) (sA σ 37 g) (nI m) (ga σ 46 m) (fTy σ (gb σ 44 m) D 0) else Ch_noteNames_56 F (Ch_noteNames_2 F f) (sA σ 37 g) (nI m) (ga σ 46 m) (-1) := by
      rw [Ch_noteNames_2, Ch_noteNames_b2, show gi (sA σ 37 g) 505 = nI M by simp only [zs, h2], if_neg (nI_ge (by omega) (by omega)), gd_t (inb_nI (by omega) (by omega)), cm]
      have e1 : ga (sA σ 37 g) 43 = ga σ 43 := by simp [zs]
      have e2 : gb (sA σ 37 g) 44 = gb σ 44 := by simp [zs]
      have e3 : ga (sA σ 37 g) 46 = ga σ 46 := by simp [zs]
      rw [e1, e2, e3, eT, bi_some]
    have eN : Ch_noteNames_56 F (Ch_noteNames_2 F f) (sA σ 37 g) (nI m) (ga σ 46 m) (-1) = Ch_noteNames_2 F f (sA σ 37 g) (nI (m + 1)) := by
      rw [Ch_noteNames_56, if_pos (by decide), Ch_noteNames_87, nI_1]
    rcases nb_case hh (m := m) (by omega) with ⟨c5, x, y, x1, y1, x2, x3, y2, hb⟩ | ⟨c1, hb⟩
    · have cx : (nI x).toNatClampNeg = x := nI_clamp (by omega)
      have hhas : Te_has F (sA σ 37 g) (nI x) = some (1, sA σ 37 g) := by
        rw [Te_has, if_neg (nI_pos (by omega)), hdc.1, if_neg (nI_ge x1 (by omega))]; rfl
      rw [e0, if_pos c5, y2, x2, Ch_noteNames_56, if_neg (nI_pos (by omega)), hhas, bi_some, if_neg (by decide), gd_t (inb_nI (by omega) (by omega)), cx, ga_sA, sa_sA', Ch_noteNames_87, nI_1]
      apply ih f (m + 1) _ (by omega) (by omega)
      intro i hi j hj
      rw [up_at, hb]
      by_cases e : i = x
      · subst e
        rw [if_pos rfl, bq_or, bq_shl (by omega), hg i hi j hj]; simp
      · rw [if_neg e, hg i hi j hj]; simp [e]
    · have : Ch_noteNames_2 F (f + 1) (sA σ 37 g) (nI m) = Ch_noteNames_2 F f (sA σ 37 g) (nI (m + 1)) := by
        rw [e0]
        by_cases c5 : ga σ 43 m = 5
        · rw [if_pos c5, c1 c5, eN]
        · rw [if_neg c5, eN]
      rw [this]
      exact ih f (m + 1) g (by omega) (by omega) (fun i hi j hj => by rw [hb, hg i hi j hj])
theorem note_ok (hF : 1300 ≤ F) (h : nmR σ τ D M true) (h37 : ∀ i, i < D → ga σ 37 i = 0) : ∃ g, Ch_noteNames F σ = some (sA σ 37 g) ∧ mkR (sA σ 37 g) 37 D (nbA σ D M) := by
  obtain ⟨g, e, w⟩ := note_loop (F := F) hF h M F 0 (ga σ 37) (by omega) (by have := h.2.2.2.1; omega) (fun i hi j hj => by rw [h37 i hi, bq_0]; rfl)
  rw [sA_self] at e
  refine ⟨g, e, fun i hi j hj => ?_⟩
  rw [ga_sA]; exact w i hi j hj
theorem fn_zero (hF : 1300 ≤ F) : ∀ (d f k : Nat) (p q : Nat → Int32), k + d = 256 → d < f → (∀ i, i < k → p i = 0 ∧ q i = 0) → ∃ p' q', Md_findNeeds_2 F f (sA (sA τ 46 p) 47 q) (nI k) = Md_findNeeds_31 F F (sA (sA τ 46 p') 47 q') 0 ∧ ∀ i, i < 256 → p' i = 0 ∧ q' i = 0 := by
  intro d
  induction d with
  | zero =>
    intro f k p q hk hf hp
    obtain ⟨f, rfl⟩ : ∃ f', f = f' + 1 := ⟨f - 1, by omega⟩
    refine ⟨p, q, ?_, fun i hi => hp i (by omega)⟩
    rw [Md_findNeeds_2, Md_findNeeds_b2, show (256 : Int32) = nI 256 from rfl, if_pos (nI_le (by omega) (by omega))]
  | succ d ih =>
    intro f k p q hk hf hp
    obtain ⟨f, rfl⟩ : ∃ f', f = f' + 1 := ⟨f - 1, by omega⟩
    have v0 : vp_nar .boolean (0 : Int32) = 0 := by decide
    have e1 : sa (sa (sA (sA τ 46 p) 47 q) 46 k 0) 47 k 0 = sA (sA τ 46 (upd p k 0)) 47 (upd q k 0) := by
      rw [sA_cm τ (by decide), sa_sA', sA_cm τ (by decide), sa_sA']
    rw [Md_findNeeds_2, Md_findNeeds_b2, if_neg (show ¬ (256 : Int32) ≤ nI k from nI_ge (b := 256) (by omega) (by omega)), gd_t (inb_nI (by omega) (by omega)), nI_clamp (by omega), v0, e1, nI_1]
    apply ih f (k + 1) _ _ (by omega) (by omega)
    intro i hi
    rw [up_at, up_at]
    by_cases e : i = k
    · rw [if_pos e, if_pos e]; exact ⟨rfl, rfl⟩
    · rw [if_neg e, if_neg e]; exact hp i (by omega)
theorem fn_loop (hF : 1300 ≤ F) (h : nmR σ τ D M true) : ∀ (d f m : Nat) (p q : Nat → Int32), m + d = M → d < f → (∀ i j, i < 16 → j < 16 → p (16 * i + j) = (if nbA σ D m i j = true then 1 else 0) ∧ q (16 * i + j) = if (nbS σ D m i j) = true then 1 else 0) → ∃ p' q', Md_findNeeds_31 F f (sA (sA τ 46 p) 47 q) (nI m) = bv (Md_close F (sA (sA τ 46 p') 47 q') 46) (fun σ2 => bv (Md_close F σ2 47) (fun σ4 => some σ4)) ∧ (∀ i j, i < 16 → j < 16 → p' (16 * i + j) = (if nbA σ D M i j = true then 1 else 0) ∧ q' (16 * i + j) = if (nbS σ D M i j) = true then 1 else 0) := by
  have hh := h
  obtain ⟨h1, h2, h2', h3', h4, h5, h6⟩ := h
  have hD := h1.2.2.1
  intro d
  induction d with
  | zero =>
    intro f m p q hm hf hg
    obtain ⟨f, rfl⟩ : ∃ f', f = f' + 1 := ⟨f - 1, by omega⟩
    have : m = M := by omega
    subst this
    exact ⟨p, q, by rw [Md_findNeeds_31, Md_findNeeds_b31, show gi (sA (sA τ 46 p) 47 q) 31 = nI m by simp only [zs, h2'], if_pos (nI_le (by omega) (by omega))], hg⟩
  | succ d ih =>
    intro f m p q hm hf hg
    obtain ⟨f, rfl⟩ : ∃ f', f = f' + 1 := ⟨f - 1, by omega⟩
    have cm : (nI m).toNatClampNeg = m := nI_clamp (by omega)
    obtain ⟨m1, m2, m3, m4, m5⟩ := h4 m (by omega)
    obtain ⟨τ1, hτ⟩ : ∃ τ1, τ1 = sA (sA τ 46 p) 47 q := ⟨_, rfl⟩
    have hdc : dcN σ τ1 D := by
      rw [hτ]
      exact dcN_cg (σ := σ) (τ := τ) rfl (by simp [zs]) (fun _ _ => rfl) (fun _ _ => rfl) (by rintro a (rfl | rfl | rfl) <;> simp [zs]) (by rintro a (rfl | rfl) <;> simp [zs]) h1
    have eT : Md_typeOf F τ1 (gb σ 44 m) = some (fTy σ (gb σ 44 m) D 0, τ1) := (findT (F := F) hF hdc _).2
    have e10 : ga τ1 10 = ga τ 10 := by rw [hτ]; simp [zs]
    have e11 : gb τ1 11 = gb τ 11 := by rw [hτ]; simp [zs]
    have e13 : ga τ1 13 = ga τ 13 := by rw [hτ]; simp [zs]
    have e33 : ga τ1 33 = ga τ 33 := by rw [hτ]; simp [zs]
    have e31 : gi τ1 31 = nI M := by rw [hτ]; simp [zs, h2']
    have e0 : Md_findNeeds_31 F (f + 1) τ1 (nI m) = if ga σ 43 m = 5 then Md_findNeeds_63 F (Md_findNeeds_31 F f) τ1 (nI m) (fTy σ (gb σ 44 m) D 0) else Md_findNeeds_63 F (Md_findNeeds_31 F f) τ1 (nI m) (-1) := by
      rw [Md_findNeeds_31, Md_findNeeds_b31, e31, if_neg (nI_ge (by omega) (by omega)), gd_t (inb_nI (by omega) (by omega)), cm, e10, e11, m3, m1, eT, bi_some]
      by_cases r5 : ga σ 43 m = 5
      · rw [if_pos r5, if_pos ((rlM_iff _).2.2.2.1.mpr r5)]
      · rw [if_neg r5, if_neg (fun z => r5 ((rlM_iff _).2.2.2.1.mp z))]
    have eN : Md_findNeeds_63 F (Md_findNeeds_31 F f) τ1 (nI m) (-1) = Md_findNeeds_31 F f τ1 (nI (m + 1)) := by
      rw [Md_findNeeds_63, if_pos (by decide), Md_findNeeds_123, nI_1]
    rw [← hτ]
    rcases nb_case hh (m := m) (by omega) with ⟨c5, x, y, x1, y1, x2, x3, y2, hb⟩ | ⟨c1, hb⟩
    · have cx : (nI x).toNatClampNeg = x := nI_clamp (by omega)
      have cy : (nI y).toNatClampNeg = y := nI_clamp (by omega)
      obtain ⟨so, q1, b1, b2, b3, b4, b5, b6, b7, b8, b9⟩ := h1.2.2.2 x x1
      obtain ⟨so', q1', b1', b2', b3', b4', b5', b6', b7', b8', b9'⟩ := h1.2.2.2 y y1
      have v1 : vp_nar .boolean (1 : Int32) = 1 := by decide
      have v0 : vp_nar .boolean (0 : Int32) = 0 := by decide
      have cxy : (nI (16 * x + y)).toNatClampNeg = 16 * x + y := nI_clamp (by omega)
      obtain ⟨B, hB⟩ : ∃ B : Bool, B = (decide (ga σ 29 x = 1) && decide (ga σ 29 y = 1)) := ⟨_, rfl⟩
      have key : Md_findNeeds_31 F (f + 1) τ1 (nI m) = Md_findNeeds_31 F f (sA (sA τ 46 (upd p (16 * x + y) 1)) 47 (upd q (16 * x + y) (if B = true then 1 else 0))) (nI (m + 1)) := by
        have w1 : ∀ v, sa (sa τ1 46 (16 * x + y) 1) 47 (16 * x + y) v = sA (sA τ 46 (upd p (16 * x + y) 1)) 47 (upd q (16 * x + y) v) := by
          intro v
          rw [hτ, sA_cm τ (by decide), sa_sA', sA_cm τ (by decide), sa_sA']
        rw [e0, if_pos c5, y2, Md_findNeeds_63, if_neg (nI_pos (by omega)), gd_t (inb_nI (by omega) (by omega)), cm, e13, x3, e16, gd_t (inb_nI (by omega) (by omega)), gd_t (inb_nI (by omega) (by omega)), cx, cy, cxy, e33, gd_t (inb_nI (by omega) (by omega)), v1]
        unfold Md_findNeeds_121 Md_findNeeds_122
        rw [gd_t (inb_nI (by omega) (by omega)), gd_t (inb_nI (by omega) (by omega)), cxy, v1, v0, w1, w1, Md_findNeeds_123, Md_findNeeds_123, nI_1, b4, b4', ← b3, ← b3', hB]
        by_cases s1 : ga σ 29 x = 1
        · by_cases s2 : ga σ 29 y = 1
          · rw [if_pos s1, if_pos s2]; simp [s1, s2]
          · rw [if_pos s1, if_neg s2]; simp [s2]
        · rw [if_neg s1]; simp [s1]
      rw [key]
      apply ih f (m + 1) _ _ (by omega) (by omega)
      intro i j hi hj
      obtain ⟨g1, g2⟩ := hg i j hi hj
      rw [up_at, up_at, hb, nbS, hb]
      by_cases e : 16 * i + j = 16 * x + y
      · have ei : i = x := by omega
        have ej : j = y := by omega
        subst ei; subst ej
        rw [if_pos rfl, if_pos rfl]
        refine ⟨by simp, ?_⟩
        rw [hB]; simp
      · have : ¬ (i = x ∧ j = y) := fun z => e (by rw [z.1, z.2])
        have z : (decide (i = x) && decide (j = y)) = false := by
          cases hz : (decide (i = x) && decide (j = y)) with
          | false => rfl
          | true => simp only [Bool.and_eq_true, decide_eq_true_eq] at hz; exact absurd hz this
        rw [if_neg e, if_neg e, z, Bool.or_false, g1, g2]
        exact ⟨rfl, rfl⟩
    · have : Md_findNeeds_31 F (f + 1) τ1 (nI m) = Md_findNeeds_31 F f τ1 (nI (m + 1)) := by
        rw [e0]
        by_cases c5 : ga σ 43 m = 5
        · rw [if_pos c5, c1 c5, eN]
        · rw [if_neg c5, eN]
      rw [this, hτ]
      exact ih f (m + 1) p q (by omega) (by omega) (fun i j hi hj => by
        obtain ⟨g1, g2⟩ := hg i j hi hj
        rw [nbS, hb, g1, g2]; exact ⟨rfl, rfl⟩)
theorem needs_ok (hF : 1300 ≤ F) (h : nmR σ τ D M true) : ∃ p q, Md_findNeeds F τ = some (sA (sA τ 46 p) 47 q) ∧ rwR (sA (sA τ 46 p) 47 q) 46 (cw (nbA σ D M) 16) ∧ rwR (sA (sA τ 46 p) 47 q) 47 (cw (nbS σ D M) 16) := by
  obtain ⟨p, q, e, w⟩ := fn_zero (F := F) (τ := τ) hF 256 F 0 (ga τ 46) (ga τ 47) (by omega) (by omega) (fun i hi => by omega)
  have e0 : sA (sA τ 46 (ga τ 46)) 47 (ga τ 47) = τ := by rw [sA_self, sA_self]
  rw [e0] at e
  obtain ⟨p1, q1, e1, w1⟩ := fn_loop (F := F) hF h M F 0 p q (by omega) (by have := h.2.2.2.1; omega) (fun i j hi hj => by
    obtain ⟨a1, a2⟩ := w (16 * i + j) (by omega)
    rw [a1, a2, nbS, nbA]; exact ⟨by simp, by simp⟩)
  obtain ⟨g, e2, w2⟩ := closeR (F := F) (τ := sA (sA τ 46 p1) 47 q1) (A := nbA σ D M) hF (b := 46) (by decide) (fun i j hi hj => by
    simp only [zs]; exact (w1 i j hi hj).1)
  obtain ⟨g', e3, w3⟩ := closeR (F := F) (τ := sA (sA (sA τ 46 p1) 47 q1) 46 g) (A := nbS σ D M) hF (b := 47) (by decide) (fun i j hi hj => by
    simp only [zs]; exact (w1 i j hi hj).2)
  have e4 : sA (sA (sA (sA τ 46 p1) 47 q1) 46 g) 47 g' = sA (sA τ 46 g) 47 g' := by
    rw [sA_cm (sA τ 46 p1) (a := 47) (b := 46) (by decide), sA_sA, sA_sA]
  refine ⟨g, g', ?_, ?_, ?_⟩
  · rw [Md_findNeeds, show (0 : Int32) = nI 0 from rfl, e, show (0 : Int32) = nI 0 from rfl, e1, e2, bv_some, e3, bv_some, e4]
  · intro i j hi hj
    have := w2 i j hi hj
    simp only [zs] at this ⊢
    exact this
  · rw [← e4]; exact w3
end N
