/-! All synonyms replaced, in both. Own text. -/
def isSy (σ : zS) (D x y : Nat) : Prop := y < D ∧ 10 ≤ x ∧ lfB (x - 10) = 0 ∧ fTy σ (lfN (x - 10)) D 0 = nI y ∧ ga σ 29 y = 1
/-- a block that may stand in a row -/
def okb (σ : zS) (D : Nat) (b : BE) : Prop := okx b ∧ (∀ y, isSy σ D b.2 y → ∃ q, ga σ 32 y = nI q ∧ q ≤ 3 ∧ q ≤ b.1) ∧ (10 ≤ b.2 → gdc (b.2 - 10))
theorem okb_mono {σ : zS} {D k k' x : Nat} (h : k ≤ k') (g : okb σ D (k, x)) : okb σ D (k', x) := ⟨g.1, fun y hy => by
  obtain ⟨q, a1, a2, a3⟩ := g.2.1 y hy
  have a3' : q ≤ k := a3
  exact ⟨q, a1, a2, by show q ≤ k'; omega⟩, g.2.2⟩
def lkS (σ : zS) (D : Nat) (G : SG) (fv : Int64 → IT) (c : Nat) : IT := lkQ σ D G fv c
/-- what a text tells of its synonyms -/
def SYN (σ τ : zS) (D : Nat) (G : SG) : Prop := ∀ y, y < D → ga σ 29 y = 1 → ∃ q t nn As pr me lo hi pks r fv, ga σ 32 y = nI q ∧ q ≤ 3 ∧ (∀ i j, i < j → j < q → gb σ 33 (3 * y + i) ≠ gb σ 33 (3 * y + j)) ∧ okT t ∧ RY σ y (blk t) ∧ nd τ pr me lo hi t nn As ∧ hi ≤ 1000 ∧ ga τ 41 y = nI nn ∧ (it (blk t)).length ≤ 400 ∧ List.length pks = q ∧ gT G (ga σ 40 y).toNatClampNeg = arr pks r ∧ WT (lkQ σ D G fv) t r ∧ (∀ v j, fPa σ y v q 0 = nI j → j < q → pks[j]? = some (fv v)) ∧ (∀ c, c ∈ lvs t → lfB c ≠ 0 → fPa σ y (lfN c) q 0 ≠ -1) ∧ ∀ b, b ∈ blk t → okb σ D b
theorem mem_bmp {b : BE} {l : List BE} {j : Nat} (h : b ∈ bmp l j) : ∃ b', b' ∈ l ∧ b'.2 = b.2 := by
  cases l with
  | nil => cases h
  | cons c l =>
    rcases List.mem_cons.mp h with z | z
    · exact ⟨c, List.mem_cons_self, by rw [z]⟩
    · exact ⟨b, List.mem_cons_of_mem _ z, rfl⟩
theorem blk_lvs : ∀ (t : TE), okT t → ∀ b, b ∈ blk t → b.2 = 1 ∨ b.2 = 2 ∨ (10 ≤ b.2 ∧ b.2 - 10 ∈ lvs t)
  | .var c, _, b, h => by
    rw [List.mem_singleton.mp h]
    exact Or.inr (Or.inr ⟨by show 10 ≤ 10 + c; omega, by show 10 + c - 10 ∈ [c]; rw [Nat.add_sub_cancel_left]; exact List.mem_singleton.mpr rfl⟩)
  | .op (.op (.var 0) f) a, ok, b, h => by
    rcases List.mem_append.mp h with z | z
    · obtain ⟨b', b1, b2⟩ := mem_bmp z
      rw [← b2]
      rcases blk_lvs f ok.1 b' b1 with w | w | ⟨w1, w2⟩
      · exact Or.inl w
      · exact Or.inr (Or.inl w)
      · exact Or.inr (Or.inr ⟨w1, List.mem_append_left _ w2⟩)
    · rcases blk_lvs a ok.2 b z with w | w | ⟨w1, w2⟩
      · exact Or.inl w
      · exact Or.inr (Or.inl w)
      · exact Or.inr (Or.inr ⟨w1, List.mem_append_right _ w2⟩)
  | .op (.op (.var 1) l) r, ok, b, h => by
    rcases List.mem_cons.mp h with z | z
    · rw [z]; exact Or.inr (Or.inl rfl)
    · rcases List.mem_append.mp z with y | y
      · rcases blk_lvs l ok.1 b y with w | w | ⟨w1, w2⟩
        · exact Or.inl w
        · exact Or.inr (Or.inl w)
        · exact Or.inr (Or.inr ⟨w1, List.mem_append_left _ w2⟩)
      · rcases blk_lvs r ok.2 b y with w | w | ⟨w1, w2⟩
        · exact Or.inl w
        · exact Or.inr (Or.inl w)
        · exact Or.inr (Or.inr ⟨w1, List.mem_append_right _ w2⟩)
  | .op (.op (.var 2) (.var p)) t, ok, b, h => by
    rcases List.mem_cons.mp h with z | z
    · rw [z]; exact Or.inl rfl
    · exact blk_lvs t ok b z
  | .op (.op (.var 3) (.var p)) t, ok, b, h => blk_lvs t ok b h
section P
variable {F : Nat} {σ τ : zS} {D : Nat}
theorem synC (hF : 1300 ≤ F) (hdc : dcN σ τ D) {b : BE} (hx : okx b) : (∀ y, isSy σ D b.2 y → Te_findSynonym F σ (cEn b).1 (cEn b).2.1 = some (nI y, σ)) ∧ ((∀ y, ¬ isSy σ D b.2 y) → Te_findSynonym F σ (cEn b).1 (cEn b).2.1 = some (-1, σ)) := by
  have hD := hdc.2.2.1
  have h10 : 10 ≤ b.2 → (cEn b).2.1 = lfN (b.2 - 10) ∧ (lfB (b.2 - 10) = 0 → (cEn b).1 = 2) ∧ (lfB (b.2 - 10) ≠ 0 → (cEn b).1 = 3) := by
    intro h
    unfold cEn
    simp only [if_neg (show ¬ b.2 = 1 by omega), if_neg (show ¬ b.2 = 2 by omega), if_neg (show ¬ b.2 < 10 by omega)]
    exact ⟨trivial, fun z => by rw [if_pos z], fun z => by rw [if_neg z]⟩
  have hno : (cEn b).1 ≠ 2 → Te_findSynonym F σ (cEn b).1 (cEn b).2.1 = some (-1, σ) := fun z => by
    rw [Te_findSynonym, if_neg z, Te_findSynonym_14, if_pos (by decide)]; rfl
  refine ⟨fun y hy => ?_, fun hn => ?_⟩
  · obtain ⟨y1, y2, y3, y4, y5⟩ := hy
    obtain ⟨e1, e2, _⟩ := h10 y2
    rw [e1, e2 y3, Te_findSynonym, if_pos rfl, (findT hF hdc _).1, bi_some, y4, Te_findSynonym_14, if_neg (nI_pos (by omega)), gd_t (inb_nI (by omega) (by omega)), nI_clamp (by omega), if_pos y5]
    rfl
  · rcases hx with z | z | z
    · exact hno (by unfold cEn; simp only [z]; decide)
    · exact hno (by unfold cEn; simp only [z]; decide)
    · obtain ⟨e1, e2, e3⟩ := h10 z
      by_cases w : lfB (b.2 - 10) = 0
      · rw [e1, e2 w, Te_findSynonym, if_pos rfl, (findT hF hdc _).1, bi_some, Te_findSynonym_14]
        rcases fTy_rng σ (lfN (b.2 - 10)) D 0 with u | ⟨y, u1, u2, u3, _⟩
        · rw [u, if_pos (by decide)]; rfl
        · rw [u3, if_neg (nI_pos (by omega)), gd_t (inb_nI (by omega) (by omega)), nI_clamp (by omega), if_neg (fun v => hn y ⟨by omega, z, w, u3, v⟩)]; rfl
      · exact hno (by rw [e3 w]; decide)
theorem synM (hF : 1300 ≤ F) (hdc : dcN σ τ D) {v : Int32} {x : Nat} (hv : itR τ v x) : (∀ y, isSy σ D x y → Md_synonym F τ v = some (nI y, τ)) ∧ ((∀ y, ¬ isSy σ D x y) → Md_synonym F τ v = some (-1, τ)) := by
  have hD := hdc.2.2.1
  have no : Md_synonym_34 F τ = some (-1, τ) := by rw [Md_synonym_34, Md_synonym_35, if_pos (by decide)]; rfl
  rcases hv with ⟨h1, h2⟩ | ⟨h1, n, h2, h3, h4, h5⟩
  · have e : Md_synonym F τ v = some (-1, τ) := by
      rw [Md_synonym, h2, if_pos (show nI x < (10 : Int32) from nI_lt (a := x) (b := 10) h1 (by omega)), no]
    exact ⟨fun y hy => by have := hy.2.1; omega, fun _ => e⟩
  · have e10 : nI (10 + n) - (10 : Int32) = nI n := by
      rw [Nat.add_comm]
      exact nI_sb n 10
    have so : ∀ y, y < D → (ga τ 33 y = 1 ↔ ga σ 29 y = 1) := fun y hy => by
      obtain ⟨so, q', b1, b2, b3, b4, _⟩ := hdc.2.2.2 y hy
      rw [b3, b4]
    have e : Md_synonym F τ v = if ga τ 2 n = 0 then bi (Md_typeOf F τ (gb τ 3 n)) (fun r5 σ4 => Md_synonym_35 F σ4 r5) else Md_synonym_34 F τ := by
      rw [Md_synonym, h3, if_neg (nI_lt10 n h2), e10, gd_t (inb_nI (by omega) (by omega)), nI_clamp (by omega)]
    rw [e]
    refine ⟨fun y hy => ?_, fun hn => ?_⟩
    · obtain ⟨y1, y2, y3, y4, y5⟩ := hy
      rw [h4, y3, if_pos nI_0, h5, (findT hF hdc _).2, bi_some, y4, Md_synonym_35, if_neg (nI_pos (by omega)), gd_t (inb_nI (by omega) (by omega)), nI_clamp (by omega), if_pos ((so y y1).mpr y5)]
      rfl
    · by_cases w : lfB (x - 10) = 0
      · rw [h4, w, if_pos nI_0, h5, (findT hF hdc _).2, bi_some, Md_synonym_35]
        rcases fTy_rng σ (lfN (x - 10)) D 0 with u | ⟨y, u1, u2, u3, _⟩
        · rw [u, if_pos (by decide)]; rfl
        · rw [u3, if_neg (nI_pos (by omega)), gd_t (inb_nI (by omega) (by omega)), nI_clamp (by omega), if_neg (fun v => hn y ⟨by omega, h1, w, u3, (so y (by omega)).mp v⟩)]; rfl
      · have : lfB (x - 10) = 1 := by unfold lfB at w ⊢; omega
        rw [h4, this, if_neg (by decide), no]
/-- the class passes over what is no synonym -/
theorem scanC (hF : 1300 ≤ F) (hdc : dcN σ τ D) {Z Y : Nat} (hZ : isP Z) {B : List BE} {r : Nat} : ∀ (B1 : List BE) (A : List BE) (f : Nat), PR σ Z Y (A ++ (B1 ++ B)) → (∀ b, b ∈ B1 → okx b ∧ ∀ y, ¬ isSy σ D b.2 y) → r + A.length + B1.length ≤ 500 → Pl_replaceAll_40 F (f + B1.length) σ (nI r) (nI A.length) (nI (r + A.length)) = Pl_replaceAll_40 F f σ (nI r) (nI (A ++ B1).length) (nI (r + (A ++ B1).length)) := by
  have rZ := isP_row hZ
  intro B1
  induction B1 with
  | nil => intro A f _ _ _; simp
  | cons b B1 ih =>
    intro A f hP hb hr
    simp only [List.length_cons] at hr
    have hP0 := hP
    obtain ⟨p1, p2, p3, p4, p5, p6⟩ := hP
    have hlt : A.length < (A ++ (b :: B1 ++ B)).length := by simp
    rw [cRw_app] at p6
    obtain ⟨_, ⟨c1, c2, c3⟩, _⟩ := p6
    rw [Nat.zero_add] at c1 c2 c3
    obtain ⟨o1, o2⟩ := hb b List.mem_cons_self
    have hih := ih (A ++ [b]) f (by rw [List.append_assoc]; exact hP0) (fun b hb' => hb b (List.mem_cons_of_mem _ hb')) (by simp; omega)
    rw [List.length_cons, show f + (B1.length + 1) = f + B1.length + 1 by omega, Pl_replaceAll_40, Pl_replaceAll_b40, if_neg (show ¬ (500 : Int32) < nI (r + A.length) from nI_nlt (a := 500) (b := r + A.length) (by omega) (by omega)), p1, gd_t rZ, p5, if_neg (nI_ge hlt (by omega)), gd_t (inb_nI (by omega) (by omega)), nI_clamp (by omega), c1, c2, (synC hF hdc o1).2 o2, bi_some, if_neg (by decide), Pl_replaceAll_129, nI_1, nI_1]
    have e1 : (A ++ [b]).length = A.length + 1 := by simp
    rw [e1] at hih
    rw [show r + A.length + 1 = r + (A.length + 1) by omega, hih, List.append_assoc]
    rfl
/-- and so does the reference -/
theorem scanM (hF : 1300 ≤ F) (hdc : dcN σ τ D) {n : Nat} (h95 : gi τ 95 = nI n) (hn : n ≤ 1000) {x2 : Int32} : ∀ (J : List Nat) (f i : Nat), mRw τ 59 i J → i + J.length ≤ n → (∀ x, x ∈ J → ∀ y, ¬ isSy σ D x y) → Md_isPlain_17 F (f + J.length) τ x2 (nI i) = Md_isPlain_17 F f τ x2 (nI (i + J.length)) := by
  intro J
  induction J with
  | nil => intro f i _ _ _; rfl
  | cons x J ih =>
    intro f i hr hi hx
    simp only [List.length_cons] at hi ⊢
    rw [show f + (J.length + 1) = f + J.length + 1 by omega, Md_isPlain_17, Md_isPlain_b17, h95, if_neg (nI_ge (by omega) (by omega)), gd_t (inb_nI (by omega) (by omega)), nI_clamp (by omega), (synM hF hdc hr.1).2 (hx x List.mem_cons_self), bi_some, if_neg (by decide), nI_1, ih f (i + 1) hr.2 (by omega) (fun x hx' => hx x (List.mem_cons_of_mem _ hx')), show i + 1 + J.length = i + (J.length + 1) by omega]
theorem mem_it {x : Nat} : ∀ l : List BE, x ∈ it l → x = 0 ∨ ∃ b, b ∈ l ∧ b.2 = x
  | [], h => by cases h
  | b :: l, h => by
    rw [it, itB] at h
    rcases List.mem_append.mp h with z | z
    · rcases List.mem_append.mp z with w | w
      · exact Or.inl (List.eq_of_mem_replicate w)
      · exact Or.inr ⟨b, List.mem_cons_self, (List.mem_singleton.mp w).symm⟩
    · rcases mem_it l z with w | ⟨b', w1, w2⟩
      · exact Or.inl w
      · exact Or.inr ⟨b', List.mem_cons_of_mem _ w1, w2⟩
/-- the first synonym of a row -/
theorem first_sy (σ : zS) (D : Nat) : ∀ l : List BE, (∀ b, b ∈ l → ∀ y, ¬ isSy σ D b.2 y) ∨ ∃ B1 b B2 y, l = B1 ++ b :: B2 ∧ (∀ b, b ∈ B1 → ∀ y, ¬ isSy σ D b.2 y) ∧ isSy σ D b.2 y
  | [] => Or.inl (fun b hb => by cases hb)
  | b :: l => by
    by_cases h : ∃ y, isSy σ D b.2 y
    · obtain ⟨y, hy⟩ := h
      exact Or.inr ⟨[], b, l, y, rfl, (fun b hb => by cases hb), hy⟩
    · rcases first_sy σ D l with g | ⟨B1, b', B2, y, g1, g2, g3⟩
      · refine Or.inl (fun b' hb' y hy => ?_)
        rcases List.mem_cons.mp hb' with z | z
        · rw [z] at hy; exact h ⟨y, hy⟩
        · exact g b' z y hy
      · refine Or.inr ⟨b :: B1, b', B2, y, by rw [g1]; rfl, fun b' hb' y' hy' => ?_, g3⟩
        rcases List.mem_cons.mp hb' with z | z
        · rw [z] at hy'; exact h ⟨y', hy'⟩
        · exact g2 b' z y' hy'
end P
