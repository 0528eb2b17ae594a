/-! The class's store: finding, pushing, merging. Own text. -/
def CS (σ : zS) (G : SG) : Prop := gi σ 306 = nI (gn G) ∧ 1 ≤ gn G ∧ gn G ≤ 1713 ∧ gup G 0 = 0 ∧ gso G 0 = 1 ∧ wfG G ∧ ∀ k, k < gn G → (gup G k = k → ga σ 25 k = -1) ∧ (gup G k ≠ k → ga σ 25 k = nI (gup G k)) ∧ (k ≠ 0 → (gso G k = 0 ∧ ga σ 23 k = -1) ∨ (gso G k = 2 ∧ ga σ 23 k = nI (gle G k) ∧ ga σ 24 k = nI (gri G k)))
theorem CS_cg {σ σ' : zS} {G : SG} (h1 : gi σ' 306 = gi σ 306) (h2 : ∀ k, k < gn G → ga σ' 23 k = ga σ 23 k ∧ ga σ' 24 k = ga σ 24 k ∧ ga σ' 25 k = ga σ 25 k) (h : CS σ G) : CS σ' G := by
  obtain ⟨a1, a2, a3, a4, a5, a6, a7⟩ := h
  refine ⟨h1.trans a1, a2, a3, a4, a5, a6, fun k hk => ?_⟩
  obtain ⟨b1, b2, b3⟩ := h2 k hk
  rw [b1, b2, b3]
  exact a7 k hk
theorem CS_sx {I A : List Nat} {σ σ' : zS} {G : SG} (h : sx I A σ σ') (h1 : 306 ∉ I) (h2 : 23 ∉ A) (h3 : 24 ∉ A) (h4 : 25 ∉ A) (g : CS σ G) : CS σ' G :=
  CS_cg (h.1 306 h1) (fun k _ => ⟨by rw [h.2.1 23 h2], by rw [h.2.1 24 h3], by rw [h.2.1 25 h4]⟩) g
theorem nrt_lt {G : SG} {k : Nat} (hk : k < gn G) (hr : gup G k = k) : nrt G < gn G := by
  have h2 := cN_lt (p := fun k => decide (gup G k ≠ k)) (q := fun _ => true) (fun _ _ => rfl) (i := k) (by simp [hr]) rfl (gn G) hk
  have h3 := cN_le (fun _ => true) (gn G)
  unfold nrt; omega
section K
variable {F : Nat} {σ : zS} {G : SG}
theorem fi_loop (h : CS σ G) : ∀ (j f k r c : Nat), chn (gup G) j k r → k < gn G → c + j < 1713 → j < f → Ki_find_4 F f σ (nI k) (nI c) = some (nI r, σ) := by
  obtain ⟨a1, a2, a3, a4, a5, a6, a7⟩ := h
  intro j
  induction j with
  | zero =>
    intro f k r c hc hk hcj hf
    obtain ⟨f, rfl⟩ : ∃ f', f = f' + 1 := ⟨f - 1, by omega⟩
    obtain ⟨h1, h2⟩ := hc
    subst h1
    rw [Ki_find_4, Ki_find_b4, if_neg (show ¬ (1713 : Int32) ≤ nI c from nI_ge (b := 1713) (by omega) (by omega)), gd_t (inb_nI (by omega) (by omega)), nI_clamp (by omega), if_pos ((a7 k hk).1 h2)]
    rfl
  | succ j ih =>
    intro f k r c hc hk hcj hf
    obtain ⟨f, rfl⟩ : ∃ f', f = f' + 1 := ⟨f - 1, by omega⟩
    have hu := (a6.1 k hk).2.1
    have e := (a7 k hk).2.1 hc.1
    rw [Ki_find_4, Ki_find_b4, if_neg (show ¬ (1713 : Int32) ≤ nI c from nI_ge (b := 1713) (by omega) (by omega)), gd_t (inb_nI (by omega) (by omega)), nI_clamp (by omega), e, if_neg (nI_m1 _ (by omega)), nI_1]
    exact ih f _ r (c + 1) hc.2 hu (by omega) (by omega)
theorem findC (hF : 20000 ≤ F) (h : CS σ G) {k : Nat} (hk : k < gn G) : Ki_find F σ (nI k) = some (nI (rt G k), σ) := by
  obtain ⟨a1, a2, a3, a4, a5, a6, a7⟩ := h
  obtain ⟨j, c1, c2, c3⟩ := rt_ch a6 hk
  have := nrt_lt (G := G) (k := 0) (by omega) a4
  exact fi_loop (F := F) ⟨a1, a2, a3, a4, a5, a6, a7⟩ j F k _ 0 c1 hk (by omega) (by omega)
theorem isOpC (h : CS σ G) {k : Nat} (hk : k < gn G) : Ki_isOpen F σ (nI k) = some (if gso G k = 0 then 1 else 0, σ) := by
  obtain ⟨a1, a2, a3, a4, a5, a6, a7⟩ := h
  have r0 : Ki_isOpen_18 F σ = some (0, σ) := by rw [Ki_isOpen_18, Ki_isOpen_19, gd_t (by decide)]
  have r1 : Ki_isOpen_19 F σ 1 = some (1, σ) := by rw [Ki_isOpen_19, gd_t (by decide)]
  rw [Ki_isOpen, r0, r1]
  by_cases e : k = 0
  · subst e
    rw [if_pos (show nI 0 = (0 : Int32) from rfl), a5]; rfl
  · have hz : ¬ nI k = (0 : Int32) := fun z => e ((nI_eq (a := k) (b := 0) (by omega) (by omega)).mp z)
    rw [if_neg hz, gd_t (inb_nI (by omega) (by omega)), nI_clamp (by omega)]
    rcases (a7 k hk).2.2 e with ⟨b1, b2⟩ | ⟨b1, b2, b3⟩
    · rw [if_pos b2, if_pos b1]
    · have := ((a6.1 k hk).2.2 b1).1
      rw [b2, if_neg (nI_m1 _ (by omega)), if_neg (by omega)]
theorem isArC (h : CS σ G) {k : Nat} (hk : k < gn G) : Ki_isArrow F σ (nI k) = some (if gso G k = 2 then 1 else 0, σ) := by
  obtain ⟨a1, a2, a3, a4, a5, a6, a7⟩ := h
  have r0 : Ki_isArrow_18 F σ = some (0, σ) := by rw [Ki_isArrow_18, Ki_isArrow_19, gd_t (by decide)]
  have r1 : Ki_isArrow_19 F σ 1 = some (1, σ) := by rw [Ki_isArrow_19, gd_t (by decide)]
  rw [Ki_isArrow, r0, r1]
  by_cases e : k = 0
  · subst e
    rw [if_pos (show nI 0 = (0 : Int32) from rfl), a5]; rfl
  · have hz : ¬ nI k = (0 : Int32) := fun z => e ((nI_eq (a := k) (b := 0) (by omega) (by omega)).mp z)
    rw [if_neg hz, gd_t (inb_nI (by omega) (by omega)), nI_clamp (by omega)]
    rcases (a7 k hk).2.2 e with ⟨b1, b2⟩ | ⟨b1, b2, b3⟩
    · rw [if_pos b2, if_neg (by omega)]
    · have := ((a6.1 k hk).2.2 b1).1
      rw [b2, if_neg (nI_m1 _ (by omega)), if_pos b1]
/-- the stack, its top first -/
def stL (σ : zS) (a : Nat) : List Nat → Prop
  | [] => True
  | x :: l => ga σ a l.length = nI x ∧ stL σ a l
def stC (σ : zS) (L : List Nat) : Prop := gi σ 309 = nI L.length ∧ stL σ 28 L
theorem stL_cg {σ σ' : zS} {a a' : Nat} : ∀ (L : List Nat), (∀ i, i < L.length → ga σ' a' i = ga σ a i) → stL σ a L → stL σ' a' L
  | [], _, _ => trivial
  | x :: l, h, g => ⟨by rw [h l.length (by simp only [List.length_cons]; omega)]; exact g.1, stL_cg l (fun i hi => h i (by simp only [List.length_cons]; omega)) g.2⟩
theorem pushC {L : List Nat} (h : stC σ L) (hL : L.length < 3434) (x : Nat) : ∃ σ', Ki_push F σ (nI x) = some σ' ∧ stC σ' (x :: L) ∧ sx [309] [28] σ σ' := by
  obtain ⟨h1, h2⟩ := h
  refine ⟨si (sa σ 28 L.length (nI x)) 309 (nI (L.length + 1)), ?_, ⟨by simp [zs], ?_, ?_⟩, sx_si (sx_sa (sx_rfl _ _ σ) (by decide) _ _) (by decide) _⟩
  · rw [Ki_push, h1, if_neg (show ¬ (3434 : Int32) ≤ nI L.length from nI_ge (b := 3434) (by omega) (by omega)), gd_t (inb_nI (by omega) (by omega)), nI_clamp (by omega), nI_1]
    rfl
  · simp only [zs, if_true]; rw [up_at, if_pos rfl]
  · refine stL_cg L (fun i hi => ?_) h2
    simp only [zs, if_true]; rw [up_at, if_neg (by omega)]
theorem popC {L : List Nat} {x : Nat} (h : stC σ (x :: L)) (hL : L.length < 3434) : ∃ σ', Ki_pop F σ = some (nI x, σ') ∧ stC σ' L ∧ sx [309] [28] σ σ' := by
  obtain ⟨h1, h2, h3⟩ := h
  refine ⟨si σ 309 (nI L.length), ?_, ⟨by simp [zs], ?_⟩, sx_si (sx_rfl _ _ σ) (by decide) _⟩
  · have e : nI (L.length + 1) - (1 : Int32) = nI L.length := by rw [Int32.sub_eq_add_neg]; exact nI_prd _
    have h0 : ¬ nI (L.length + 1) = (0 : Int32) := fun z => by
      have := (nI_eq (a := L.length + 1) (b := 0) (by omega) (by omega)).mp z; omega
    rw [Ki_pop, h1, List.length_cons, if_neg h0, e, gd_t (inb_nI (by omega) (by omega)), nI_clamp (by omega), h2]
  · refine stL_cg L (fun i hi => ?_) h3
    simp only [zs]
/-- the trail of what was linked -/
def trC (σ0 σ : zS) (n : Nat) (T : List Nat) : Prop := gi σ 308 = nI T.length ∧ stL σ 27 T ∧ (∀ t, t ∈ T → t < n ∧ ga σ0 25 t = -1) ∧ ∀ k, k ∉ T → ga σ 25 k = ga σ0 25 k
theorem joinC {σ0 : zS} {a b : Nat} {T : List Nat} (h : CS σ G) (ht : trC σ0 σ (gn G) T) (ha : a < gn G) (hb : b < gn G) (hab : a ≠ b) (hra : gup G a = a) (hrb : gup G b = b) (h0 : a ≠ 0) (hT : T.length < 1713) (hT0 : a ∉ T) : ∃ σ', Ki_join F σ (nI a) (nI b) = some σ' ∧ CS σ' (lkG G a b) ∧ trC σ0 σ' (gn G) (a :: T) ∧ sx [308] [25, 27] σ σ' := by
  obtain ⟨a1, a2, a3, a4, a5, a6, a7⟩ := h
  obtain ⟨t1, t2, t3, t4⟩ := ht
  have hup : ∀ k, gup (lkG G a b) k = if k = a then b else gup G k := fun _ => rfl
  have hs : sx [308] [25, 27] σ (si (sa (sa σ 25 a (nI b)) 27 T.length (nI a)) 308 (nI (T.length + 1))) := sx_si (sx_sa (sx_sa (sx_rfl _ _ σ) (by decide) _ _) (by decide) _ _) (by decide) _
  have e25 : ∀ k, ga (si (sa (sa σ 25 a (nI b)) 27 T.length (nI a)) 308 (nI (T.length + 1))) 25 k = if k = a then nI b else ga σ 25 k := by
    intro k; simp [zs, up_at]
  refine ⟨_, ?_, ⟨by rw [hs.1 306 (by decide)]; exact a1, a2, a3, ?_, a5, lk_wf a6 ha hb hab hra hrb, fun k hk => ?_⟩, ⟨by simp [zs], ⟨?_, ?_⟩, ?_, ?_⟩, hs⟩
  · rw [Ki_join, gd_t (inb_nI (by omega) (by omega)), t1, if_neg (show ¬ (1713 : Int32) ≤ nI T.length from nI_ge (b := 1713) (by omega) (by omega)), gd_t (inb_nI (by omega) (by omega)), nI_clamp (by omega), nI_clamp (by omega), nI_1]
    rfl
  · rw [hup, if_neg (fun z => h0 z.symm)]; exact a4
  · rw [e25, hup, hs.2.1 23 (by decide), hs.2.1 24 (by decide)]
    obtain ⟨b1, b2, b3⟩ := a7 k hk
    by_cases e : k = a
    · rw [if_pos e, if_pos e]
      exact ⟨fun z => absurd (z.trans e).symm hab, fun _ => rfl, b3⟩
    · rw [if_neg e, if_neg e]
      exact ⟨b1, b2, b3⟩
  · simp only [zs, if_true]; rw [up_at, if_pos rfl]
  · refine stL_cg T (fun i hi => ?_) t2
    have : ga (si (sa (sa σ 25 a (nI b)) 27 T.length (nI a)) 308 (nI (T.length + 1))) 27 i = ga σ 27 i := by
      simp only [zs, if_true]; rw [up_at, if_neg (by omega)]; rfl
    exact this
  · intro t ht
    rcases List.mem_cons.mp ht with e | e
    · subst e
      exact ⟨ha, by rw [← t4 t hT0]; exact (a7 t ha).1 hra⟩
    · exact t3 t e
  · intro k hk
    rw [e25, if_neg (show ¬ k = a from fun z => hk (by rw [z]; exact List.mem_cons_self))]
    exact t4 k (fun z => hk (List.mem_cons_of_mem _ z))
end K
