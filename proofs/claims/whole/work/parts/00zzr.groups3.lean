/-! The reference's groups. Own text. -/
section N
variable {F : Nat} {τ : zS} {D : Nat} {N : Nat → Nat → Bool}
def eO : Option Nat → Int32
  | none => -1
  | some x => nI x
def gR (τ : zS) (D : Nat) (G : Nat → Option Nat) : Prop := ∀ y, y < D → ga τ 48 y = eO (G y)
theorem togM (h : rwR τ 46 N) {i j : Nat} (hi : i < 16) (hj : j < 16) : Md_isTogether F τ (nI i) (nI j) = some (if tg N i j = true then 1 else 0, τ) := by
  have r1 : Md_isTogether_33 F τ = some (1, τ) := by rw [Md_isTogether_33, Md_isTogether_38, gd_t (by decide)]
  have r0 : Md_isTogether_37 F τ = some (0, τ) := by rw [Md_isTogether_37, Md_isTogether_38, gd_t (by decide)]
  rw [Md_isTogether, e16, e16, gd_t (inb_nI (by omega) (by omega)), gd_t (inb_nI (by omega) (by omega)), nI_clamp (by omega), nI_clamp (by omega), h i j hi hj, h j i hj hi, r1, r0]
  by_cases e : i = j
  · subst e
    rw [if_pos rfl, if_pos (tg_refl N i)]
  · rw [if_neg (fun z => e ((nI_eq (by omega) (by omega)).mp z))]
    unfold tg
    rw [decide_eq_false e]
    cases N i j <;> cases N j i <;> rfl
theorem eO_pos {G : Nat → Option Nat} (hG : ∀ y x, G y = some x → x < 16) (y : Nat) : 0 ≤ eO (G y) ↔ (G y).isSome = true := by
  cases h : G y with
  | none => exact ⟨fun z => absurd z (by decide), fun z => by cases z⟩
  | some x => exact ⟨fun _ => rfl, fun _ => nI_pos' (by have := hG y x h; omega)⟩
/-- what canCome asks of m, from y on -/
def cc2 (N : Nat → Nat → Bool) (G : Nat → Option Nat) (i m : Nat) : Nat → Nat → Bool
  | 0, _ => true
  | d + 1, y => (!(N m y) || (G y).isSome || tg N i y) && cc2 N G i m d (y + 1)
def cc1 (N : Nat → Nat → Bool) (D : Nat) (G : Nat → Option Nat) (i : Nat) : Nat → Nat → Bool
  | 0, _ => true
  | d + 1, m => (!(tg N i m) || cc2 N G i m D 0) && cc1 N D G i d (m + 1)
theorem cc2_iff {G : Nat → Option Nat} {i m : Nat} : ∀ d y, cc2 N G i m d y = true ↔ ∀ z, y ≤ z → z < y + d → N m z = true → tg N i z = true ∨ (G z).isSome = true := by
  intro d
  induction d with
  | zero => intro y; exact ⟨fun _ z z1 z2 => by omega, fun _ => rfl⟩
  | succ d ih =>
    intro y
    rw [cc2, Bool.and_eq_true, ih]
    constructor
    · rintro ⟨h1, h2⟩ z z1 z2 hn
      by_cases e : z = y
      · subst e
        rw [hn] at h1
        simp only [Bool.not_true, Bool.false_or, Bool.or_eq_true] at h1
        exact h1.symm
      · exact h2 z (by omega) (by omega) hn
    · intro h
      refine ⟨?_, fun z z1 z2 hn => h z (by omega) (by omega) hn⟩
      cases hn : N m y with
      | false => rfl
      | true =>
        have := h y (Nat.le_refl _) (by omega) hn
        simp only [Bool.not_true, Bool.false_or, Bool.or_eq_true]
        exact this.symm
theorem cc1_iff {G : Nat → Option Nat} {i : Nat} : ∀ d m, cc1 N D G i d m = true ↔ ∀ z, m ≤ z → z < m + d → tg N i z = true → cc2 N G i z D 0 = true := by
  intro d
  induction d with
  | zero => intro y; exact ⟨fun _ z z1 z2 => by omega, fun _ => rfl⟩
  | succ d ih =>
    intro y
    rw [cc1, Bool.and_eq_true, ih]
    constructor
    · rintro ⟨h1, h2⟩ z z1 z2 hn
      by_cases e : z = y
      · subst e
        rw [hn] at h1
        simpa using h1
      · exact h2 z (by omega) (by omega) hn
    · intro h
      refine ⟨?_, fun z z1 z2 hn => h z (by omega) (by omega) hn⟩
      cases hn : tg N i y with
      | false => rfl
      | true => simpa using h y (Nat.le_refl _) (by omega) hn
theorem cc_el (hN : ∀ i k j, N i k = true → N k j = true → N i j = true) {G : Nat → Option Nat} {i : Nat} (hi : i < D) : cc1 N D G i D 0 = true ↔ ∀ y, y < D → N i y = true → tg N i y = true ∨ (G y).isSome = true := by
  rw [cc1_iff]
  constructor
  · intro h y hy hn
    exact (cc2_iff D 0).mp (h i (Nat.zero_le _) (by omega) (tg_refl N i)) y (Nat.zero_le _) (by omega) hn
  · intro h m _ hm ht
    rw [cc2_iff]
    intro y _ hy hn
    refine h y (by omega) ?_
    rcases tg_iff.mp ht with e | ⟨e, _⟩
    · rw [e]; exact hn
    · exact hN _ _ _ e hn
theorem can_in (h52 : gi τ 52 = nI D) (hD : D ≤ 16) (h : rwR τ 46 N) {G : Nat → Option Nat} (hG : ∀ y x, G y = some x → x < 16) (h48 : gR τ D G) {i m : Nat} (hi : i < D) (hm : m < D) (rc : zS → Int32 → Int32 → Option (Int32 × zS)) : ∀ (d f y : Nat), y + d = D → d < f → 0 < d → Md_canCome_12 F rc f τ (nI i) (nI m) (nI y) = if tg N i m = true then (if cc2 N G i m d y = true then rc τ (nI i) (nI (m + 1)) else some (0, τ)) else rc τ (nI i) (nI (m + 1)) := by
  intro d
  induction d with
  | zero => intro f y _ _ h0; omega
  | succ d ih =>
    intro f y hy hf _
    obtain ⟨f, rfl⟩ : ∃ f', f = f' + 1 := ⟨f - 1, by omega⟩
    have cy : (nI y).toNatClampNeg = y := nI_clamp (by omega)
    have hnext : tg N i m = true → Md_canCome_12 F rc f τ (nI i) (nI m) (nI (y + 1)) = if cc2 N G i m d (y + 1) = true then rc τ (nI i) (nI (m + 1)) else some (0, τ) := by
      intro ht
      by_cases hd : d = 0
      · subst hd
        obtain ⟨f, rfl⟩ : ∃ f', f = f' + 1 := ⟨f - 1, by omega⟩
        rw [Md_canCome_12, Md_canCome_b12, h52, if_pos (nI_le (by omega) (by omega)), Md_canCome_69, nI_1, cc2, if_pos rfl]
      · rw [ih f (y + 1) (by omega) (by omega) (by omega), if_pos ht]
    have e1 : Md_canCome_12 F rc (f + 1) τ (nI i) (nI m) (nI y) = if tg N i m = true then (if N m y = true then (if (G y).isSome = true then Md_canCome_12 F rc f τ (nI i) (nI m) (nI (y + 1)) else (if tg N i y = true then Md_canCome_12 F rc f τ (nI i) (nI m) (nI (y + 1)) else some (0, τ))) else Md_canCome_12 F rc f τ (nI i) (nI m) (nI (y + 1))) else rc τ (nI i) (nI (m + 1)) := by
      rw [Md_canCome_12, Md_canCome_b12, h52, if_neg (nI_ge (by omega) (by omega)), togM h (by omega) (by omega), bi_some, e16, gd_t (inb_nI (by omega) (by omega)), nI_clamp (by omega), h m y (by omega) (by omega), gd_t (inb_nI (by omega) (by omega)), cy, h48 y (by omega), togM h (by omega) (by omega), bi_some, Md_canCome_69, Md_canCome_63, nI_1, nI_1]
      simp only [eO_pos hG y]
      cases tg N i m <;> cases N m y <;> cases (G y).isSome <;> cases tg N i y <;> rfl
    rw [e1]
    by_cases ht : tg N i m = true
    · rw [if_pos ht, if_pos ht, hnext ht, cc2]
      cases N m y <;> cases (G y).isSome <;> cases tg N i y <;> simp
    · rw [if_neg ht, if_neg ht]
theorem can_loop (hF : 1300 ≤ F) (h52 : gi τ 52 = nI D) (hD : D ≤ 16) (h : rwR τ 46 N) {G : Nat → Option Nat} (hG : ∀ y x, G y = some x → x < 16) (h48 : gR τ D G) {i : Nat} (hi : i < D) : ∀ (d f m : Nat), m + d = D → d < f → Md_canCome_2 F f τ (nI i) (nI m) = some (if cc1 N D G i d m = true then 1 else 0, τ) := by
  intro d
  induction d with
  | zero =>
    intro f m hm hf
    obtain ⟨f, rfl⟩ : ∃ f', f = f' + 1 := ⟨f - 1, by omega⟩
    rw [Md_canCome_2, Md_canCome_b2, h52, if_pos (nI_le (by omega) (by omega)), cc1, if_pos rfl]
  | succ d ih =>
    intro f m hm hf
    obtain ⟨f, rfl⟩ : ∃ f', f = f' + 1 := ⟨f - 1, by omega⟩
    rw [Md_canCome_2, Md_canCome_b2, h52, if_neg (nI_ge (by omega) (by omega)), show (0 : Int32) = nI 0 from rfl, can_in (F := F) h52 hD h hG h48 hi (by omega) _ D F 0 (by omega) (by omega) (by omega), ih f (m + 1) (by omega) (by omega), cc1]
    cases tg N i m <;> cases cc2 N G i m D 0 <;> rfl
theorem canM (hF : 1300 ≤ F) (hN : ∀ i k j, N i k = true → N k j = true → N i j = true) (h52 : gi τ 52 = nI D) (hD : D ≤ 16) (h : rwR τ 46 N) {G : Nat → Option Nat} (hG : ∀ y x, G y = some x → x < 16) (h48 : gR τ D G) {i : Nat} (hi : i < D) (hn : G i = none) : Md_canCome F τ (nI i) = some (if el N D G i = true then 1 else 0, τ) := by
  have := can_loop (F := F) hF h52 hD h hG h48 hi D F 0 (by omega) (by omega)
  rw [Md_canCome, show (0 : Int32) = nI 0 from rfl, this]
  have e : (cc1 N D G i D 0 = true) ↔ (el N D G i = true) := by
    rw [cc_el hN hi, el_iff]
    exact ⟨fun z => ⟨hn, z⟩, fun z => z.2⟩
  simp only [e]
  rfl
theorem nI_prd (i : Nat) : nI (i + 1) + (-1 : Int32) = nI i := by
  rw [← nI_1 i, Int32.add_assoc, show (1 : Int32) + (-1) = 0 from rfl, Int32.add_zero]
theorem so_next (hF : 1300 ≤ F) (hN : ∀ i k j, N i k = true → N k j = true → N i j = true) (h52 : gi τ 52 = nI D) (hD : D ≤ 16) (h : rwR τ 46 N) {G : Nat → Option Nat} (hG : ∀ y x, G y = some x → x < 16) (h48 : gR τ D G) (rc : zS → Int32 → Option zS) (t : Int32) : ∀ (i f : Nat), i ≤ D → i < f → Md_solveAll_54 F rc f τ t (eO (fst1 (el N D G) (D - i) i)) (nI i + (-1 : Int32)) = match fst1 (el N D G) D 0 with | none => rc τ (t + 1) | some j => Md_solveAll_93 F rc F τ t (nI j) 0 := by
  intro i
  induction i with
  | zero =>
    intro f hi hf
    obtain ⟨f, rfl⟩ : ∃ f', f = f' + 1 := ⟨f - 1, by omega⟩
    rw [Md_solveAll_54, Md_solveAll_b54, if_pos (by decide), Nat.sub_zero]
    cases hl : fst1 (el N D G) D 0 with
    | none => rw [eO, if_pos (by decide), Md_solveAll_153]
    | some j =>
      have := (fst1_s D 0 j hl).2.1
      rw [eO, if_neg (nI_pos (by omega))]
  | succ i ih =>
    intro f hi hf
    obtain ⟨f, rfl⟩ : ∃ f', f = f' + 1 := ⟨f - 1, by omega⟩
    have ci : (nI i).toNatClampNeg = i := nI_clamp (by omega)
    rw [← ih f (by omega) (by omega), nI_prd, Md_solveAll_54, Md_solveAll_b54, if_neg (nI_pos (by omega)), gd_t (inb_nI (by omega) (by omega)), ci, h48 i (by omega)]
    simp only [eO_pos hG i, Md_solveAll_79, Md_solveAll_80]
    rw [show D - i = (D - (i + 1)) + 1 by omega, fst1]
    cases hg : G i with
    | some x =>
      have : el N D G i = false := by
        cases hc : el N D G i with
        | false => rfl
        | true => have := (el_iff.mp hc).1; rw [hg] at this; cases this
      rw [if_pos (show (some x).isSome = true from rfl), if_neg (by rw [this]; decide)]
    | none =>
      rw [if_neg (show ¬ (none : Option Nat).isSome = true by decide), canM hF hN h52 hD h hG h48 (by omega) hg, bi_some]
      by_cases hc : el N D G i = true
      · rw [if_pos hc, if_pos hc, if_neg (by decide)]; rfl
      · rw [if_neg hc, if_neg hc, if_pos rfl]
theorem so_set (h52 : gi τ 52 = nI D) (hD : D ≤ 16) (h : rwR τ 46 N) {k j : Nat} (h71 : gi τ 71 = nI k) (hj : j < D) (rc : zS → Int32 → Option zS) (t : Int32) : ∀ (d f m : Nat) (g : Nat → Int32), m + d = D → d < f → (∀ x, x < D → g x = if x < m ∧ tg N j x = true then nI k else ga τ 48 x) → ∃ g', Md_solveAll_93 F rc f (sA τ 48 g) t (nI j) (nI m) = bv (Md_solve F (sA τ 48 g') (nI k)) (fun σ2 => rc (si σ2 71 (gi σ2 71 + (1 : Int32))) (t + 1)) ∧ (∀ x, x < D → g' x = if tg N j x = true then nI k else ga τ 48 x) := by
  intro d
  induction d with
  | zero =>
    intro f m g hm hf hg
    obtain ⟨f, rfl⟩ : ∃ f', f = f' + 1 := ⟨f - 1, by omega⟩
    refine ⟨g, ?_, fun x hx => ?_⟩
    · rw [Md_solveAll_93, Md_solveAll_b93, show gi (sA τ 48 g) 52 = nI D by simp only [zs, h52], if_pos (nI_le (by omega) (by omega)), show gi (sA τ 48 g) 71 = nI k by simp only [zs, h71]]
      rfl
    · rw [hg x hx]
      by_cases e : tg N j x = true
      · rw [if_pos e, if_pos ⟨by omega, e⟩]
      · rw [if_neg e, if_neg (fun z => e z.2)]
  | succ d ih =>
    intro f m g hm hf hg
    obtain ⟨f, rfl⟩ : ∃ f', f = f' + 1 := ⟨f - 1, by omega⟩
    have cm : (nI m).toNatClampNeg = m := nI_clamp (by omega)
    have hr : rwR (sA τ 48 g) 46 N := by
      intro a b ha hb; simp only [zs]; exact h a b ha hb
    have key : Md_solveAll_93 F rc (f + 1) (sA τ 48 g) t (nI j) (nI m) = Md_solveAll_93 F rc f (sA τ 48 (upd g m (if tg N j m = true then nI k else g m))) t (nI j) (nI (m + 1)) := by
      rw [Md_solveAll_93, Md_solveAll_b93, show gi (sA τ 48 g) 52 = nI D by simp only [zs, h52], if_neg (nI_ge (by omega) (by omega)), togM hr (by omega) (by omega), bi_some, gd_t (inb_nI (by omega) (by omega)), Md_solveAll_128, Md_solveAll_128, gd_t (inb_nI (by omega) (by omega)), gd_t (inb_nI (by omega) (by omega)), cm, sa_sA', sa_sA', ga_sA, nI_1, show gi (sA τ 48 g) 71 = nI k by simp only [zs, h71]]
      cases tg N j m <;> rfl
    rw [key]
    apply ih f (m + 1) _ (by omega) (by omega)
    intro x hx
    rw [up_at]
    by_cases e : x = m
    · subst e
      rw [if_pos rfl]
      by_cases ht : tg N j x = true
      · rw [if_pos ht, if_pos ⟨by omega, ht⟩]
      · rw [if_neg ht, if_neg (fun z => ht z.2), hg x hx, if_neg (fun z => ht z.2)]
    · rw [if_neg e, hg x hx]
      by_cases e3 : x < m ∧ tg N j x = true
      · rw [if_pos e3, if_pos ⟨by omega, e3.2⟩]
      · rw [if_neg e3, if_neg (fun z => e3 ⟨by omega, z.2⟩)]
/-- one turn of the reference -/
theorem so_turn (hF : 1300 ≤ F) (hN : ∀ i k j, N i k = true → N k j = true → N i j = true) (h52 : gi τ 52 = nI D) (hD : D ≤ 16) (h : rwR τ 46 N) {k i : Nat} (hk : k < D) (h48 : gR τ D (gS N D k)) (h71 : gi τ 71 = nI k) (h8 : gi τ 8 = 0) (hl : ld N D k = some i) (f : Nat) : ∃ g, Md_solveAll_30 F (f + 1) τ (nI k) = bv (Md_solve F (sA τ 48 g) (nI k)) (fun σ2 => Md_solveAll_30 F f (si σ2 71 (gi σ2 71 + (1 : Int32))) (nI (k + 1))) ∧ gR (sA τ 48 g) D (gS N D (k + 1)) := by
  have hG : ∀ y x, gS N D k y = some x → x < 16 := fun y x hx => by have := gS_lt k y x hx; omega
  have hi : i < D := by have := (fst1_s D 0 i hl).2.1; omega
  obtain ⟨g, e1, w1⟩ := so_set (F := F) h52 hD h (k := k) (j := i) h71 hi (Md_solveAll_30 F f) (nI k) D F 0 (ga τ 48) (by omega) (by omega) (fun x hx => by rw [if_neg (show ¬ (x < 0 ∧ tg N i x = true) from fun z => by omega)])
  rw [sA_self] at e1
  refine ⟨g, ?_, ?_⟩
  · have e2 := so_next (F := F) hF hN h52 hD h hG h48 (Md_solveAll_30 F f) (nI k) D F (Nat.le_refl _) (by omega)
    rw [Nat.sub_self, fst1] at e2
    unfold ld at hl
    rw [hl] at e2
    have e3 : nI D - (1 : Int32) = nI D + (-1 : Int32) := by rw [Int32.sub_eq_add_neg]
    have e4 : Md_solveAll_54 F (Md_solveAll_30 F f) F τ (nI k) (-1) (nI D + (-1 : Int32)) = Md_solveAll_93 F (Md_solveAll_30 F f) F τ (nI k) (nI i) 0 := e2
    have e5 : Md_solveAll_93 F (Md_solveAll_30 F f) F τ (nI k) (nI i) 0 = _ := e1
    rw [Md_solveAll_30, Md_solveAll_b30, h52, if_neg (nI_ge (by omega) (by omega)), if_pos h8, e3, e4, e5, nI_1]
  · intro y hy
    rw [ga_sA, w1 y hy, gS_s N D k hl]
    by_cases ht : tg N i y = true
    · rw [if_pos ht, if_pos ht]; rfl
    · rw [if_neg ht, if_neg ht]; exact h48 y hy
theorem so_rest (hF : 1300 ≤ F) (hN : ∀ i k j, N i k = true → N k j = true → N i j = true) (h52 : gi τ 52 = nI D) (hD : D ≤ 16) (h : rwR τ 46 N) {k : Nat} (hk : k ≤ D) (h48 : gR τ D (gS N D k)) (h8 : gi τ 8 = 0) (hl : ld N D k = none) : ∀ (d f t : Nat), t + d = D → d < f → Md_solveAll_30 F f τ (nI t) = some τ := by
  have hG : ∀ y x, gS N D k y = some x → x < 16 := fun y x hx => by have := gS_lt k y x hx; omega
  intro d
  induction d with
  | zero =>
    intro f t ht hf
    obtain ⟨f, rfl⟩ : ∃ f', f = f' + 1 := ⟨f - 1, by omega⟩
    rw [Md_solveAll_30, Md_solveAll_b30, h52, if_pos (nI_le (by omega) (by omega))]; rfl
  | succ d ih =>
    intro f t ht hf
    obtain ⟨f, rfl⟩ : ∃ f', f = f' + 1 := ⟨f - 1, by omega⟩
    have e2 := so_next (F := F) hF hN h52 hD h hG h48 (Md_solveAll_30 F f) (nI t) D F (Nat.le_refl _) (by omega)
    rw [Nat.sub_self, fst1] at e2
    unfold ld at hl
    rw [hl] at e2
    have e3 : nI D - (1 : Int32) = nI D + (-1 : Int32) := by rw [Int32.sub_eq_add_neg]
    have e4 : Md_solveAll_54 F (Md_solveAll_30 F f) F τ (nI t) (-1) (nI D + (-1 : Int32)) = Md_solveAll_30 F f τ (nI t + 1) := e2
    rw [Md_solveAll_30, Md_solveAll_b30, h52, if_neg (nI_ge (by omega) (by omega)), if_pos h8, e3, e4, nI_1]
    exact ih f (t + 1) (by omega) (by omega)
theorem so_flt (hF : 1300 ≤ F) (h8 : gi τ 8 ≠ 0) (f : Nat) (t : Int32) : Md_solveAll_30 F (f + 1) τ t = some τ := by
  rw [Md_solveAll_30, Md_solveAll_b30]
  by_cases z : gi τ 52 ≤ t
  · rw [if_pos z]; rfl
  · rw [if_neg z, if_neg h8]; rfl
theorem so_init : ∀ (d f m : Nat) (g : Nat → Int32) (τ : zS), gi τ 52 = nI D → D ≤ 16 → m + d = D → d < f → (∀ x, x < m → g x = -1) → ∃ g', Md_solveAll_7 F f (sA τ 48 g) (nI m) = Md_solveAll_30 F F (sA τ 48 g') (nI 0) ∧ ∀ x, x < D → g' x = -1 := by
  intro d
  induction d with
  | zero =>
    intro f m g τ h52 hD hm hf hg
    obtain ⟨f, rfl⟩ : ∃ f', f = f' + 1 := ⟨f - 1, by omega⟩
    refine ⟨g, ?_, fun x hx => hg x (by omega)⟩
    rw [Md_solveAll_7, Md_solveAll_b7, show gi (sA τ 48 g) 52 = nI D by simp only [zs, h52], if_pos (nI_le (by omega) (by omega))]; rfl
  | succ d ih =>
    intro f m g τ h52 hD hm hf hg
    obtain ⟨f, rfl⟩ : ∃ f', f = f' + 1 := ⟨f - 1, by omega⟩
    rw [Md_solveAll_7, Md_solveAll_b7, show gi (sA τ 48 g) 52 = nI D by simp only [zs, h52], if_neg (nI_ge (by omega) (by omega)), gd_t (inb_nI (by omega) (by omega)), nI_clamp (by omega), sa_sA', nI_1]
    apply ih f (m + 1) _ τ h52 hD (by omega) (by omega)
    intro x hx
    rw [up_at]
    by_cases e : x = m
    · rw [if_pos e]
    · rw [if_neg e]; exact hg x (by omega)
theorem so_start (hF : 1300 ≤ F) (h52 : gi τ 52 = nI D) (hD : D ≤ 16) : ∃ g, Md_solveAll F τ = Md_solveAll_30 F F (sA (si τ 71 0) 48 g) (nI 0) ∧ gR (sA (si τ 71 0) 48 g) D (gS N D 0) := by
  obtain ⟨g, e, w⟩ := so_init (F := F) (D := D) D F 0 (ga (si τ 71 0) 48) (si τ 71 0) (by simp [zs, h52]) hD (by omega) (by omega) (fun x hx => by omega)
  rw [sA_self] at e
  refine ⟨g, ?_, fun y hy => ?_⟩
  · rw [Md_solveAll]; exact e
  · rw [ga_sA, w y hy]; rfl
end N
