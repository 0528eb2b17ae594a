/-! Closing, in both. Own text. -/
theorem ga_sA (σ : zS) (a : Nat) (f : Nat → Int32) : ga (sA σ a f) a = f := by simp only [zs, if_true]
theorem sa_sA' (σ : zS) (a : Nat) (f : Nat → Int32) (i : Nat) (v : Int32) : sa (sA σ a f) a i v = sA σ a (upd f i v) := by
  rw [sa, ga_sA, sA_sA]
section N
variable {F : Nat} {σ τ : zS} {D : Nat} {A : Nat → Nat → Bool}
theorem clM_in {a : Nat} (ha : isMk a = true) (h400 : gi σ 400 = nI D) (hD : D ≤ 16) {m : Nat} (hm : m < D) (rc : zS → Nat → Int32 → Option zS) : ∀ (d f i : Nat) (g : Nat → Int32), i + d = D → d < f → (∀ i', i' < D → ∀ j, j < 32 → bq (g i') j = if i' < i then cw A (m + 1) i' j else cw A m i' j) → ∃ g', Te_closeMasks_12 F rc f (sA σ a g) a (nI m) (nI i) = rc (sA σ a g') a (nI (m + 1)) ∧ (∀ i', i' < D → ∀ j, j < 32 → bq (g' i') j = cw A (m + 1) i' j) := by
  intro d
  induction d with
  | zero =>
    intro f i g hi hf hg
    obtain ⟨f, rfl⟩ : ∃ f', f = f' + 1 := ⟨f - 1, by omega⟩
    refine ⟨g, ?_, fun i' h' j hj => ?_⟩
    · rw [Te_closeMasks_12, Te_closeMasks_b12, show gi (sA σ a g) 400 = nI D by simp only [zs, h400], if_pos (nI_le (by omega) (by omega)), nI_1]
    · rw [hg i' h' j hj, if_pos (by omega)]
  | succ d ih =>
    intro f i g hi hf hg
    obtain ⟨f, rfl⟩ : ∃ f', f = f' + 1 := ⟨f - 1, by omega⟩
    have ci : (nI i).toNatClampNeg = i := nI_clamp (by omega)
    have cm : (nI m).toNatClampNeg = m := nI_clamp (by omega)
    rw [Te_closeMasks_12, Te_closeMasks_b12, show gi (sA σ a g) 400 = nI D by simp only [zs, h400], if_neg (nI_ge (by omega) (by omega)), gd_t ha, gd_t (inb_nI (by omega) (by omega)), gd_t (inb_nI (by omega) (by omega)), ci, cm, ga_sA, sa_sA']
    have hr : ∀ j, j < 32 → bq (g m) j = cw A m m j := by
      intro j hj
      rw [hg m hm j hj]
      split
      · exact cw_row A m j
      · rfl
    have hs : bq (g i) m = cw A m i m := by
      rw [hg i (by omega) m (by omega), if_neg (by omega)]
    by_cases ht : ((g i) >>> (nI m &&& 31)) &&& 1 = 0
    · rw [if_pos ht, Te_closeMasks_39, nI_1]
      have hb := (bq_test _ (by omega)).mp ht
      apply ih f (i + 1) g (by omega) (by omega)
      intro i' h' j hj
      rw [hg i' h' j hj]
      by_cases e : i' = i
      · subst e
        rw [if_neg (by omega), if_pos (by omega), cw_s, ← hs, hb]; simp
      · by_cases e2 : i' < i
        · rw [if_pos e2, if_pos (by omega)]
        · rw [if_neg e2, if_neg (by omega)]
    · rw [if_neg ht, Te_closeMasks_39, nI_1]
      have hb : bq (g i) m = true := by
        cases hc : bq (g i) m with
        | true => rfl
        | false => exact absurd ((bq_test _ (by omega)).mpr hc) ht
      apply ih f (i + 1) _ (by omega) (by omega)
      intro i' h' j hj
      rw [up_at]
      by_cases e : i' = i
      · subst e
        rw [if_pos rfl, if_pos (by omega), bq_or, hr j hj, cw_s, ← hs, hb, hg i' h' j hj, if_neg (by omega)]; simp
      · rw [if_neg e, hg i' h' j hj]
        by_cases e2 : i' < i
        · rw [if_pos e2, if_pos (by omega)]
        · rw [if_neg e2, if_neg (by omega)]
theorem clM_out (hF : 1300 ≤ F) {a : Nat} (ha : isMk a = true) (h400 : gi σ 400 = nI D) (hD : D ≤ 16) : ∀ (d f m : Nat) (g : Nat → Int32), m + d = D → d < f → (∀ i', i' < D → ∀ j, j < 32 → bq (g i') j = cw A m i' j) → ∃ g', Te_closeMasks_2 F f (sA σ a g) a (nI m) = some (sA σ a g') ∧ (∀ i', i' < D → ∀ j, j < 32 → bq (g' i') j = cw A D i' j) := by
  intro d
  induction d with
  | zero =>
    intro f m g hi hf hg
    obtain ⟨f, rfl⟩ : ∃ f', f = f' + 1 := ⟨f - 1, by omega⟩
    have : m = D := by omega
    subst this
    refine ⟨g, ?_, hg⟩
    rw [Te_closeMasks_2, Te_closeMasks_b2, show gi (sA σ a g) 400 = nI m by simp only [zs, h400], if_pos (nI_le (by omega) (by omega))]
  | succ d ih =>
    intro f m g hi hf hg
    obtain ⟨f, rfl⟩ : ∃ f', f = f' + 1 := ⟨f - 1, by omega⟩
    rw [Te_closeMasks_2, Te_closeMasks_b2, show gi (sA σ a g) 400 = nI D by simp only [zs, h400], if_neg (nI_ge (by omega) (by omega))]
    obtain ⟨g', e, w⟩ := clM_in (F := F) (σ := σ) (A := A) ha h400 hD (m := m) (by omega) (Te_closeMasks_2 F f) D F 0 g (by omega) (by omega) (fun i' h' j hj => by rw [hg i' h' j hj, if_neg (by omega)])
    rw [show (0 : Int32) = nI 0 from rfl, e]
    exact ih f (m + 1) g' (by omega) (by omega) w
theorem closeM (hF : 1300 ≤ F) {a : Nat} (ha : isMk a = true) (h400 : gi σ 400 = nI D) (hD : D ≤ 16) (h : mkR σ a D A) : ∃ g, Te_closeMasks F σ a = some (sA σ a g) ∧ mkR (sA σ a g) a D (cw A D) := by
  obtain ⟨g, e, w⟩ := clM_out (F := F) (σ := σ) (A := A) hF ha h400 hD D F 0 (ga σ a) (by omega) (by omega) h
  rw [sA_self] at e
  refine ⟨g, e, fun i hi j hj => ?_⟩
  rw [ga_sA]
  exact w i hi j hj
theorem e16 (i j : Nat) : (16 : Int32) * nI i + nI j = nI (16 * i + j) := by
  rw [show (16 : Int32) = nI 16 from rfl, pk_mul, nI_add]
theorem vpB_b (b : Bool) : vp_nar .boolean (if b = true then 1 else 0) = if b = true then 1 else 0 := by cases b <;> decide
theorem clR_in {b : Nat} (hb : isNd b = true) {m i : Nat} (hm : m < 16) (hi : i < 16) (rc2 : zS → Nat → Int32 → Option zS) (rc10 : zS → Nat → Int32 → Int32 → Option zS) : ∀ (d f j : Nat) (g : Nat → Int32), j + d = 16 → d < f → (∀ i' j', i' < 16 → j' < 16 → g (16 * i' + j') = if (if i' < i ∨ (i' = i ∧ j' < j) then cw A (m + 1) i' j' else cw A m i' j') = true then 1 else 0) → ∃ g', Md_close_18 F rc2 rc10 f (sA τ b g) b (nI m) (nI i) (nI j) = rc10 (sA τ b g') b (nI m) (nI (i + 1)) ∧ (∀ i' j', i' < 16 → j' < 16 → g' (16 * i' + j') = if (if i' < i + 1 then cw A (m + 1) i' j' else cw A m i' j') = true then 1 else 0) := by
  intro d
  induction d with
  | zero =>
    intro f j g hj hf hg
    obtain ⟨f, rfl⟩ : ∃ f', f = f' + 1 := ⟨f - 1, by omega⟩
    refine ⟨g, ?_, fun i' j' h1 h2 => ?_⟩
    · rw [Md_close_18, Md_close_b18, show (16 : Int32) = nI 16 from rfl, if_pos (nI_le (by omega) (by omega)), nI_1]
    · rw [hg i' j' h1 h2]
      by_cases e : i' < i + 1
      · rw [if_pos e, if_pos (show i' < i ∨ (i' = i ∧ j' < j) by omega)]
      · rw [if_neg e, if_neg (show ¬ (i' < i ∨ (i' = i ∧ j' < j)) by omega)]
  | succ d ih =>
    intro f j g hj hf hg
    obtain ⟨f, rfl⟩ : ∃ f', f = f' + 1 := ⟨f - 1, by omega⟩
    have hij : g (16 * i + j) = if cw A m i j = true then 1 else 0 := by
      rw [hg i j hi (by omega), if_neg (show ¬ (i < i ∨ (i = i ∧ j < j)) by omega)]
    have him : g (16 * i + m) = if cw A m i m = true then 1 else 0 := by
      rw [hg i m hi hm]
      split
      · rw [cw_col]
      · rfl
    have hmj : g (16 * m + j) = if cw A m m j = true then 1 else 0 := by
      rw [hg m j hm (by omega)]
      split
      · rw [cw_row]
      · rfl
    have key : Md_close_18 F rc2 rc10 (f + 1) (sA τ b g) b (nI m) (nI i) (nI j) = Md_close_18 F rc2 rc10 f (sA τ b (upd g (16 * i + j) (if cw A (m + 1) i j = true then 1 else 0))) b (nI m) (nI i) (nI (j + 1)) := by
      rw [Md_close_18, Md_close_b18, if_neg (show ¬ (16 : Int32) ≤ nI j from nI_ge (b := 16) (by omega) (by omega)), gd_t hb, e16, e16, e16, gd_t (inb_nI (by omega) (by omega)), gd_t (inb_nI (by omega) (by omega)), gd_t (inb_nI (by omega) (by omega)), nI_clamp (by omega), nI_clamp (by omega), nI_clamp (by omega), ga_sA, hij, him, hmj]
      unfold Md_close_64 Md_close_68 Md_close_69
      rw [gd_t hb, gd_t (inb_nI (by omega) (by omega)), nI_clamp (by omega), gd_t hb, gd_t (inb_nI (by omega) (by omega)), nI_1, sa_sA', sa_sA', cw_s]
      have v1 : vp_nar .boolean (1 : Int32) = 1 := by decide
      have v0 : vp_nar .boolean (0 : Int32) = 0 := by decide
      rw [v1, v0]
      cases cw A m i j <;> cases cw A m i m <;> cases cw A m m j <;> rfl
    rw [key]
    apply ih f (j + 1) _ (by omega) (by omega)
    intro i' j' h1 h2
    rw [up_at]
    by_cases e : 16 * i' + j' = 16 * i + j
    · have e1 : i' = i := by omega
      have e2 : j' = j := by omega
      subst e1; subst e2
      rw [if_pos rfl, if_pos (show i' < i' ∨ (i' = i' ∧ j' < j' + 1) by omega)]
    · rw [if_neg e, hg i' j' h1 h2]
      by_cases e3 : i' < i ∨ (i' = i ∧ j' < j)
      · rw [if_pos e3, if_pos (show i' < i ∨ (i' = i ∧ j' < j + 1) by omega)]
      · rw [if_neg e3, if_neg (show ¬ (i' < i ∨ (i' = i ∧ j' < j + 1)) by omega)]
theorem clR_mid (hF : 1300 ≤ F) {b : Nat} (hb : isNd b = true) {m : Nat} (hm : m < 16) (rc2 : zS → Nat → Int32 → Option zS) : ∀ (d f i : Nat) (g : Nat → Int32), i + d = 16 → d < f → (∀ i' j', i' < 16 → j' < 16 → g (16 * i' + j') = if (if i' < i then cw A (m + 1) i' j' else cw A m i' j') = true then 1 else 0) → ∃ g', Md_close_10 F rc2 f (sA τ b g) b (nI m) (nI i) = rc2 (sA τ b g') b (nI (m + 1)) ∧ (∀ i' j', i' < 16 → j' < 16 → g' (16 * i' + j') = if cw A (m + 1) i' j' = true then 1 else 0) := by
  intro d
  induction d with
  | zero =>
    intro f i g hj hf hg
    obtain ⟨f, rfl⟩ : ∃ f', f = f' + 1 := ⟨f - 1, by omega⟩
    refine ⟨g, ?_, fun i' j' h1 h2 => ?_⟩
    · rw [Md_close_10, Md_close_b10, show (16 : Int32) = nI 16 from rfl, if_pos (nI_le (by omega) (by omega)), nI_1]
    · rw [hg i' j' h1 h2, if_pos (show i' < i by omega)]
  | succ d ih =>
    intro f i g hj hf hg
    obtain ⟨f, rfl⟩ : ∃ f', f = f' + 1 := ⟨f - 1, by omega⟩
    rw [Md_close_10, Md_close_b10, show (16 : Int32) = nI 16 from rfl, if_neg (nI_ge (by omega) (by omega))]
    obtain ⟨g', e, w⟩ := clR_in (F := F) (τ := τ) (A := A) hb hm (i := i) (by omega) rc2 (Md_close_10 F rc2 f) 16 F 0 g (by omega) (by omega) (fun i' j' h1 h2 => by
      rw [hg i' j' h1 h2]
      by_cases e3 : i' < i
      · rw [if_pos e3, if_pos (show i' < i ∨ (i' = i ∧ j' < 0) by omega)]
      · rw [if_neg e3, if_neg (show ¬ (i' < i ∨ (i' = i ∧ j' < 0)) by omega)])
    rw [show (0 : Int32) = nI 0 from rfl, e]
    exact ih f (i + 1) g' (by omega) (by omega) w
theorem clR_out (hF : 1300 ≤ F) {b : Nat} (hb : isNd b = true) : ∀ (d f m : Nat) (g : Nat → Int32), m + d = 16 → d < f → (∀ i' j', i' < 16 → j' < 16 → g (16 * i' + j') = if cw A m i' j' = true then 1 else 0) → ∃ g', Md_close_2 F f (sA τ b g) b (nI m) = some (sA τ b g') ∧ (∀ i' j', i' < 16 → j' < 16 → g' (16 * i' + j') = if cw A 16 i' j' = true then 1 else 0) := by
  intro d
  induction d with
  | zero =>
    intro f m g hj hf hg
    obtain ⟨f, rfl⟩ : ∃ f', f = f' + 1 := ⟨f - 1, by omega⟩
    have : m = 16 := by omega
    subst this
    refine ⟨g, ?_, hg⟩
    rw [Md_close_2, Md_close_b2, show (16 : Int32) = nI 16 from rfl, if_pos (nI_le (by omega) (by omega))]
  | succ d ih =>
    intro f m g hj hf hg
    obtain ⟨f, rfl⟩ : ∃ f', f = f' + 1 := ⟨f - 1, by omega⟩
    rw [Md_close_2, Md_close_b2, show (16 : Int32) = nI 16 from rfl, if_neg (nI_ge (by omega) (by omega))]
    obtain ⟨g', e, w⟩ := clR_mid (F := F) (τ := τ) (A := A) hF hb (m := m) (by omega) (Md_close_2 F f) 16 F 0 g (by omega) (by omega) (fun i' j' h1 h2 => by rw [hg i' j' h1 h2, if_neg (show ¬ i' < 0 by omega)])
    rw [show (0 : Int32) = nI 0 from rfl, e]
    exact ih f (m + 1) g' (by omega) (by omega) w
theorem closeR (hF : 1300 ≤ F) {b : Nat} (hb : isNd b = true) (h : rwR τ b A) : ∃ g, Md_close F τ b = some (sA τ b g) ∧ rwR (sA τ b g) b (cw A 16) := by
  obtain ⟨g, e, w⟩ := clR_out (F := F) (τ := τ) (A := A) hF hb 16 F 0 (ga τ b) (by omega) (by omega) h
  rw [sA_self] at e
  refine ⟨g, e, fun i j hi hj => ?_⟩
  rw [ga_sA]
  exact w i j hi hj
end N
