/-! Groups by need: pure, and the class's. Own text. -/
def tg (N : Nat → Nat → Bool) (i j : Nat) : Bool := decide (i = j) || (N i j && N j i)
def fst1 (p : Nat → Bool) : Nat → Nat → Option Nat
  | 0, _ => none
  | d + 1, i => if p i = true then some i else fst1 p d (i + 1)
def el (N : Nat → Nat → Bool) (D : Nat) (G : Nat → Option Nat) (i : Nat) : Bool := !(G i).isSome && (List.range D).all (fun y => !(N i y) || tg N i y || (G y).isSome)
/-- the groups behind k rounds -/
def gS (N : Nat → Nat → Bool) (D : Nat) : Nat → Nat → Option Nat
  | 0 => fun _ => none
  | k + 1 => match fst1 (el N D (gS N D k)) D 0 with
    | none => gS N D k
    | some i => fun m => if tg N i m = true then some k else gS N D k m
def ld (N : Nat → Nat → Bool) (D k : Nat) : Option Nat := fst1 (el N D (gS N D k)) D 0
theorem gS_s (N : Nat → Nat → Bool) (D k : Nat) {i : Nat} (h : ld N D k = some i) (m : Nat) : gS N D (k + 1) m = if tg N i m = true then some k else gS N D k m := by
  unfold ld at h
  rw [gS, h]
theorem fst1_s {p : Nat → Bool} : ∀ (d i j : Nat), fst1 p d i = some j → i ≤ j ∧ j < i + d ∧ p j = true ∧ ∀ l, i ≤ l → l < j → p l = false := by
  intro d
  induction d with
  | zero => intro i j h; cases h
  | succ d ih =>
    intro i j h
    rw [fst1] at h
    by_cases hp : p i = true
    · rw [if_pos hp] at h
      cases h
      exact ⟨Nat.le_refl _, by omega, hp, fun l l1 l2 => by omega⟩
    · rw [if_neg hp] at h
      obtain ⟨a1, a2, a3, a4⟩ := ih (i + 1) j h
      refine ⟨by omega, by omega, a3, fun l l1 l2 => ?_⟩
      by_cases e : l = i
      · subst e; exact Bool.eq_false_iff.mpr hp
      · exact a4 l (by omega) l2
theorem fst1_n {p : Nat → Bool} : ∀ (d i : Nat), fst1 p d i = none → ∀ l, i ≤ l → l < i + d → p l = false := by
  intro d
  induction d with
  | zero => intro i _ l l1 l2; omega
  | succ d ih =>
    intro i h l l1 l2
    rw [fst1] at h
    by_cases hp : p i = true
    · rw [if_pos hp] at h; cases h
    · rw [if_neg hp] at h
      by_cases e : l = i
      · subst e; exact Bool.eq_false_iff.mpr hp
      · exact ih (i + 1) h l (by omega) (by omega)
theorem el_iff {N : Nat → Nat → Bool} {D : Nat} {G : Nat → Option Nat} {i : Nat} : el N D G i = true ↔ G i = none ∧ ∀ y, y < D → N i y = true → tg N i y = true ∨ (G y).isSome = true := by
  unfold el
  rw [Bool.and_eq_true, List.all_eq_true]
  constructor
  · rintro ⟨h1, h2⟩
    have hg0 : G i = none := by
      cases hg : G i with
      | none => rfl
      | some x => rw [hg] at h1; cases h1
    refine ⟨hg0, fun y hy hn => ?_⟩
    have := h2 y (List.mem_range.mpr hy)
    rw [hn] at this
    simpa using this
  · rintro ⟨h1, h2⟩
    refine ⟨by rw [h1]; rfl, fun y hy => ?_⟩
    rw [List.mem_range] at hy
    cases hn : N i y with
    | false => rfl
    | true => simpa using h2 y hy hn
theorem tg_iff {N : Nat → Nat → Bool} {i j : Nat} : tg N i j = true ↔ i = j ∨ (N i j = true ∧ N j i = true) := by
  unfold tg; simp
theorem tg_refl (N : Nat → Nat → Bool) (i : Nat) : tg N i i = true := tg_iff.mpr (Or.inl rfl)
theorem tg_sym {N : Nat → Nat → Bool} {i j : Nat} (h : tg N i j = true) : tg N j i = true := by
  rw [tg_iff] at h ⊢
  rcases h with h | ⟨a, b⟩
  · exact Or.inl h.symm
  · exact Or.inr ⟨b, a⟩
theorem tg_tr {N : Nat → Nat → Bool} (hN : ∀ i k j, N i k = true → N k j = true → N i j = true) {i k j : Nat} (h1 : tg N i k = true) (h2 : tg N k j = true) : tg N i j = true := by
  rw [tg_iff] at h1 h2 ⊢
  rcases h1 with rfl | ⟨a, b⟩
  · exact h2
  · rcases h2 with rfl | ⟨c, d⟩
    · exact Or.inr ⟨a, b⟩
    · exact Or.inr ⟨hN _ _ _ a c, hN _ _ _ d b⟩
section P
variable {N : Nat → Nat → Bool} {D : Nat}
theorem gS_cl (hN : ∀ i k j, N i k = true → N k j = true → N i j = true) : ∀ k m m', (gS N D k m).isSome = true → tg N m m' = true → (gS N D k m').isSome = true := by
  intro k
  induction k with
  | zero => intro m m' h; cases h
  | succ k ih =>
    intro m m' h ht
    cases hl : ld N D k with
    | none =>
      have e : gS N D (k + 1) = gS N D k := by unfold ld at hl; rw [gS, hl]
      rw [e] at h ⊢
      exact ih m m' h ht
    | some i =>
      rw [gS_s N D k hl] at h ⊢
      by_cases h1 : tg N i m = true
      · rw [if_pos (tg_tr hN h1 ht)]; rfl
      · rw [if_neg h1] at h
        by_cases h2 : tg N i m' = true
        · rw [if_pos h2]; rfl
        · rw [if_neg h2]; exact ih m m' h ht
/-- a group is new -/
theorem gS_new (hN : ∀ i k j, N i k = true → N k j = true → N i j = true) {k i m : Nat} (h : ld N D k = some i) (ht : tg N i m = true) : gS N D k m = none := by
  have h1 := (el_iff.mp (fst1_s D 0 i h).2.2.1).1
  cases hm : gS N D k m with
  | none => rfl
  | some x =>
    have := gS_cl (D := D) hN k m i (by rw [hm]; rfl) (tg_sym ht)
    rw [h1] at this; cases this
theorem bot (hN : ∀ i k j, N i k = true → N k j = true → N i j = true) : ∀ (L : List Nat), L ≠ [] → ∃ i, i ∈ L ∧ ∀ y, y ∈ L → N i y = true → N y i = true := by
  intro L
  induction L with
  | nil => intro h; exact absurd rfl h
  | cons x l ih =>
    intro _
    cases l with
    | nil => exact ⟨x, List.mem_cons_self, fun y hy h => by
        have : y = x := by simpa using hy
        rw [this] at h ⊢; exact h⟩
    | cons z l' =>
      obtain ⟨i, hi, hb⟩ := ih (by simp)
      by_cases h1 : N i x = true ∧ ¬ N x i = true
      · refine ⟨x, List.mem_cons_self, fun y hy hxy => ?_⟩
        rcases List.mem_cons.mp hy with e | e
        · subst e; exact hxy
        · exact hN _ _ _ (hb y e (hN _ _ _ h1.1 hxy)) h1.1
      · refine ⟨i, List.mem_cons_of_mem _ hi, fun y hy hiy => ?_⟩
        rcases List.mem_cons.mp hy with e | e
        · subst e
          rcases Decidable.em (N y i = true) with w | w
          · exact w
          · exact absurd ⟨hiy, w⟩ h1
        · exact hb y e hiy
theorem ld_ex (hN : ∀ i k j, N i k = true → N k j = true → N i j = true) {k m : Nat} (hm : m < D) (hn : gS N D k m = none) : ∃ i, ld N D k = some i := by
  cases hl : ld N D k with
  | some i => exact ⟨i, rfl⟩
  | none =>
    have hno := fst1_n D 0 hl
    obtain ⟨i, hi, hb⟩ := bot hN ((List.range D).filter (fun y => !(gS N D k y).isSome)) (by
      intro hc
      have : m ∈ (List.range D).filter (fun y => !(gS N D k y).isSome) := List.mem_filter.mpr ⟨List.mem_range.mpr hm, by rw [hn]; rfl⟩
      rw [hc] at this; cases this)
    obtain ⟨hi1, hi2⟩ := List.mem_filter.mp hi
    have hiD := List.mem_range.mp hi1
    have hel : el N D (gS N D k) i = true := by
      rw [el_iff]
      have hg0 : gS N D k i = none := by
        cases hg : gS N D k i with
        | none => rfl
        | some x => rw [hg] at hi2; cases hi2
      refine ⟨hg0, fun y hy hiy => ?_⟩
      cases hs : (gS N D k y).isSome with
      | true => exact Or.inr rfl
      | false =>
        have := hb y (List.mem_filter.mpr ⟨List.mem_range.mpr hy, by rw [hs]; rfl⟩) hiy
        exact Or.inl (tg_iff.mpr (Or.inr ⟨hiy, this⟩))
    rw [hno i (Nat.zero_le _) (by omega)] at hel
    cases hel
def cN (p : Nat → Bool) : Nat → Nat
  | 0 => 0
  | d + 1 => cN p d + if p d = true then 1 else 0
theorem cN_le (p : Nat → Bool) : ∀ d, cN p d ≤ d
  | 0 => Nat.le_refl _
  | d + 1 => by rw [cN]; have := cN_le p d; split <;> omega
theorem cN_mono {p q : Nat → Bool} (h : ∀ i, p i = true → q i = true) : ∀ d, cN p d ≤ cN q d
  | 0 => Nat.le_refl _
  | d + 1 => by
    rw [cN, cN]
    have := cN_mono h d
    by_cases hp : p d = true
    · rw [if_pos hp, if_pos (h d hp)]; omega
    · rw [if_neg hp]; omega
theorem cN_lt {p q : Nat → Bool} (h : ∀ i, p i = true → q i = true) {i : Nat} (h1 : p i = false) (h2 : q i = true) : ∀ d, i < d → cN p d < cN q d
  | 0, hi => by omega
  | d + 1, hi => by
    rw [cN, cN]
    by_cases e : i = d
    · subst e
      have := cN_mono h i
      rw [if_neg (by rw [h1]; decide), if_pos h2]; omega
    · have := cN_lt h h1 h2 d (by omega)
      by_cases hp : p d = true
      · rw [if_pos hp, if_pos (h d hp)]; omega
      · rw [if_neg hp]; omega
theorem gS_mono (k i : Nat) (h : (gS N D k i).isSome = true) : (gS N D (k + 1) i).isSome = true := by
  cases hl : ld N D k with
  | none =>
    have e : gS N D (k + 1) = gS N D k := by unfold ld at hl; rw [gS, hl]
    rw [e]; exact h
  | some j =>
    rw [gS_s N D k hl]
    split
    · rfl
    · exact h
theorem gS_cnt (hN : ∀ i k j, N i k = true → N k j = true → N i j = true) : ∀ k, (∃ i, i < D ∧ gS N D k i = none) → k ≤ cN (fun i => (gS N D k i).isSome) D := by
  intro k
  induction k with
  | zero => intro _; omega
  | succ k ih =>
    rintro ⟨i, hi, hn⟩
    have hn' : gS N D k i = none := by
      cases hg : gS N D k i with
      | none => rfl
      | some x =>
        have := gS_mono (N := N) (D := D) k i (by rw [hg]; rfl)
        rw [hn] at this; cases this
    have h1 := ih ⟨i, hi, hn'⟩
    obtain ⟨l, hl⟩ := ld_ex (D := D) hN hi hn'
    have hlD := (fst1_s D 0 l hl).2.1
    have h2 := cN_lt (p := fun i => (gS N D k i).isSome) (q := fun i => (gS N D (k + 1) i).isSome) (fun i h => gS_mono k i h) (i := l) (by rw [gS_new (D := D) hN hl (tg_refl N l)]; rfl) (by
      show (gS N D (k + 1) l).isSome = true
      rw [gS_s N D k hl, if_pos (tg_refl N l)]; rfl) D (by omega)
    omega
/-- behind D rounds all have a group -/
theorem gS_all (hN : ∀ i k j, N i k = true → N k j = true → N i j = true) {i : Nat} (hi : i < D) : (gS N D D i).isSome = true := by
  cases hg : gS N D D i with
  | some x => rfl
  | none =>
    have h1 := gS_cnt (D := D) hN D ⟨i, hi, hg⟩
    have h2 := cN_lt (p := fun i => (gS N D D i).isSome) (q := fun _ => true) (fun _ _ => rfl) (i := i) (by rw [hg]; rfl) rfl D hi
    have h3 := cN_le (fun _ => true) D
    omega
theorem ld_none {k : Nat} (h : ∀ i, i < D → (gS N D k i).isSome = true) : ld N D k = none := by
  cases hl : ld N D k with
  | none => rfl
  | some i =>
    have h0 := fst1_s D 0 i hl
    have h1 := (el_iff.mp h0.2.2.1).1
    have := h i (by omega)
    rw [h1] at this; cases this
theorem gS_lt : ∀ k i x, gS N D k i = some x → x < k := by
  intro k
  induction k with
  | zero => intro i x h; cases h
  | succ k ih =>
    intro i x h
    cases hl : ld N D k with
    | none =>
      have e : gS N D (k + 1) = gS N D k := by unfold ld at hl; rw [gS, hl]
      rw [e] at h
      have := ih i x h; omega
    | some j =>
      rw [gS_s N D k hl] at h
      split at h
      · cases h; omega
      · have := ih i x h; omega
end P
theorem bq_xm (x : Int32) {j : Nat} (hj : j < 32) : bq (x ^^^ (-1 : Int32)) j = !bq x j := by
  unfold bq
  rw [Int32.toBitVec_xor, BitVec.getLsbD_xor]
  have : ∀ j : Fin 32, (-1 : Int32).toBitVec.getLsbD j.val = true := by decide
  rw [this ⟨j, hj⟩]; simp
theorem bq_z {x : Int32} : x = 0 ↔ ∀ j, j < 32 → bq x j = false := by
  constructor
  · intro h j _; rw [h, bq_0]
  · intro h
    apply bq_ext
    intro j hj
    rw [h j hj, bq_0]
section N
variable {F : Nat} {σ τ : zS} {D : Nat} {N : Nat → Nat → Bool}
/-- a mask of a set -/
def mS1 (x : Int32) (p : Nat → Bool) : Prop := ∀ j, j < 32 → bq x j = p j
theorem rg_loop (h400 : gi σ 400 = nI D) (hD : D ≤ 16) (hm : mkR σ 38 D N) {i : Nat} (hi : i < D) : ∀ (d f k : Nat) (x : Int32), k + d = D → d < f → mS1 x (fun j => decide (i = j) || (decide (j < k) && tg N i j)) → ∃ x', Te_ringOf_6 F f σ (nI i) x (nI k) = some (x', σ) ∧ mS1 x' (fun j => decide (j < D) && tg N i j) := by
  intro d
  induction d with
  | zero =>
    intro f k x hk hf hx
    obtain ⟨f, rfl⟩ : ∃ f', f = f' + 1 := ⟨f - 1, by omega⟩
    refine ⟨x, by rw [Te_ringOf_6, Te_ringOf_b6, h400, if_pos (nI_le (by omega) (by omega))], fun j hj => ?_⟩
    rw [hx j hj, show k = D by omega]
    by_cases e : i = j
    · subst e; simp [hi, tg_refl]
    · simp [e]
  | succ d ih =>
    intro f k x hk hf hx
    obtain ⟨f, rfl⟩ : ∃ f', f = f' + 1 := ⟨f - 1, by omega⟩
    have ci : (nI i).toNatClampNeg = i := nI_clamp (by omega)
    have ck : (nI k).toNatClampNeg = k := nI_clamp (by omega)
    have h1 : bq (ga σ 38 i) k = N i k := hm i hi k (by omega)
    have h2 : bq (ga σ 38 k) i = N k i := hm k (by omega) i (by omega)
    have key : Te_ringOf_6 F (f + 1) σ (nI i) x (nI k) = Te_ringOf_6 F f σ (nI i) (if N i k = true ∧ N k i = true then x ||| (1 : Int32) <<< (nI k &&& 31) else x) (nI (k + 1)) := by
      rw [Te_ringOf_6, Te_ringOf_b6, h400, if_neg (nI_ge (by omega) (by omega)), gd_t (inb_nI (by omega) (by omega)), gd_t (inb_nI (by omega) (by omega)), ci, ck, Te_ringOf_46, Te_ringOf_46, nI_1]
      simp only [bq_test _ (show i < 32 by omega), bq_test _ (show k < 32 by omega), h1, h2]
      cases N i k <;> cases N k i <;> rfl
    rw [key]
    apply ih f (k + 1) _ (by omega) (by omega)
    intro j hj
    by_cases hc : N i k = true ∧ N k i = true
    · rw [if_pos hc, bq_or, bq_shl (by omega), hx j hj]
      by_cases e : j = k
      · subst e
        have : tg N i j = true := tg_iff.mpr (Or.inr hc)
        simp [this]
      · have : (j < k + 1) ↔ j < k := by omega
        simp [e, this]
    · rw [if_neg hc, hx j hj]
      by_cases e : j = k
      · subst e
        by_cases e2 : i = j
        · simp [e2]
        · have : tg N i j = false := by
            cases ht : tg N i j with
            | false => rfl
            | true => rcases tg_iff.mp ht with w | w
                      · exact absurd w e2
                      · exact absurd w hc
          simp [this]
      · have : (j < k + 1) ↔ j < k := by omega
        simp [this]
theorem ringC (hF : 1300 ≤ F) (h400 : gi σ 400 = nI D) (hD : D ≤ 16) (hm : mkR σ 38 D N) {i : Nat} (hi : i < D) : ∃ x, Te_ringOf F σ (nI i) = some (x, σ) ∧ mS1 x (fun j => decide (j < D) && tg N i j) := by
  refine rg_loop (F := F) h400 hD hm hi D F 0 _ (by omega) (by omega) ?_
  intro j hj
  rw [bq_shl (by omega)]
  by_cases e : j = i
  · subst e; simp
  · have : ¬ i = j := fun z => e z.symm
    simp [e, this]
theorem nxt_loop (hF : 1300 ≤ F) (h400 : gi σ 400 = nI D) (hD : D ≤ 16) (hm : mkR σ 38 D N) (hN : ∀ i j, N i j = true → i < D ∧ j < D) {G : Nat → Option Nat} {P : Int32} (hP : mS1 P (fun j => decide (j < D) && (G j).isSome)) : ∀ (d f i : Nat), i + d = D → d < f → Te_nextOf_2 F f σ P (nI i) = some (match fst1 (el N D G) d i with | none => -1 | some j => nI j, σ) := by
  intro d
  induction d with
  | zero =>
    intro f i hi hf
    obtain ⟨f, rfl⟩ : ∃ f', f = f' + 1 := ⟨f - 1, by omega⟩
    rw [Te_nextOf_2, Te_nextOf_b2, h400, if_pos (nI_le (by omega) (by omega))]
    rfl
  | succ d ih =>
    intro f i hi hf
    obtain ⟨f, rfl⟩ : ∃ f', f = f' + 1 := ⟨f - 1, by omega⟩
    have ci : (nI i).toNatClampNeg = i := nI_clamp (by omega)
    obtain ⟨x, e1, w1⟩ := ringC (F := F) hF h400 hD hm (i := i) (by omega)
    have hPi : bq P i = (G i).isSome := by rw [hP i (by omega)]; simp [show i < D by omega]
    have htest : ((ga σ 38 i &&& (x ^^^ (-1 : Int32))) &&& (P ^^^ (-1 : Int32))) = 0 ↔ ∀ y, y < D → N i y = true → tg N i y = true ∨ (G y).isSome = true := by
      rw [bq_z]
      constructor
      · intro h y hy hn
        have := h y (by omega)
        rw [bq_and, bq_and, bq_xm _ (by omega), bq_xm _ (by omega), hm i (by omega) y (by omega), w1 y (by omega), hP y (by omega), hn] at this
        simp only [hy, decide_true, Bool.true_and] at this
        cases ht : tg N i y with
        | true => exact Or.inl rfl
        | false =>
          rw [ht] at this
          cases hg : (G y).isSome with
          | true => exact Or.inr rfl
          | false => rw [hg] at this; cases this
      · intro h y hy
        rw [bq_and, bq_and, bq_xm _ (by omega), bq_xm _ (by omega), hm i (by omega) y (by omega), w1 y (by omega), hP y (by omega)]
        cases hn : N i y with
        | false => rfl
        | true =>
          have hyD := (hN i y hn).2
          rcases h y hyD hn with z | z
          · simp [z, hyD]
          · simp [z, hyD]
    have key : Te_nextOf_2 F (f + 1) σ P (nI i) = if el N D G i = true then some (nI i, σ) else Te_nextOf_2 F f σ P (nI (i + 1)) := by
      rw [Te_nextOf_2, Te_nextOf_b2, h400, if_neg (nI_ge (by omega) (by omega)), Te_nextOf_23, Te_nextOf_23, if_neg (show ¬ (1 : Int32) = 0 by decide), if_pos (show (0 : Int32) = 0 from rfl), gd_t (inb_nI (by omega) (by omega)), e1, bi_some, ci, Te_nextOf_51, nI_1]
      simp only [bq_test _ (show i < 32 by omega), hPi, htest]
      cases hg : G i with
      | some z =>
        have : el N D G i = false := by
          cases hc : el N D G i with
          | false => rfl
          | true => have := (el_iff.mp hc).1; rw [hg] at this; cases this
        rw [this]; rfl
      | none =>
        rw [if_pos (show (none : Option Nat).isSome = false from rfl)]
        by_cases hc : el N D G i = true
        · rw [if_pos hc, if_pos (el_iff.mp hc).2]
        · rw [if_neg hc, if_neg (fun z => hc (el_iff.mpr ⟨hg, z⟩))]
    rw [key, fst1]
    by_cases hc : el N D G i = true
    · rw [if_pos hc, if_pos hc]
    · rw [if_neg hc, if_neg hc]
      exact ih f (i + 1) (by omega) (by omega)
end N
