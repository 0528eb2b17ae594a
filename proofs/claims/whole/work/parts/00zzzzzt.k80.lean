/-! Types as rows of blocks: an item with the applications ahead of it. Own text. -/
abbrev BE : Type := Nat × Nat
def fx (x : Nat) : Nat := if x = 1 then 1 else if x = 2 then 2 else 0
theorem fx_lf (c : Nat) : fx (10 + c) = 0 := by
  unfold fx
  rw [if_neg (by omega), if_neg (by omega)]
def bmp : List BE → Nat → List BE
  | [], _ => []
  | (k, x) :: l, j => (k + j, x) :: l
def blk : TE → List BE
  | .var c => [(0, 10 + c)]
  | .op (.op (.var 0) f) a => bmp (blk f) 1 ++ blk a
  | .op (.op (.var 1) l) r => (0, 2) :: (blk l ++ blk r)
  | .op (.op (.var 2) (.var _)) t => (0, 1) :: blk t
  | .op (.op (.var 3) (.var _)) t => blk t
  | _ => []
theorem bmp_len (l : List BE) (j : Nat) : (bmp l j).length = l.length := by
  cases l with
  | nil => rfl
  | cons b l => rfl
theorem bmp_0 (l : List BE) : bmp l 0 = l := by
  cases l with
  | nil => rfl
  | cons b l => rfl
theorem bmp_bmp (l : List BE) (i j : Nat) : bmp (bmp l i) j = bmp l (i + j) := by
  cases l with
  | nil => rfl
  | cons b l => simp only [bmp, Nat.add_assoc]
theorem bmp_app {l : List BE} (h : l ≠ []) (l2 : List BE) (j : Nat) : bmp (l ++ l2) j = bmp l j ++ l2 := by
  cases l with
  | nil => exact absurd rfl h
  | cons b l => rfl
theorem bmp_ne {l : List BE} (h : l ≠ []) (j : Nat) : bmp l j ≠ [] := by
  cases l with
  | nil => exact absurd rfl h
  | cons b l => simp [bmp]
theorem blk_ne : ∀ t : TE, okT t → blk t ≠ []
  | .var c, _ => by simp [blk]
  | .op (.op (.var 0) f) a, h => by
    rw [blk]
    intro z
    exact bmp_ne (blk_ne f h.1) 1 (List.append_eq_nil_iff.mp z).1
  | .op (.op (.var 1) l) r, h => by simp [blk]
  | .op (.op (.var 2) (.var _)) t, h => by simp [blk]
  | .op (.op (.var 3) (.var _)) t, h => by rw [blk]; exact blk_ne t h
/-- an entry of the class's rows -/
def cEn (b : BE) : Int32 × Int64 × Nat := (if b.2 = 1 then 91 else if b.2 = 2 then 45 else if lfB (b.2 - 10) = 0 then 2 else 3, if b.2 < 10 then 0 else lfN (b.2 - 10), b.1 + fx b.2)
theorem cEn_lf (k c : Nat) : cEn (k, 10 + c) = (if lfB c = 0 then 2 else 3, lfN c, k) := by
  have h1 : ¬ 10 + c = 1 := by omega
  have h2 : ¬ 10 + c = 2 := by omega
  have h3 : ¬ 10 + c < 10 := by omega
  unfold cEn fx
  simp only [Nat.add_sub_cancel_left, if_neg h1, if_neg h2, if_neg h3, Nat.add_zero]
def dropS (e : QE) : Int32 × Int64 × Nat := (e.1, e.2.1, e.2.2.1)
theorem blk_hd : ∀ t : TE, okT t → ∃ b l, blk t = b :: l ∧ cEn b = dropS (hdT t) ∧ l.map cEn = (tlT t).map dropS
  | .var c, _ => ⟨(0, 10 + c), [], rfl, by rw [cEn_lf]; rfl, rfl⟩
  | .op (.op (.var 0) f) a, h => by
    obtain ⟨b, l, e1, e2, e3⟩ := blk_hd f h.1
    obtain ⟨b', l', f1, f2, f3⟩ := blk_hd a h.2
    refine ⟨(b.1 + 1, b.2), l ++ (b' :: l'), by rw [blk, e1, f1]; rfl, ?_, ?_⟩
    · have : cEn (b.1 + 1, b.2) = ((cEn b).1, (cEn b).2.1, (cEn b).2.2 + 1) := by unfold cEn; simp only [Prod.mk.injEq, true_and]; omega
      rw [this, e2]; rfl
    · rw [List.map_append, e3, List.map_cons, f2, f3]
      show _ = List.map dropS (tlT f ++ hdT a :: tlT a)
      rw [List.map_append]; rfl
  | .op (.op (.var 1) l) r, h => by
    obtain ⟨b, l1, e1, e2, e3⟩ := blk_hd l h.1
    obtain ⟨b', l', f1, f2, f3⟩ := blk_hd r h.2
    refine ⟨(0, 2), (b :: l1) ++ (b' :: l'), by rw [blk, e1, f1], rfl, ?_⟩
    rw [List.map_append, List.map_cons, List.map_cons, e2, e3, f2, f3]
    show _ = List.map dropS (hdT l :: (tlT l ++ hdT r :: tlT r))
    rw [List.map_cons, List.map_append]; rfl
  | .op (.op (.var 2) (.var p)) t, h => by
    obtain ⟨b, l, e1, e2, e3⟩ := blk_hd t h
    refine ⟨(0, 1), b :: l, by rw [blk, e1], rfl, ?_⟩
    rw [List.map_cons, e2, e3]; rfl
  | .op (.op (.var 3) (.var p)) t, h => by
    obtain ⟨b, l, e1, e2, e3⟩ := blk_hd t h
    exact ⟨b, l, by rw [blk, e1], e2, e3⟩
theorem blk_len (t : TE) (h : okT t) : (blk t).length = lnT t := by
  obtain ⟨b, l, e1, e2, e3⟩ := blk_hd t h
  have := congrArg List.length e3
  rw [List.length_map, List.length_map] at this
  rw [e1, List.length_cons, this]; rfl
/-- blocks in a row of the class -/
def cRw (σ : zS) (X : Nat) : Nat → List BE → Prop
  | _, [] => True
  | i, b :: l => (ma σ (rA X 0) i = (cEn b).1 ∧ mb σ (rA X 1) i = (cEn b).2.1 ∧ ma σ (rA X 2) i = nI (cEn b).2.2) ∧ cRw σ X (i + 1) l
theorem cRw_of {σ : zS} {X : Nat} : ∀ (l : List BE) (q : List QE) (i : Nat), l.map cEn = q.map dropS → rwL σ X i q → cRw σ X i l
  | [], q, i, _, _ => trivial
  | b :: l, [], i, h, _ => by simp at h
  | b :: l, e :: q, i, h, g => by
    simp only [List.map_cons, List.cons.injEq] at h
    obtain ⟨h1, h2⟩ := h
    obtain ⟨⟨g1, g2, g3, g4⟩, g5⟩ := g
    exact ⟨by rw [h1]; exact ⟨g1, g2, g3⟩, cRw_of l q (i + 1) h2 g5⟩
theorem cRw_blk {σ : zS} {X i : Nat} (t : TE) (h : okT t) (g : rwL σ X i (hdT t :: tlT t)) : cRw σ X i (blk t) := by
  obtain ⟨b, l, e1, e2, e3⟩ := blk_hd t h
  rw [e1]
  exact cRw_of _ _ _ (by rw [List.map_cons, List.map_cons, e2, e3]) g
theorem cRw_app {σ : zS} {X : Nat} : ∀ (l1 l2 : List BE) (i : Nat), cRw σ X i (l1 ++ l2) ↔ cRw σ X i l1 ∧ cRw σ X (i + l1.length) l2 := by
  intro l1
  induction l1 with
  | nil => intro l2 i; simp [cRw]
  | cons e l ih =>
    intro l2 i
    simp only [List.cons_append, cRw, List.length_cons, ih, and_assoc]
    rw [show i + 1 + l.length = i + (l.length + 1) by omega]
theorem cRw_fr {σ σ' : zS} {X : Nat} : ∀ (l : List BE) (i : Nat), (∀ j, i ≤ j → j < i + l.length → ma σ' (rA X 0) j = ma σ (rA X 0) j ∧ mb σ' (rA X 1) j = mb σ (rA X 1) j ∧ ma σ' (rA X 2) j = ma σ (rA X 2) j) → cRw σ X i l → cRw σ' X i l := by
  intro l
  induction l with
  | nil => intro i _ _; trivial
  | cons e l ih =>
    intro i h g
    obtain ⟨a1, a2, a3⟩ := h i (Nat.le_refl _) (by simp only [List.length_cons]; omega)
    obtain ⟨⟨b1, b2, b3⟩, b5⟩ := g
    exact ⟨⟨a1.trans b1, a2.trans b2, a3.trans b3⟩, ih (i + 1) (fun j j1 j2 => h j (by omega) (by simp only [List.length_cons]; omega)) b5⟩
/-- items of the reference's rows -/
def itB (b : BE) : List Nat := List.replicate b.1 0 ++ [b.2]
def it : List BE → List Nat
  | [] => []
  | b :: l => itB b ++ it l
theorem it_app : ∀ (l1 l2 : List BE), it (l1 ++ l2) = it l1 ++ it l2
  | [], l2 => rfl
  | b :: l, l2 => by rw [List.cons_append, it, it, it_app l l2, List.append_assoc]
theorem it_bmp {l : List BE} (h : l ≠ []) (j : Nat) : it (bmp l j) = List.replicate j 0 ++ it l := by
  cases l with
  | nil => exact absurd rfl h
  | cons b l =>
    rw [bmp, it, it, itB, itB]
    simp only [Nat.add_comm b.1 j, ← List.replicate_append_replicate, List.append_assoc]
/-- items in a row of the reference -/
def itR (τ : zS) (v : Int32) (x : Nat) : Prop := (x < 10 ∧ v = nI x) ∨ (10 ≤ x ∧ ∃ n, n < 1000 ∧ v = nI (10 + n) ∧ ga τ 2 n = nI (lfB (x - 10)) ∧ gb τ 3 n = lfN (x - 10))
def mRw (τ : zS) (A : Nat) : Nat → List Nat → Prop
  | _, [] => True
  | i, x :: l => itR τ (ga τ A i) x ∧ mRw τ A (i + 1) l
theorem mRw_app {τ : zS} {A : Nat} : ∀ (l1 l2 : List Nat) (i : Nat), mRw τ A i (l1 ++ l2) ↔ mRw τ A i l1 ∧ mRw τ A (i + l1.length) l2 := by
  intro l1
  induction l1 with
  | nil => intro l2 i; simp [mRw]
  | cons e l ih =>
    intro l2 i
    simp only [List.cons_append, mRw, List.length_cons, ih, and_assoc]
    rw [show i + 1 + l.length = i + (l.length + 1) by omega]
theorem itR_fr {τ τ' : zS} (h2 : ga τ' 2 = ga τ 2) (h3 : gb τ' 3 = gb τ 3) {v : Int32} {x : Nat} (h : itR τ v x) : itR τ' v x := by
  unfold itR at h ⊢
  rw [h2, h3]
  exact h
theorem mRw_fr {τ τ' : zS} {A A' : Nat} (h2 : ga τ' 2 = ga τ 2) (h3 : gb τ' 3 = gb τ 3) : ∀ (l : List Nat) (i i' : Nat), (∀ j, j < l.length → ga τ' A' (i' + j) = ga τ A (i + j)) → mRw τ A i l → mRw τ' A' i' l := by
  intro l
  induction l with
  | nil => intro i i' _ _; trivial
  | cons e l ih =>
    intro i i' h g
    have h0 := h 0 (by simp)
    simp only [Nat.add_zero] at h0
    refine ⟨by rw [h0]; exact itR_fr h2 h3 g.1, ih (i + 1) (i' + 1) (fun j hj => ?_) g.2⟩
    have := h (j + 1) (by simp; omega)
    rw [show i' + 1 + j = i' + (j + 1) by omega, show i + 1 + j = i + (j + 1) by omega]
    exact this
/-- a row is so many whole types -/
def fo : List BE → Nat → Prop
  | [], m => m = 0
  | b :: l, m => 0 < m ∧ fo l (m - 1 + b.1 + fx b.2)
theorem fo_app : ∀ (l1 l2 : List BE) (m1 m2 : Nat), fo l1 m1 → fo l2 m2 → fo (l1 ++ l2) (m1 + m2)
  | [], l2, m1, m2, h1, h2 => by
    have : m1 = 0 := h1
    subst this
    simpa using h2
  | b :: l, l2, m1, m2, h1, h2 => by
    obtain ⟨a1, a2⟩ := h1
    refine ⟨by omega, ?_⟩
    have := fo_app l l2 _ m2 a2 h2
    rw [show m1 + m2 - 1 + b.1 + fx b.2 = m1 - 1 + b.1 + fx b.2 + m2 by omega]
    exact this
theorem fo_len : ∀ (l : List BE) (m : Nat), fo l m → (it l).length + m ≤ 2 * l.length ∧ m ≤ l.length
  | [], m, h => by
    have : m = 0 := h
    subst this
    simp [it]
  | b :: l, m, h => by
    obtain ⟨a1, a2⟩ := h
    obtain ⟨b1, b2⟩ := fo_len l _ a2
    rw [it, List.length_append, itB, List.length_append, List.length_replicate, List.length_cons, List.length_cons, List.length_nil]
    omega
def hk (lk : Nat → IT) (x : Nat) : IT := if x < 10 then iS else lk (x - 10)
theorem hk_lf (lk : Nat → IT) (c : Nat) : hk lk (10 + c) = lk c := by
  unfold hk
  rw [if_neg (by omega), Nat.add_sub_cancel_left]
def KW (lk : Nat → IT) : List BE → List IT → Prop
  | [], ks => ks = []
  | b :: l, ks => ∃ κ ks0 as, ks = κ :: ks0 ∧ as.length = b.1 ∧ hk lk b.2 = arr as κ ∧ KW lk l (List.replicate (fx b.2) iS ++ (as ++ ks0))
theorem KW_fo (lk : Nat → IT) : ∀ (l : List BE) (ks : List IT), KW lk l ks → fo l ks.length
  | [], ks, h => by
    rw [show ks = [] from h]; rfl
  | b :: l, ks, h => by
    obtain ⟨κ, ks0, as, h1, h2, h3, h4⟩ := h
    have := KW_fo lk l _ h4
    subst h1
    refine ⟨by simp, ?_⟩
    simp only [List.length_append, List.length_replicate, h2] at this
    rw [List.length_cons, Nat.add_sub_cancel, show ks0.length + b.1 + fx b.2 = fx b.2 + (b.1 + ks0.length) by omega]
    exact this
theorem KW_app (lk : Nat → IT) : ∀ (l1 l2 : List BE) (k1 k2 : List IT), KW lk l1 k1 → KW lk l2 k2 → KW lk (l1 ++ l2) (k1 ++ k2)
  | [], l2, k1, k2, h1, h2 => by
    rw [show k1 = [] from h1]; exact h2
  | b :: l, l2, k1, k2, h1, h2 => by
    obtain ⟨κ, ks0, as, a1, a2, a3, a4⟩ := h1
    subst a1
    refine ⟨κ, ks0 ++ k2, as, rfl, a2, a3, ?_⟩
    have := KW_app lk l l2 _ k2 a4 h2
    simp only [List.append_assoc] at this
    exact this
theorem KW_split (lk : Nat → IT) : ∀ (l : List BE) (k1 k2 : List IT), KW lk l (k1 ++ k2) → ∃ l1 l2, l = l1 ++ l2 ∧ KW lk l1 k1 ∧ KW lk l2 k2
  | l, [], k2, h => ⟨[], l, rfl, rfl, h⟩
  | [], κ :: k1, k2, h => by
    have h' : (κ :: k1) ++ k2 = [] := h
    simp at h'
  | b :: l, κ :: k1, k2, h => by
    obtain ⟨κ', ks0, as, a1, a2, a3, a4⟩ := h
    have e : κ = κ' ∧ k1 ++ k2 = ks0 := by simpa using a1
    rw [← e.2, ← List.append_assoc as, ← List.append_assoc] at a4
    obtain ⟨l1, l2, b1, b2, b3⟩ := KW_split lk l _ k2 a4
    exact ⟨b :: l1, l2, by rw [b1]; rfl, ⟨κ, k1, as, rfl, a2, by rw [e.1]; exact a3, b2⟩, b3⟩
theorem KW_pre (lk : Nat → IT) : ∀ (A X : List BE) (ks : List IT), KW lk (A ++ X) ks → ∃ ks', KW lk X ks' ∧ ∀ X', KW lk X' ks' → KW lk (A ++ X') ks
  | [], X, ks, h => ⟨ks, h, fun X' h' => h'⟩
  | b :: A, X, ks, h => by
    obtain ⟨κ, ks0, as, a1, a2, a3, a4⟩ := h
    obtain ⟨ks', b1, b2⟩ := KW_pre lk A X _ a4
    exact ⟨ks', b1, fun X' h' => ⟨κ, ks0, as, a1, a2, a3, b2 X' h'⟩⟩
theorem KW_WT (lk : Nat → IT) : ∀ (t : TE), okT t → ∀ (as : List IT) (κ : IT) (l : List BE) (ks : List IT), WT lk t (arr as κ) → KW lk l (as ++ ks) → KW lk (bmp (blk t) as.length ++ l) (κ :: ks)
  | .var c, _, as, κ, l, ks, h, g => by
    have h' : arr as κ = lk c := h
    refine ⟨κ, ks, as, rfl, by show as.length = 0 + as.length; omega, ?_, ?_⟩
    · rw [hk_lf]; exact h'.symm
    · show KW lk l (List.replicate (fx (10 + c)) iS ++ (as ++ ks))
      rw [fx_lf]; exact g
  | .op (.op (.var 0) f) a, ok, as, κ, l, ks, h, g => by
    obtain ⟨κa, h1, h2⟩ := h
    have g1 := KW_WT lk a ok.2 [] κa l (as ++ ks) h2 g
    rw [List.length_nil, bmp_0] at g1
    have g2 := KW_WT lk f ok.1 (κa :: as) κ (blk a ++ l) ks h1 g1
    rw [blk, bmp_app (bmp_ne (blk_ne f ok.1) 1), bmp_bmp, List.append_assoc]
    rw [List.length_cons, Nat.add_comm] at g2
    exact g2
  | .op (.op (.var 1) a) b, ok, as, κ, l, ks, h, g => by
    obtain ⟨h0, h1, h2⟩ := h
    obtain ⟨e1, e2⟩ := arr_S h0.symm
    subst e1 e2
    have g1 := KW_WT lk b ok.2 [] iS l ks h2 g
    have g2 := KW_WT lk a ok.1 [] iS _ (iS :: ks) h1 g1
    rw [List.length_nil, bmp_0, bmp_0] at g2
    rw [List.length_nil, bmp_0, blk, List.cons_append, List.append_assoc]
    exact ⟨iS, ks, [], rfl, rfl, rfl, g2⟩
  | .op (.op (.var 2) (.var p)) t, ok, as, κ, l, ks, h, g => by
    obtain ⟨h0, h1⟩ := h
    obtain ⟨e1, e2⟩ := arr_S h0.symm
    subst e1 e2
    have g1 := KW_WT lk t ok [] iS l ks h1 g
    rw [List.length_nil, bmp_0] at g1
    rw [List.length_nil, bmp_0, blk, List.cons_append]
    exact ⟨iS, ks, [], rfl, rfl, rfl, g1⟩
  | .op (.op (.var 3) (.var p)) t, ok, as, κ, l, ks, h, g => by
    rw [blk]
    exact KW_WT lk t ok as κ l ks h g
theorem KW_t (lk : Nat → IT) (t : TE) (ok : okT t) (κ : IT) (h : WT lk t κ) : KW lk (blk t) [κ] := by
  have := KW_WT lk t ok [] κ [] [] h rfl
  rwa [List.length_nil, bmp_0, List.append_nil] at this
