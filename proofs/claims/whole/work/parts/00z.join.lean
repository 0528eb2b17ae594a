/-! Both readers side by side: what is said of them. Own text. -/
/-- the leaves of a type, and the mentions that they are -/
def lvs : TE → List Nat
  | .var c => [c]
  | .op (.op (.var 0) f) a => lvs f ++ lvs a
  | .op (.op (.var 1) l) r => lvs l ++ lvs r
  | .op (.op (.var 2) (.var _)) t => lvs t
  | .op (.op (.var 3) (.var _)) t => lvs t
  | _ => []
def leL (σ : zS) (o : Int32) : Nat → List Nat → Prop
  | _, [] => True
  | i, c :: l => (ga σ 43 i = (if lfB c = 0 then 5 else 6) ∧ gb σ 44 i = lfN c ∧ ga σ 46 i = o) ∧ leL σ o (i + 1) l
theorem leL_app (σ : zS) (o : Int32) : ∀ (l1 l2 : List Nat) (i : Nat), leL σ o i (l1 ++ l2) ↔ leL σ o i l1 ∧ leL σ o (i + l1.length) l2 := by
  intro l1
  induction l1 with
  | nil => intro l2 i; simp [leL]
  | cons e l ih =>
    intro l2 i
    simp only [List.cons_append, leL, List.length_cons, ih, and_assoc]
    rw [show i + 1 + l.length = i + (l.length + 1) by omega]
theorem leL_fr {σ σ' : zS} {o : Int32} : ∀ (l : List Nat) (i : Nat), (∀ j, i ≤ j → j < i + l.length → ga σ' 43 j = ga σ 43 j ∧ gb σ' 44 j = gb σ 44 j ∧ ga σ' 46 j = ga σ 46 j) → leL σ o i l → leL σ' o i l := by
  intro l
  induction l with
  | nil => intro i _ _; trivial
  | cons e l ih =>
    intro i h g
    obtain ⟨a1, a2, a3⟩ := h i (Nat.le_refl _) (by simp only [List.length_cons]; omega)
    obtain ⟨⟨b1, b2, b3⟩, b5⟩ := g
    exact ⟨⟨a1.trans b1, a2.trans b2, a3.trans b3⟩, ih (i + 1) (fun j j1 j2 => h j (by omega) (by simp only [List.length_cons]; omega)) b5⟩
/-- the ones that a name was told to have behind it are there -/
def vaL (σ : zS) : Nat → List QE → Prop
  | _, [] => True
  | i, e :: l => if e.1 = 2 ∨ e.1 = 3 then (e.1 = 2 → ∃ v, ga σ 47 i = nI v ∧ v ≤ e.2.2.1) ∧ vaL σ (i + 1) l else vaL σ i l
def nLf : List QE → Nat
  | [] => 0
  | e :: l => (if e.1 = 2 ∨ e.1 = 3 then 1 else 0) + nLf l
theorem nLf_app : ∀ l1 l2 : List QE, nLf (l1 ++ l2) = nLf l1 + nLf l2
  | [], l2 => by simp [nLf]
  | e :: l, l2 => by rw [List.cons_append, nLf, nLf, nLf_app l l2, Nat.add_assoc]
theorem vaL_y {σ : zS} {i : Nat} {e : QE} {l : List QE} (h : e.1 = 2 ∨ e.1 = 3) : vaL σ i (e :: l) ↔ (e.1 = 2 → ∃ v, ga σ 47 i = nI v ∧ v ≤ e.2.2.1) ∧ vaL σ (i + 1) l := by
  rw [vaL, if_pos h]
theorem vaL_n {σ : zS} {i : Nat} {e : QE} {l : List QE} (h : ¬ (e.1 = 2 ∨ e.1 = 3)) : vaL σ i (e :: l) ↔ vaL σ i l := by
  rw [vaL, if_neg h]
theorem vaL_app (σ : zS) : ∀ (l1 l2 : List QE) (i : Nat), vaL σ i (l1 ++ l2) ↔ vaL σ i l1 ∧ vaL σ (i + nLf l1) l2
  | [], l2, i => by simp [vaL, nLf]
  | e :: l, l2, i => by
    rw [List.cons_append, nLf]
    by_cases h : e.1 = 2 ∨ e.1 = 3
    · rw [vaL_y h, vaL_y h, vaL_app σ l l2 (i + 1), if_pos h, and_assoc, show i + 1 + nLf l = i + (1 + nLf l) by omega]
    · rw [vaL_n h, vaL_n h, vaL_app σ l l2 i, if_neg h, Nat.zero_add]
theorem vaL_fr {σ σ' : zS} : ∀ (l : List QE) (i : Nat), (∀ j, i ≤ j → j < i + nLf l → ga σ' 47 j = ga σ 47 j) → vaL σ i l → vaL σ' i l
  | [], _, _, _ => trivial
  | e :: l, i, h, g => by
    rw [nLf] at h
    by_cases c : e.1 = 2 ∨ e.1 = 3
    · rw [if_pos c] at h
      rw [vaL_y c] at g ⊢
      refine ⟨fun z => by rw [h i (by omega) (by omega)]; exact g.1 z, vaL_fr l (i + 1) (fun j h1 h2 => h j (by omega) (by omega)) g.2⟩
    · rw [if_neg c] at h
      rw [vaL_n c] at g ⊢
      exact vaL_fr l i (fun j h1 h2 => h j h1 (by omega)) g
theorem vaL_hd {σ : zS} {i : Nat} {e e' : QE} {l : List QE} (h1 : e'.1 = e.1) (h2 : e.2.2.1 ≤ e'.2.2.1) (g : vaL σ i (e :: l)) : vaL σ i (e' :: l) := by
  by_cases c : e.1 = 2 ∨ e.1 = 3
  · rw [vaL_y c] at g
    rw [vaL_y (by rw [h1]; exact c)]
    refine ⟨fun z => ?_, g.2⟩
    obtain ⟨v, v1, v2⟩ := g.1 (by rw [← h1]; exact z)
    exact ⟨v, v1, by omega⟩
  · rw [vaL_n c] at g
    rw [vaL_n (by rw [h1]; exact c)]
    exact g
theorem nLf_e {e e' : QE} {l : List QE} (h : e'.1 = e.1) : nLf (e' :: l) = nLf (e :: l) := by rw [nLf, nLf, h]
theorem nLf_t : ∀ t, okT t → nLf (hdT t :: tlT t) = (lvs t).length := by
  apply tE_ind
  · intro c _
    rw [(tT.1 c).1, (tT.1 c).2, nLf, nLf]
    have : (if lfB c = 0 then (2 : Int32) else 3) = 2 ∨ (if lfB c = 0 then (2 : Int32) else 3) = 3 := by
      by_cases z : lfB c = 0
      · rw [if_pos z]; exact Or.inl rfl
      · rw [if_neg z]; exact Or.inr rfl
    rw [if_pos this]; rfl
  · intro f a _ _ hf ha
    rw [(tT.2.1 f a).2, show hdT (tO f a) :: (tlT f ++ hdT a :: tlT a) = (hdT (tO f a) :: tlT f) ++ (hdT a :: tlT a) from rfl, nLf_app, nLf_e (e := hdT f) (by rw [(tT.2.1 f a).1]), hf, ha]
    show _ = (lvs f ++ lvs a).length
    rw [List.length_append]
  · intro l r _ _ hl hr
    rw [(tT.2.2.1 l r).1, (tT.2.2.1 l r).2, nLf, if_neg (show ¬ ((45 : Int32) = 2 ∨ (45 : Int32) = 3) by decide), Nat.zero_add, show hdT l :: (tlT l ++ hdT r :: tlT r) = (hdT l :: tlT l) ++ (hdT r :: tlT r) from rfl, nLf_app, hl, hr]
    show _ = (lvs l ++ lvs r).length
    rw [List.length_append]
  · intro p t _ ht
    rw [(tT.2.2.2.1 p t).1, (tT.2.2.2.1 p t).2, nLf, if_neg (show ¬ ((91 : Int32) = 2 ∨ (91 : Int32) = 3) by decide), Nat.zero_add, ht]
    rfl
  · intro p t _ ht
    rw [(tT.2.2.2.2 p t).2, nLf_e (e := hdT t) (by rw [(tT.2.2.2.2 p t).1]), ht]
    rfl
def lvA (σ : zS) (o : Int32) (M : Nat) (t : TE) : Prop := leL σ o M (lvs t) ∧ vaL σ M (hdT t :: tlT t)
def rlM (r : Int32) : Int32 := if r = 1 then 2 else if r = 2 then 3 else if r = 3 then 1 else r
/-- mention i of both -/
def meR (σ τ : zS) (i : Nat) : Prop := gb τ 11 i = gb σ 44 i ∧ ga τ 12 i = ga σ 45 i ∧ ga τ 10 i = rlM (ga σ 43 i) ∧ (ga τ 13 i = ga σ 46 i ∨ (ga σ 46 i = -1 ∧ ga τ 13 i < 0)) ∧ (ga σ 43 i = 5 → (ga τ 15 i = 1 ∧ ga τ 16 i = ga σ 47 i ∧ ∃ b, b < 1000 ∧ ga σ 47 i = nI b) ∨ (ga τ 15 i = 0 ∧ ga σ 47 i = 0))
theorem meR_fr {σ σ' τ τ' : zS} {X M s Lv N a i : Nat} (h1 : frC X M s σ σ') (h2 : frM Lv N a M τ τ') (hi : i < M) (h : meR σ τ i) : meR σ' τ' i := by
  obtain ⟨_, a2, _, a4, _⟩ := h1
  obtain ⟨_, b2, _, b4, _⟩ := h2
  unfold meR at h ⊢
  rw [a2 43 i (by omega), a4 44 i (by omega), a2 45 i (by omega), a2 46 i (by omega), a2 47 i (by omega), b2 10 i (by unfold okM; omega), b4 11 i (by omega) (by omega), b2 12 i (by unfold okM; omega), b2 13 i (by unfold okM; omega), b2 15 i (by unfold okM; omega), b2 16 i (by unfold okM; omega)]
  exact h
def ownR (σ τ : zS) : Prop := gi τ 32 = gi σ 606 ∨ (gi σ 606 = -1 ∧ gi τ 32 < 0)
def JR (B : Nat → Int32) (n c X N0 : Nat) (σ τ : zS) (k M s N a L : Nat) : Prop := cS B n c X σ k M s ∧ mS B n τ k M s N a L ∧ tkS B n k ≠ 0 ∧ (∀ i, i < M → meR σ τ i) ∧ mB B n k M ∧ s ≤ 200 ∧ N ≤ N0 + 2 * s ∧ a ≤ s ∧ ownR σ τ
/-- the class has the fault, or stands at the bad token and will have it -/
def doom (B : Nat → Int32) (n c X M s : Nat) (r : Int32) (σ' : zS) (f : Int32) (p : Nat) : Prop := (r = 0 ∧ gi σ' 200 = f ∧ gi σ' 201 = nI p) ∨ (r = 1 ∧ f = 1 ∧ ∃ k' M' s', cS B n c X σ' k' M' s' ∧ s < s' ∧ s' ≤ 200 ∧ M ≤ M' ∧ M' ≤ 600 ∧ tkS B n k' = 0 ∧ p = tkP B n k')
/-- both come to a fault -/
def badR (F : Nat) (B : Nat → Int32) (n c X N0 : Nat) (h : Int32) (τ : zS) (k M s N a L : Nat) (r : Int32) (σ' : zS) : Prop := ∃ f p τ', (f = 1 ∨ f = 2) ∧ doom B n c X M s r σ' f p ∧ flM N0 L N a M τ τ' f p ∧ ∀ m, Md_readOpen_10 F (m + (c + 2 - k)) τ h = some (0, τ')
def OneR (F : Nat) (B : Nat → Int32) (n c X N0 : Nat) (h : Int32) (σ τ : zS) (k M s N a L : Nat) (o : Option (Int32 × zS)) : Prop :=
  ∃ r σ', o = some (r, σ') ∧ frC X M s σ σ' ∧ (badR F B n c X N0 h τ k M s N a L r σ' ∨
    (r = 1 ∧ ∃ k' M' s' N' a' t As nn τ1, k < k' ∧ k' ≤ c ∧ M ≤ M' ∧ JR B n c X N0 σ' τ1 k' M' s' N' a' L ∧ frM (L + 1) N a M τ τ1 ∧ okT t ∧ isR t = false ∧ s' = s + lnT t ∧ a' = a + As.length ∧ As.length + 1 ≤ lnT t ∧ N ≤ N' ∧ N' + 1 ≤ N + 2 * lnT t ∧ rwL σ' X s (hdT t :: tlT t) ∧ nd τ1 (gi τ 32) (gi τ 67) N N' t nn As ∧ acL τ1 a As ∧ plT t = tkP B n k ∧ lvA σ' (gi σ 606) M t ∧ M' = M + (lvs t).length ∧ (tkS B n k = 2 → (M < M' ∧ (hdT t).1 = 2) ∧ ga τ1 15 M = 1 ∧ ga τ1 16 M = 0 ∧ ga σ' 47 M = 0) ∧ ∀ m τ', Md_addOne F τ1 (nI nn) (if tkS B n k = 2 then nI M else -1) (nI (tkP B n k)) = some τ' → Md_readOpen_10 F (m + (k' - k)) τ h = Md_readOpen_10 F m τ' h))
def TyR (F : Nat) (B : Nat → Int32) (n c X N0 : Nat) (h : Int32) (σ τ : zS) (k M s N a L : Nat) (o : Option (Int32 × zS)) : Prop :=
  ∃ r σ', o = some (r, σ') ∧ frC X M s σ σ' ∧ (badR F B n c X N0 h τ k M s N a L r σ' ∨
    (r = 1 ∧ ∃ k' M' s' N' a' t As nn τ2, k < k' ∧ k' ≤ c ∧ M ≤ M' ∧ JR B n c X N0 σ' τ2 k' M' s' N' a' L ∧ frM L N a M τ τ2 ∧ okT t ∧ s' = s + lnT t ∧ a' = a + As.length ∧ As.length + 1 ≤ lnT t ∧ N ≤ N' ∧ N' + 1 ≤ N + 2 * lnT t ∧ rwL σ' X s (hdT t :: tlT t) ∧ nd τ2 (gi τ 32) (gi τ 67) N N' t nn As ∧ acL τ2 a As ∧ plT t = tkP B n k ∧ lvA σ' (gi σ 606) M t ∧ M' = M + (lvs t).length ∧ ga τ2 23 L = nI nn ∧ ga τ2 25 L = nI (tkP B n k) ∧ ga τ2 17 L = ga τ 17 L ∧ ga τ2 18 L = ga τ 18 L ∧ ∀ m, Md_readOpen_10 F (m + (k' - k) + 1) τ h = Md_readOpen_185 F (Md_readOpen_10 F m) τ2 h))
/-- addOne() is sure to go on -/
def lvO (τ : zS) (L : Nat) : Prop := ga τ 19 L < 0 ∨ ∃ x b, x < 1000 ∧ ga τ 19 L = nI x ∧ ga τ 21 L = nI b
theorem m_addok {F : Nat} {B : Nat → Int32} {n : Nat} {τ : zS} {M s N a L : Nat} (h : mZ B n τ M s N a L) (hL : L < 12) (hN : N < 1000) (ha : a < 400) (hv : lvO τ L) (nn p : Int32) {mt : Int32} {M0 : Nat} (hmt : mt = -1 ∨ ∃ m, mt = nI m ∧ M0 ≤ m ∧ m < 1400) : ∃ τ', Md_addOne F τ nn mt p = some τ' ∧ frM L N a M0 τ τ' ∧ gi τ' 8 = gi τ 8 ∧ gi τ' 9 = gi τ 9 ∧ (∃ a', a' ≤ 400 ∧ gi τ' 23 = nI a') ∧ ∃ N2, N2 ≤ N + 1 ∧ gi τ' 16 = nI N2 := by
  rcases hv with q | ⟨x, b, hx, q1, q2⟩
  · obtain ⟨τ', e, z, r1, r2, r3, _⟩ := m_add1 (F := F) h hL ⟨rfl, rfl, rfl, rfl, rfl, rfl, rfl⟩ q nn mt p
    exact ⟨τ', e, r3 N a M0, r1 8, r1 9, ⟨a, by omega, z.2.2.2.2.2.1⟩, N, by omega, z.2.2.2.2.1⟩
  · obtain ⟨τ', e, z, r1, r2, r3, _⟩ := m_addn (F := F) h hL hN (by omega) hx ⟨q1, rfl, q2, rfl, rfl, rfl, rfl⟩ nn p hmt
    exact ⟨τ', e, r3, r1 8 (by decide) (by decide), r1 9 (by decide) (by decide), ⟨a + 1, by omega, z.2.2.2.2.2.1⟩, N + 1, by omega, z.2.2.2.2.1⟩
theorem lvO_fr {Lv N a M L : Nat} {τ τ' : zS} (h : frM Lv N a M τ τ') (hL : L < Lv) (g : lvO τ L) : lvO τ' L := by
  unfold lvO at g ⊢
  rw [h.2.1 19 L (by unfold okM; omega), h.2.1 21 L (by unfold okM; omega)]
  exact g
theorem ownR_fr {σ σ' τ τ' : zS} {X M s M2 Lv N a : Nat} (h1 : frC X M s σ σ') (h2 : frM Lv N a M2 τ τ') (h : ownR σ τ) : ownR σ' τ' := by
  unfold ownR at h ⊢
  rw [h1.1 606 (by decide) (by decide) (by decide) (by decide), h2.1 32 (by unfold exM; omega)]
  exact h
