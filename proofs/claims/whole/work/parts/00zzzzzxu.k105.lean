/-! same(): both answer alike. Own text. -/
section C
variable {F : Nat} {σ : zS}
theorem cRw_map {X : Nat} : ∀ (l l' : List BE) (i : Nat), l.map cEn = l'.map cEn → cRw σ X i l → cRw σ X i l'
  | [], [], i, _, h => h
  | [], b :: l', i, e, _ => by simp at e
  | b :: l, [], i, e, _ => by simp at e
  | b :: l, b' :: l', i, e, h => by
    rw [List.map_cons, List.map_cons] at e
    obtain ⟨e1, e2⟩ := List.cons.inj e
    refine ⟨?_, cRw_map l l' (i + 1) e2 h.2⟩
    rw [← e1]; exact h.1
theorem cEn_le {b : BE} (h : b.1 ≤ 400) : (cEn b).2.2 < 1000 := by
  show b.1 + fx b.2 < 1000
  unfold fx
  split
  · omega
  · split <;> omega
theorem like_loop {X Y : Nat} (hX : isRow X = true) (hY : isRow Y = true) : ∀ (l l' : List BE) (i f : Nat), l.length = l'.length → i + l.length ≤ 200 → mi σ (100 * X + 4) = nI (i + l.length) → cRw σ X i l → cRw σ Y i l' → (∀ b, b ∈ l → b.1 ≤ 400) → (∀ b, b ∈ l' → b.1 ≤ 400) → l.length < f → ∃ r, Ro_isLike_15 F f σ X Y (nI i) = some (r, σ) ∧ ((r = 1 ∧ l.map cEn = l'.map cEn) ∨ (r = 0 ∧ l.map cEn ≠ l'.map cEn))
  | [], [], i, f, _, _, h4, _, _, _, _, hf => by
    obtain ⟨f, rfl⟩ : ∃ f0, f = f0 + 1 := ⟨f - 1, by omega⟩
    refine ⟨1, ?_, Or.inl ⟨rfl, rfl⟩⟩
    rw [Ro_isLike_15, Ro_isLike_b15, gd_t hX, h4, List.length_nil, Nat.add_zero, if_pos (Int32.le_refl _)]
  | [], b' :: l', i, f, h, _, _, _, _, _, _, _ => by simp at h
  | b :: l, [], i, f, h, _, _, _, _, _, _, _ => by simp at h
  | b :: l, b' :: l', i, f, h, hi, h4, c1, c2, k1, k2, hf => by
    obtain ⟨f, rfl⟩ : ∃ f0, f = f0 + 1 := ⟨f - 1, by omega⟩
    simp only [List.length_cons] at h hi h4 hf
    obtain ⟨⟨x1, x2, x3⟩, x4⟩ := c1
    obtain ⟨⟨y1, y2, y3⟩, y4⟩ := c2
    have e0 : Ro_isLike_15 F (f + 1) σ X Y (nI i) = if (cEn b).1 = (cEn b').1 then (if lg_cmp (cEn b).2.1 (cEn b').2.1 = 0 then (if nI (cEn b).2.2 = nI (cEn b').2.2 then Ro_isLike_15 F f σ X Y (nI (i + 1)) else some (0, σ)) else some (0, σ)) else some (0, σ) := by
      rw [Ro_isLike_15, Ro_isLike_b15, gd_t hX, h4, if_neg (nI_ge (by omega) (by omega)), gd_t (inb_nI (by omega) (by omega)), gd_t hY, nI_clamp (by omega), x1, x2, x3, y1, y2, y3, nI_1]
      rfl
    have r1 := cEn_le (k1 b List.mem_cons_self)
    have r2 := cEn_le (k2 b' List.mem_cons_self)
    rw [e0, List.map_cons, List.map_cons]
    by_cases z1 : (cEn b).1 = (cEn b').1
    · rw [if_pos z1]
      by_cases z2 : (cEn b).2.1 = (cEn b').2.1
      · rw [if_pos ((lgc _ _).mpr z2)]
        by_cases z3 : (cEn b).2.2 = (cEn b').2.2
        · rw [if_pos (by rw [z3])]
          obtain ⟨r, a1, a2⟩ := like_loop hX hY l l' (i + 1) f (by omega) (by omega) (by rw [h4]; congr 1; omega) x4 y4 (fun b hb => k1 b (List.mem_cons_of_mem _ hb)) (fun b hb => k2 b (List.mem_cons_of_mem _ hb)) (by omega)
          have eb : cEn b = cEn b' := Prod.ext z1 (Prod.ext z2 z3)
          refine ⟨r, a1, ?_⟩
          rcases a2 with ⟨w1, w2⟩ | ⟨w1, w2⟩
          · exact Or.inl ⟨w1, by rw [eb, w2]⟩
          · exact Or.inr ⟨w1, fun z => w2 (List.cons.inj z).2⟩
        · rw [if_neg (fun z => z3 ((nI_eq (by omega) (by omega)).mp z))]
          exact ⟨0, rfl, Or.inr ⟨rfl, fun z => z3 (by rw [(List.cons.inj z).1])⟩⟩
      · rw [if_neg (fun z => z2 ((lgc _ _).mp z))]
        exact ⟨0, rfl, Or.inr ⟨rfl, fun z => z2 (by rw [(List.cons.inj z).1])⟩⟩
    · rw [if_neg z1]
      exact ⟨0, rfl, Or.inr ⟨rfl, fun z => z1 (by rw [(List.cons.inj z).1])⟩⟩
theorem likeC (hF : 20000 ≤ F) {X Y : Nat} (hX : isRow X = true) (hY : isRow Y = true) {L L' : List BE} (l1 : L.length ≤ 200) (l2 : L'.length ≤ 200) (h1 : mi σ (100 * X + 4) = nI L.length) (h2 : mi σ (100 * Y + 4) = nI L'.length) (c1 : cRw σ X 0 L) (c2 : cRw σ Y 0 L') (k1 : ∀ b, b ∈ L → b.1 ≤ 400) (k2 : ∀ b, b ∈ L' → b.1 ≤ 400) : ∃ r, Ro_isLike F σ X Y = some (r, σ) ∧ ((r = 1 ∧ L.map cEn = L'.map cEn) ∨ (r = 0 ∧ L.map cEn ≠ L'.map cEn)) := by
  by_cases z : L.length = L'.length
  · obtain ⟨r, a1, a2⟩ := like_loop (F := F) hX hY L L' 0 F z (by omega) (by rw [Nat.zero_add]; exact h1) c1 c2 k1 k2 (by omega)
    refine ⟨r, ?_, a2⟩
    rw [Ro_isLike, gd_t hX, gd_t hY, h1, h2, z, if_pos rfl]
    exact a1
  · refine ⟨0, ?_, Or.inr ⟨rfl, fun w => z ?_⟩⟩
    · rw [Ro_isLike, gd_t hX, gd_t hY, h1, h2, if_neg (fun w => z ((nI_eq (by omega) (by omega)).mp w))]
    · have := congrArg List.length w
      simpa using this
end C
section M
variable {F : Nat}
/-- the second half of same() -/
def smK (F : Nat) (σ : zS) (x2 : Int32) : Option (Int32 × zS) :=
  bi (Md_isPlain F σ (gi σ 91)) (fun r3 σ2 => if r3 = 0 then (some ((-4 : Int32), σ2))
  else (bv (Md_layRowOut F σ2) (fun σ6 => if x2 = (gi σ6 82) then (Md_same_102 F σ6 x2 (1 : Int32))
  else (Md_same_102 F σ6 x2 (0 : Int32)))))
theorem cp_loop {n : Nat} (hn : n ≤ 5900) : ∀ (d f i : Nat) (τ : zS), i + d = n → d < f → ∃ g, Md_same_48 F f τ (nI n) (nI i) = smK F (sA τ 62 g) (nI n) ∧ (∀ j, i ≤ j → j < n → g j = ga τ 55 j) ∧ (∀ j, j < i → g j = ga τ 62 j) := by
  intro d
  induction d with
  | zero =>
    intro f i τ hi hf
    obtain ⟨f, rfl⟩ : ∃ f0, f = f0 + 1 := ⟨f - 1, by omega⟩
    refine ⟨ga τ 62, ?_, fun j j1 j2 => by omega, fun j _ => rfl⟩
    rw [Md_same_48, Md_same_b48, if_pos (nI_le (by omega) (by omega)), sA_self]
    rfl
  | succ d ih =>
    intro f i τ hi hf
    obtain ⟨f, rfl⟩ : ∃ f0, f = f0 + 1 := ⟨f - 1, by omega⟩
    obtain ⟨g, g1, g2, g3⟩ := ih f (i + 1) (sa τ 62 i (ga τ 55 i)) (by omega) (by omega)
    refine ⟨g, ?_, fun j j1 j2 => ?_, fun j hj => ?_⟩
    · rw [Md_same_48, Md_same_b48, if_neg (nI_ge (by omega) (by omega)), gd_t (inb_nI (by omega) (by omega)), nI_clamp (by omega), nI_1, g1]
      unfold sa
      rw [sA_sA]
    · rcases Nat.eq_or_lt_of_le j1 with w | w
      · subst w
        rw [g3 i (by omega)]
        simp [at_sa]
      · rw [g2 j (by omega) j2]; rfl
    · rw [g3 j (by omega)]
      have : j ≠ i := by omega
      simp [at_sa, this]
theorem cm_0 {n i f : Nat} {τ : zS} : Md_same_106 F (f + 1) τ (nI n) 0 (nI i) = some (0, τ) := by
  rw [Md_same_106, Md_same_b106, if_pos (rfl : (0 : Int32) = 0), Md_same_145, if_pos rfl, Md_same_154]
  split <;> rfl
theorem cm_loop {n : Nat} (hn : n ≤ 5900) {τ : zS} : ∀ (d f i : Nat), i + d = n → d < f → ∃ r, Md_same_106 F f τ (nI n) 1 (nI i) = some (r, τ) ∧ ((r = 1 ∧ ∀ j, i ≤ j → j < n → ga τ 62 j = ga τ 55 j) ∨ (r = 0 ∧ ∃ j, j < n ∧ ga τ 62 j ≠ ga τ 55 j)) := by
  intro d
  induction d with
  | zero =>
    intro f i hi hf
    obtain ⟨f, rfl⟩ : ∃ f0, f = f0 + 1 := ⟨f - 1, by omega⟩
    refine ⟨1, ?_, Or.inl ⟨rfl, fun j j1 j2 => by omega⟩⟩
    rw [Md_same_106, Md_same_b106, if_pos (nI_le (by omega) (by omega)), Md_same_145, if_neg (by decide), Md_same_154]
  | succ d ih =>
    intro f i hi hf
    obtain ⟨f, rfl⟩ : ∃ f0, f = f0 + 1 + 1 := ⟨f - 2, by omega⟩
    have e : Md_same_106 F (f + 1 + 1) τ (nI n) 1 (nI i) = if ga τ 62 i = ga τ 55 i then Md_same_106 F (f + 1) τ (nI n) 1 (nI (i + 1)) else Md_same_106 F (f + 1) τ (nI n) 0 (nI (i + 1)) := by
      rw [Md_same_106, Md_same_b106, if_neg (nI_ge (by omega) (by omega)), if_neg (by decide), gd_t (inb_nI (by omega) (by omega)), nI_clamp (by omega), Md_same_138, Md_same_138, nI_1]
    rw [e]
    by_cases z : ga τ 62 i = ga τ 55 i
    · rw [if_pos z]
      obtain ⟨r, a1, a2⟩ := ih (f + 1) (i + 1) (by omega) (by omega)
      refine ⟨r, a1, ?_⟩
      rcases a2 with ⟨w1, w2⟩ | w
      · refine Or.inl ⟨w1, fun j j1 j2 => ?_⟩
        rcases Nat.eq_or_lt_of_le j1 with q | q
        · rw [← q]; exact z
        · exact w2 j (by omega) j2
      · exact Or.inr w
    · rw [if_neg z, cm_0]
      exact ⟨0, rfl, Or.inr ⟨rfl, i, by omega, z⟩⟩
/-- two texts compared -/
theorem cmpM (hF : 20000 ≤ F) {τ : zS} {W W' : List Int32} (hW : W.length ≤ 5900) (hW' : W'.length ≤ 5900) (h62 : ∀ (i : Nat) (v : Int32), W[i]? = some v → ga τ 62 i = v) (h : lnM τ W') : ∃ r, (if nI W.length = gi τ 82 then Md_same_102 F τ (nI W.length) 1 else Md_same_102 F τ (nI W.length) 0) = some (r, τ) ∧ ((r = 1 ∧ W = W') ∨ (r = 0 ∧ W ≠ W')) := by
  obtain ⟨F', hF'⟩ : ∃ F', F = F' + 1 := ⟨F - 1, by omega⟩
  by_cases z : W.length = W'.length
  · rw [if_pos (by rw [h.1, z])]
    obtain ⟨r, a1, a2⟩ := cm_loop (F := F) hW (τ := τ) W.length F 0 (by omega) (by omega)
    refine ⟨r, by rw [Md_same_102, ← nI_0]; exact a1, ?_⟩
    rcases a2 with ⟨w1, w2⟩ | ⟨w1, j, w2, w3⟩
    · refine Or.inl ⟨w1, List.ext_getElem? (fun i => ?_)⟩
      by_cases c : i < W.length
      · have q1 := List.getElem?_eq_getElem c
        have q2 := List.getElem?_eq_getElem (show i < W'.length by omega)
        have := w2 i (Nat.zero_le _) c
        rw [h62 i _ q1, h.2 i _ q2] at this
        rw [q1, q2, this]
      · rw [List.getElem?_eq_none (by omega), List.getElem?_eq_none (by omega)]
    · refine Or.inr ⟨w1, fun e => w3 ?_⟩
      have q1 := List.getElem?_eq_getElem w2
      rw [h62 j _ q1, h.2 j _ (by rw [← e]; exact q1)]
  · rw [if_neg (by rw [h.1]; exact fun w => z ((nI_eq (by omega) (by omega)).mp w))]
    refine ⟨0, ?_, Or.inr ⟨rfl, fun e => z (by rw [e])⟩⟩
    rw [Md_same_102, ← nI_0, show Md_same_106 F F τ (nI W.length) (nI 0) (nI 0) = Md_same_106 F (F' + 1) τ (nI W.length) 0 (nI 0) by rw [← hF', nI_0], cm_0]
    rfl
end M
theorem lnC_eq {σ : zS} {x : Nat} {W W' : List Int32} (l1 : W.length ≤ 5900) (l2 : W'.length ≤ 5900) (h : lnC σ x W) (h' : lnC σ x W') : W = W' := by
  have e : W.length = W'.length := (nI_eq (by omega) (by omega)).mp (h.1.symm.trans h'.1)
  refine List.ext_getElem? (fun i => ?_)
  by_cases c : i < W.length
  · have q1 := List.getElem?_eq_getElem c
    have q2 := List.getElem?_eq_getElem (show i < W'.length by omega)
    rw [q1, q2, ← h.2 i _ q1, ← h'.2 i _ q2]
  · rw [List.getElem?_eq_none (by omega), List.getElem?_eq_none (by omega)]
