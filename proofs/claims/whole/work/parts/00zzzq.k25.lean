/-! What good names say. Own text. -/
section N
variable {F : Nat} {σ τ : zS} {D M : Nat}
theorem lgb {b : Bool} {v : Int32} {s s' : zS} (h : gd b (some (v, s)) = some ((0 : Int32), s')) : v = 0 := by
  obtain ⟨_, h2⟩ := gd_s h
  cases h2
  rfl
theorem good_0 {i : Nat} (hi : i < 600) (h : Ch_isBadName F σ (nI i) = some (0, σ)) (hr : ga σ 43 i = 0) : gb σ 44 i ≠ 4812404 := by
  intro z
  rw [Ch_isBadName, gd_t (inb_nI (by omega) (by omega)), nI_clamp (by omega), hr, if_pos rfl, if_pos ((lgc _ _).mpr z), Ch_isBadName_79, Ch_isBadName_84] at h
  exact absurd (lgb h) (by decide)
theorem good_4 (hF : 1300 ≤ F) (hn : nmR σ τ D M true) {i : Nat} (hi : i < M) (h : Ch_isBadName F σ (nI i) = some (0, σ)) (hr : ga σ 43 i = 4) : fDe σ (gb σ 44 i) D 0 ≠ -1 ∧ wTo σ i i 0 = false := by
  have hM := hn.2.2.2.1
  rw [Ch_isBadName, gd_t (inb_nI (by omega) (by omega)), nI_clamp (by omega), hr, if_neg (by decide), if_neg (by decide), if_neg (by decide), if_neg (by decide), if_pos rfl, (findD (F := F) (by omega) hn.1 (gb σ 44 i)).1, bi_some] at h
  have h' : (if fDe σ (gb σ 44 i) D 0 < 0 then Ch_isBadName_107 F σ else bi (Me_wasTold F σ (nI i)) (fun r28 σ27 => if r28 = 0 then (Ch_isBadName_112 F σ27 (0 : Int32)) else (Ch_isBadName_107 F σ27))) = some (0, σ) := h
  have hw := (told_loop (F := F) hn hi i F 0 (by omega) (by omega)).1
  rw [nI_0] at hw
  constructor
  · intro z
    rw [z, if_pos (by decide), Ch_isBadName_107, Ch_isBadName_112] at h'
    exact absurd (lgb h') (by decide)
  · by_cases z : fDe σ (gb σ 44 i) D 0 < 0
    · rw [if_pos z, Ch_isBadName_107, Ch_isBadName_112] at h'
      exact absurd (lgb h') (by decide)
    · rw [if_neg z, Me_wasTold, hw, bi_some] at h'
      cases hc : wTo σ i i 0 with
      | false => rfl
      | true =>
        rw [hc] at h'
        have h2 : Ch_isBadName_107 F σ = some (0, σ) := h'
        rw [Ch_isBadName_107, Ch_isBadName_112] at h2
        exact absurd (lgb h2) (by decide)
theorem good_5 (hF : 1300 ≤ F) (hn : nmR σ τ D M true) {i : Nat} (hi : i < M) (h : Ch_isBadName F σ (nI i) = some (0, σ)) (hr : ga σ 43 i = 5) : gb σ 44 i = 4812404 ∨ fTy σ (gb σ 44 i) D 0 ≠ -1 := by
  have hM := hn.2.2.2.1
  by_cases c : gb σ 44 i = 4812404
  · exact Or.inl c
  · refine Or.inr (fun z => ?_)
    rw [Ch_isBadName, gd_t (inb_nI (by omega) (by omega)), nI_clamp (by omega), hr, if_neg (by decide), if_neg (by decide), if_neg (by decide), if_neg (by decide), if_neg (by decide), if_pos rfl, if_neg (fun y => c ((lgc _ _).mp y)), (findT (F := F) (by omega) hn.1 (gb σ 44 i)).1, bi_some, z] at h
    have h' : (if (0 : Int32) ≤ -1 then Ch_isBadName_136 F σ else Ch_isBadName_137 F σ (1 : Int32)) = some (0, σ) := h
    rw [if_neg (by decide), Ch_isBadName_137] at h'
    exact absurd (lgb h') (by decide)
theorem good_6 (hF : 1300 ≤ F) (hn : nmR σ τ D M true) {i o q : Nat} (hi : i < M) (h : Ch_isBadName F σ (nI i) = some (0, σ)) (hr : ga σ 43 i = 6) (ho : o < D) (h46 : ga σ 46 i = nI o) (hq : ga σ 32 o = nI q) (hq3 : q ≤ 3) (h29 : ga σ 29 o ≠ 2) : fPa σ o (gb σ 44 i) q 0 ≠ -1 := by
  have hM := hn.2.2.2.1
  have hD := hn.1.2.2.1
  intro z
  have hhas : Te_has F σ (nI o) = some (1, σ) := by
    rw [Te_has, if_neg (nI_pos (by omega)), hn.1.1, if_neg (nI_ge ho (by omega))]; rfl
  have key : Ch_isStrange F σ (nI o) (gb σ 44 i) = some (1, σ) := by
    rw [Ch_isStrange, hhas, bi_some]
    show (if (1 : Int32) = 0 then _ else _) = _
    rw [if_neg (by decide), gd_t (inb_nI (by omega) (by omega)), nI_clamp (by omega), if_neg h29, (findP (F := F) (by omega) hn.1 ho hq hq3 (gb σ 44 i)).1, bi_some, z]
    rfl
  rw [Ch_isBadName, gd_t (inb_nI (by omega) (by omega)), nI_clamp (by omega), hr, if_neg (by decide), if_neg (by decide), if_neg (by decide), if_neg (by decide), if_neg (by decide), if_neg (by decide), if_pos rfl, h46, key, bi_some] at h
  exact absurd (lgb h) (by decide)
/-- Int is not declared -/
theorem int_no (hn : nmR σ τ D M true) (hj : DJ τ) (hg : ∀ i, i < M → Ch_isBadName F σ (nI i) = some (0, σ)) : ∀ y, y < D → gb σ 30 y ≠ 4812404 := by
  intro y hy z
  obtain ⟨h1, h2, h3, h4, h5, h6⟩ := hn
  obtain ⟨D', M', d1, d2, d3, d4, d5⟩ := hj
  have hD := h1.2.2.1
  have e1 : D' = D := (nI_eq (by omega) (by omega)).mp (d1.symm.trans h1.2.1)
  have e2 : M' = M := (nI_eq (by omega) (by omega)).mp (d2.symm.trans h3)
  subst e1; subst e2
  obtain ⟨i, i1, i2, i3⟩ := d5 y hy
  obtain ⟨so, q, _, _, _, _, c5, _⟩ := h1.2.2.2 y hy
  obtain ⟨m1, m2, m3, _⟩ := h5 i i1
  have hr : ga σ 43 i = 0 := by
    rw [m3] at i2
    unfold rlM at i2
    split at i2
    · exact absurd i2 (by decide)
    · split at i2
      · exact absurd i2 (by decide)
      · split at i2
        · exact absurd i2 (by decide)
        · exact i2
  exact good_0 (F := F) (by omega) (hg i i1) hr (by rw [← m1, i3, c5, z])
theorem fTy_int (h : ∀ y, y < D → gb σ 30 y ≠ 4812404) : fTy σ 4812404 D 0 = -1 := by
  rcases fTy_rng σ 4812404 D 0 with z | ⟨y, y1, y2, y3, y4, y5⟩
  · exact z
  · exact absurd y4 (h y (by omega))
end N
/-- no more than there are -/
theorem pig : ∀ (n : Nat) (L : List Nat), L.Nodup → (∀ x, x ∈ L → x < n) → L.length ≤ n := by
  intro n
  induction n with
  | zero =>
    intro L _ h
    cases L with
    | nil => exact Nat.le_refl _
    | cons a l => exact absurd (h a List.mem_cons_self) (by omega)
  | succ n ih =>
    intro L hn h
    have h1 : (L.erase n).length ≤ n := by
      refine ih _ (hn.erase n) (fun x hx => ?_)
      have := h x (List.mem_of_mem_erase hx)
      have hne : x ≠ n := fun e => by
        subst e
        exact (List.Nodup.not_mem_erase hn) hx
      omega
    have h2 : L.length ≤ (L.erase n).length + 1 := by
      rw [List.length_erase]
      split <;> omega
    omega
section T
variable {σ : zS} {D M : Nat} {gp : Nat → Bool} {KA TT : Nat → TE}
/-- whose kinds are told -/
def tdN (σ : zS) (D : Nat) (gp : Nat → Bool) : Nat → List Nat
  | 0 => []
  | m + 1 => tdN σ D gp m ++ (if inG σ D gp m = true then [(fDe σ (gb σ 44 m) D 0).toNatClampNeg] else [])
theorem td_N : ∀ m, (tdE σ D gp KA TT m).length = (tdN σ D gp m).length
  | 0 => rfl
  | m + 1 => by
    rw [tdE, tdN, List.length_append, List.length_append, td_N m]
    split <;> rfl
theorem tdN_mem : ∀ m y, y ∈ tdN σ D gp m → ∃ i, i < m ∧ ga σ 43 i = 4 ∧ fDe σ (gb σ 44 i) D 0 ≠ -1 ∧ y = (fDe σ (gb σ 44 i) D 0).toNatClampNeg
  | 0, _, h => by cases h
  | m + 1, y, h => by
    rw [tdN] at h
    rcases List.mem_append.mp h with z | z
    · obtain ⟨i, i1, i2⟩ := tdN_mem m y z
      exact ⟨i, by omega, i2⟩
    · by_cases c : inG σ D gp m = true
      · rw [if_pos c] at z
        have c2 := c
        unfold inG at c2
        simp at c2
        exact ⟨m, by omega, c2.1.1, c2.1.2, List.mem_singleton.mp z⟩
      · rw [if_neg c] at z; cases z
theorem wTo_no {m : Nat} : ∀ (d i : Nat), wTo σ m d i = false → ∀ j, i ≤ j → j < i + d → ga σ 43 j = ga σ 43 m → ga σ 43 j ≠ 3 → gb σ 44 j ≠ gb σ 44 m := by
  intro d
  induction d with
  | zero => intro i _ j j1 j2; omega
  | succ d ih =>
    intro i h j j1 j2 h1 h3 h2
    rw [wTo] at h
    by_cases e : j = i
    · subst e
      simp [h1, h2] at h
      rw [h1] at h3
      exact h3 h.1.1
    · exact ih (i + 1) (by cases hh : wTo σ m d (i + 1) <;> simp_all) j (by omega) (by omega) h1 h3 h2
theorem td_16 {F : Nat} {τ : zS} (hF : 1300 ≤ F) (hn : nmR σ τ D M true) (hg : ∀ i, i < M → Ch_isBadName F σ (nI i) = some (0, σ)) : ∀ m, m ≤ M → (tdN σ D gp m).Nodup ∧ (tdN σ D gp m).length ≤ 16 := by
  have hD := hn.1.2.2.1
  have nod : ∀ m, m ≤ M → (tdN σ D gp m).Nodup := by
    intro m
    induction m with
    | zero => intro _; exact List.nodup_nil
    | succ m ih =>
      intro hm
      rw [tdN]
      by_cases c : inG σ D gp m = true
      · rw [if_pos c]
        refine List.nodup_append.mpr ⟨ih (by omega), by simp, fun a ha b hb e => ?_⟩
        rw [List.mem_singleton.mp hb] at e
        obtain ⟨i, i1, i2, i3, i4⟩ := tdN_mem m a ha
        have c2 := c
        unfold inG at c2
        simp at c2
        have hw := (good_4 (F := F) hF hn (i := m) (by omega) (hg m (by omega)) c2.1.1).2
        rcases fDe_rng σ (gb σ 44 i) D 0 with z | ⟨y, y1, y2, y3, y4⟩
        · exact i3 z
        · rcases fDe_rng σ (gb σ 44 m) D 0 with z | ⟨y', q1, q2, q3, q4⟩
          · exact c2.1.2 z
          · rw [i4, y3, q3, nI_clamp (by omega), nI_clamp (by omega)] at e
            exact wTo_no m 0 hw i (by omega) (by omega) (by rw [i2, c2.1.1]) (by rw [i2]; decide) (by rw [← y4, ← q4, e])
      · rw [if_neg c, List.append_nil]
        exact ih (by omega)
  intro m hm
  refine ⟨nod m hm, Nat.le_trans (pig D _ (nod m hm) (fun x hx => ?_)) hD⟩
  obtain ⟨i, i1, i2, i3, i4⟩ := tdN_mem m x hx
  rcases fDe_rng σ (gb σ 44 i) D 0 with z | ⟨y, y1, y2, y3, y4⟩
  · exact absurd z i3
  · rw [i4, y3, nI_clamp (by omega)]; omega
end T
