/-! A kind is shown. Own text. -/
/-- what the class's showing leaves alone -/
def frSh (σ σ' : zS) : Prop := (∀ r, r ≠ 309 → gi σ' r = gi σ r) ∧ (∀ a, a ≠ 28 → ga σ' a = ga σ a) ∧ (∀ a, gb σ' a = gb σ a) ∧ (∀ a, gl σ' a = gl σ a) ∧ (∀ a, a ≠ 10 → a ≠ 11 → gr σ' a = gr σ a) ∧ (∀ j, j ≠ 1701 → j ≠ 1801 → mi σ' j = mi σ j) ∧ (∀ a, a ≠ lA 17 → a ≠ lA 18 → ma σ' a = ma σ a) ∧ (∀ a, mb σ' a = mb σ a)
section R
variable {F : Nat} {σ τ : zS} {G H : SG}
theorem com_loop {W : List Int32} (hW : W.length ≤ 2000) : ∀ (d f i : Nat) (τ : zS), lnM τ W → i + d = W.length → d < f → ∃ g, Md_commit_2 F f τ (nI i) = some (nI W.length, si (sA τ 56 g) 84 (nI W.length)) ∧ (∀ j, i ≤ j → j < W.length → g j = ga τ 55 j) ∧ (∀ j, j < i → g j = ga τ 56 j) := by
  intro d
  induction d with
  | zero =>
    intro f i τ h hi hf
    obtain ⟨f, rfl⟩ : ∃ f0, f = f0 + 1 := ⟨f - 1, by omega⟩
    refine ⟨ga τ 56, ?_, fun j j1 j2 => by omega, fun j _ => rfl⟩
    rw [Md_commit_2, Md_commit_b2, h.1, if_pos (nI_le (by omega) (by omega)), sA_self]
  | succ d ih =>
    intro f i τ h hi hf
    obtain ⟨f, rfl⟩ : ∃ f0, f = f0 + 1 := ⟨f - 1, by omega⟩
    have h' : lnM (sa τ 56 i (ga τ 55 i)) W := lnM_sx (I := []) (A := [56]) h (sx_sa (sx_rfl _ _ _) (by decide) _ _) (by decide) (by decide)
    obtain ⟨g, g1, g2, g3⟩ := ih f (i + 1) (sa τ 56 i (ga τ 55 i)) h' (by omega) (by omega)
    refine ⟨g, ?_, fun j j1 j2 => ?_, fun j hj => ?_⟩
    · rw [Md_commit_2, Md_commit_b2, h.1, if_neg (nI_ge (by omega) (by omega)), gd_t (inb_nI (by omega) (by omega)), nI_clamp (by omega), nI_1, g1]
      unfold sa
      rw [sA_sA]
    · rcases Nat.eq_or_lt_of_le j1 with w | w
      · subst w
        rw [g3 i (by omega)]
        simp [at_sa]
      · rw [g2 j (by omega) j2]; rfl
    · rw [g3 j (by omega)]
      have : j ≠ i := by omega
      simp [at_sa, this]
theorem commitM (hF : 20000 ≤ F) {W : List Int32} (hW : W.length ≤ 2000) (h : lnM τ W) : ∃ τ', Md_commit F τ = some (nI W.length, τ') ∧ sx [84] [56] τ τ' ∧ gi τ' 84 = nI W.length ∧ ∀ (i : Nat) (v : Int32), W[i]? = some v → ga τ' 56 i = v := by
  obtain ⟨g, g1, g2, g3⟩ := com_loop (F := F) hW W.length F 0 τ h (by omega) (by omega)
  refine ⟨_, by rw [Md_commit, ← nI_0]; exact g1, sx_si (sx_sA (sx_rfl _ _ _) (by decide) _) (by decide) _, by simp [zs], fun i v hv => ?_⟩
  have hi : i < W.length := by
    rcases Nat.lt_or_ge i W.length with z | z
    · exact z
    · rw [List.getElem?_eq_none z] at hv; cases hv
  have : ga (si (sA τ 56 g) 84 (nI W.length)) 56 = g := by simp [zs]
  rw [this, g2 i (by omega) hi, h.2 i v hv]
theorem showMd (hF : 20000 ≤ F) {lt : Nat → Int32} (hlt : hlM τ H lt) (hM : MS τ H) {d k : Nat} (hk : k < gn H) (hd : dpt d (gT H k)) : ∃ r τ', Md_showKind F τ (nI k) = some (r, τ') ∧ MS τ' H ∧ sx [82, 84] [53, 55, 56] τ τ' ∧ (((prT lt d (gT H k)).length ≤ 2000 ∧ r = nI (prT lt d (gT H k)).length ∧ gi τ' 84 = r ∧ ∀ (i : Nat) (v : Int32), (prT lt d (gT H k))[i]? = some v → ga τ' 56 i = v) ∨ (2000 < (prT lt d (gT H k)).length ∧ r = -4 ∧ gi τ' 84 = gi τ 84 ∧ ga τ' 56 = ga τ 56)) := by
  obtain ⟨τ1, a1, a2, a3, a4⟩ := outM (F := F) hF hlt hM hk hd
  rcases a4 with ⟨b1, b2⟩ | ⟨z, b1, b2, b3, b4⟩
  · obtain ⟨τ2, c1, c2, c3, c4⟩ := commitM (F := F) hF b2 b1
    refine ⟨_, τ2, ?_, MS_sx c2 (by decide) (by decide) (by decide) (by decide) (by decide) a2, sx_tr (sx_mono (by decide) (by decide) a3) (sx_mono (by decide) (by decide) c2), Or.inl ⟨b2, rfl, c3, c4⟩⟩
    rw [Md_showKind, a1, bv_some, b1.1, if_pos (show nI (prT lt d (gT H k)).length ≤ (2000 : Int32) from nI_le (a := (prT lt d (gT H k)).length) (b := 2000) b2 (by omega)), c1, bi_some]
    rfl
  · refine ⟨-4, τ1, ?_, a2, sx_mono (by decide) (by decide) a3, Or.inr ⟨b4, rfl, a3.1 84 (by decide), a3.2.1 56 (by decide)⟩⟩
    rw [Md_showKind, a1, bv_some, b1, if_neg (show ¬ nI z ≤ (2000 : Int32) from nI_ge (a := 2000) (b := z) b2 (by omega))]
    rfl
theorem showK (hF : 20000 ≤ F) (hSL : SL σ τ) (hC : CS σ G) (hM : MS τ H) (h85 : gi τ 85 = 0) {d k k' : Nat} (hk : k < gn G) (hk' : k' < gn H) (hd : dpt d (gT G k)) (hd' : dpt d (gT H k')) (hP : prT (fun _ => 42) d (gT G k) = prT (fun _ => 42) d (gT H k')) : ∃ r σ' τ', Q_showKind F σ (nI k) = some (r, σ') ∧ Md_showKind F τ (nI k') = some (r, τ') ∧ SL σ' τ' ∧ CS σ' G ∧ MS τ' H ∧ frSh σ σ' ∧ sx [82, 84] [53, 55, 56] τ τ' := by
  obtain ⟨h1, L, hL, h2, h3, h4⟩ := hSL
  obtain ⟨x, hx⟩ : ∃ x, x = gr σ 11 := ⟨_, rfl⟩
  obtain ⟨y, hy⟩ : ∃ y, y = gr σ 10 := ⟨_, rfl⟩
  have hxy : (y = 17 ∧ x = 18) ∨ (y = 18 ∧ x = 17) := by rw [hx, hy]; exact h1
  have lx : isLine x = true := by rcases hxy with ⟨_, z⟩ | ⟨_, z⟩ <;> rw [z] <;> decide
  have ly : isLine y = true := by rcases hxy with ⟨z, _⟩ | ⟨z, _⟩ <;> rw [z] <;> decide
  have nxy : x ≠ y := by rcases hxy with ⟨z, w⟩ | ⟨z, w⟩ <;> rw [z, w] <;> decide
  have nA : lA y ≠ lA x := by rcases hxy with ⟨z, w⟩ | ⟨z, w⟩ <;> rw [z, w] <;> decide
  obtain ⟨c1, c2⟩ := lnC_clear (F := F) (σ := σ) lx
  have hC1 : CS (ti σ (100 * x + 1) 0) G := hC
  obtain ⟨σ1, a1, a2, a3, a4⟩ := showC (F := F) (G := G) (x3 := 0) (lt := fun _ => 42) hF lx (fun r _ _ => Or.inl ⟨rfl, rfl⟩) hC1 hk hd c2
  obtain ⟨r, τ1, b1, b2, b3, b4⟩ := showMd (F := F) (lt := fun _ => 42) hF (fun r _ _ => Or.inl ⟨h85, rfl⟩) hM hk' hd'
  obtain ⟨s1, s2, s3, s4, s5, s6, s7, s8⟩ := a3
  have g11 : gr σ1 11 = x := by rw [s5]; exact hx.symm
  have g10 : gr σ1 10 = y := by rw [s5]; exact hy.symm
  have fr : frSh σ σ1 := by
    refine ⟨fun r hr => s1 r hr, fun a ha => s2 a ha, s3, s4, fun a _ _ => s5 a, fun j j1 j2 => ?_, fun a a1 a2 => ?_, s8⟩
    · have hj : j ≠ 100 * x + 1 := by rcases hxy with ⟨_, z⟩ | ⟨_, z⟩ <;> rw [z] <;> assumption
      rw [s6 j hj]; simp [zs, hj]
    · have ha : a ≠ lA x := by rcases hxy with ⟨_, z⟩ | ⟨_, z⟩ <;> rw [z] <;> assumption
      rw [s7 a ha]; rfl
  have e0 : Q_showKind F σ (nI k) = if (mi σ1 (100 * x + 1)) ≤ (2000 : Int32) then some (mi σ1 (100 * x + 1), sr (sr σ1 10 x) 11 y) else some (-4, σ1) := by
    rw [Q_showKind, ← hx, gd_t lx, c1, bv_some, show gr (ti σ (100 * x + 1) 0) 11 = x from hx.symm, a1, bv_some, g11, gd_t lx, Q_swapLines, g11, g10, bv_some]
    have : gr (sr (sr σ1 10 x) 11 y) 10 = x := by simp [zs]
    rw [this, gd_t lx]
    rfl
  have m11 : gr (sr (sr σ1 10 x) 11 y) 11 = y := by simp [zs]
  have m10 : gr (sr (sr σ1 10 x) 11 y) 10 = x := by simp [zs]
  have oy : mi σ1 (100 * y + 1) = mi σ (100 * y + 1) := by
    have hj : 100 * y + 1 ≠ 100 * x + 1 := by omega
    rw [s6 _ hj]; simp only [zs, if_neg hj]
  have oA : ma σ1 (lA y) = ma σ (lA y) := by rw [s7 _ nA]; rfl
  rcases a4 with ⟨p1, p2⟩ | ⟨z, p1, p2, p3, p4⟩
  · rcases b4 with ⟨q1, q2, q3, q4⟩ | ⟨q1, _⟩
    · refine ⟨r, sr (sr σ1 10 x) 11 y, τ1, ?_, b1, ⟨?_, (prT (fun _ => 42) d (gT G k)).length, by omega, ?_, by rw [q3, q2, hP], fun i hi => ?_⟩, a2, b2, ?_, b3⟩
      · rw [e0, p1.1, if_pos (show nI (prT (fun _ => 42) d (gT G k)).length ≤ (2000 : Int32) from nI_le (b := 2000) p2 (by omega)), q2, hP]
      · rw [m10, m11]
        rcases hxy with ⟨z, w⟩ | ⟨z, w⟩
        · exact Or.inr ⟨w, z⟩
        · exact Or.inl ⟨w, z⟩
      · rw [m10]; exact p1.1
      · rw [m10]
        obtain ⟨v, hv⟩ : ∃ v, (prT (fun _ => 42) d (gT G k))[i]? = some v := ⟨_, List.getElem?_eq_getElem hi⟩
        have := p1.2 i _ hv
        rw [hP] at hv
        exact this.trans (q4 i _ hv).symm
      · obtain ⟨f1, f2, f3, f4, f5, f6, f7, f8⟩ := fr
        exact ⟨f1, f2, f3, f4, fun a a1 a2 => by rw [← f5 a a1 a2]; simp [zs, a1, a2], f6, f7, f8⟩
    · rw [hP] at p2; omega
  · rcases b4 with ⟨q1, _⟩ | ⟨q1, q2, q3, q4⟩
    · rw [hP] at p4; omega
    · refine ⟨r, σ1, τ1, ?_, b1, ⟨?_, L, hL, ?_, by rw [q3]; exact h3, fun i hi => ?_⟩, a2, b2, fr, b3⟩
      · rw [e0, p1, if_neg (show ¬ nI z ≤ (2000 : Int32) from nI_ge (a := 2000) p2 (by omega)), q2]
      · rw [g10, g11]; exact hxy
      · rw [g10, oy, hy]; exact h2
      · rw [g10, oA, q4, hy]; exact h4 i hi
end R
