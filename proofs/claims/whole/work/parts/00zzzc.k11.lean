/-! New kinds, in both. Own text. -/
section K
variable {F : Nat} {σ τ : zS} {G H : SG}
theorem nI_a1s (k : Nat) : nI k + (1 : Int32) - (1 : Int32) = nI k := by rw [nI_1, nI_s1]
theorem ad_CS {σ' : zS} {s l r : Nat} (h : CS σ G) (hG : gn G < 1713) (hs : sx [306] [23, 24, 25] σ σ') (h306 : gi σ' 306 = nI (gn G + 1)) (e : ∀ a, a = 23 ∨ a = 24 ∨ a = 25 → ∀ k, k ≠ gn G → ga σ' a k = ga σ a k) (e25 : ga σ' 25 (gn G) = -1) (e23 : (s = 0 ∧ ga σ' 23 (gn G) = -1) ∨ (s = 2 ∧ ga σ' 23 (gn G) = nI l ∧ ga σ' 24 (gn G) = nI r ∧ l < gn G ∧ r < gn G)) : CS σ' (adG G s l r) := by
  obtain ⟨a1, a2, a3, a4, a5, a6, a7⟩ := h
  obtain ⟨n1, n2, n3, n4⟩ := ad_new (G := G) (s := s) (l := l) (r := r)
  refine ⟨by rw [ad_n]; exact h306, by rw [ad_n]; omega, by rw [ad_n]; omega, by rw [ad_up 0 (by omega)]; exact a4, by rw [ad_so 0 (by omega)]; exact a5, ad_wf a6 (by omega) (fun z => by rcases e23 with y | y <;> omega), fun k hk => ?_⟩
  rw [ad_n] at hk
  by_cases ek : k = gn G
  · subst ek
    rw [n1, n2, n3, n4, e25]
    exact ⟨fun _ => rfl, fun z => absurd rfl z, fun _ => e23.elim (fun y => Or.inl y) (fun y => Or.inr ⟨y.1, y.2.1, y.2.2.1⟩)⟩
  · have hk' : k < gn G := by omega
    rw [ad_up k hk', ad_so k hk', ad_le k hk', ad_ri k hk', e 23 (by simp) k ek, e 24 (by simp) k ek, e 25 (by simp) k ek]
    exact a7 k hk'
theorem openC (h : CS σ G) (hG : gn G < 1713) : ∃ σ', Ki_makeOpen F σ = some (nI (gn G), σ') ∧ CS σ' (adG G 0 0 0) ∧ sx [306] [23, 24, 25] σ σ' := by
  have hs : sx [306] [23, 24, 25] σ (si (sa (sa σ 23 (gn G) (-1)) 25 (gn G) (-1)) 306 (nI (gn G + 1))) := sx_si (sx_sa (sx_sa (sx_rfl _ _ σ) (by decide) _ _) (by decide) _ _) (by decide) _
  refine ⟨_, ?_, ad_CS h hG hs (by simp [zs]) ?_ ?_ (Or.inl ⟨rfl, ?_⟩), hs⟩
  · rw [Ki_makeOpen, h.1, if_pos (show nI (gn G) < (1713 : Int32) from nI_lt (b := 1713) (by omega) (by omega)), gd_t (inb_nI (by omega) (by omega)), nI_clamp (by omega), nI_a1s, nI_1]
  · intro a ha k hk
    rcases ha with z | z | z <;> subst z <;> simp [zs, up_at, hk]
  · simp [zs, up_at]
  · simp [zs, up_at]
theorem arrowC {l r : Nat} (h : CS σ G) (hG : gn G < 1713) (hl : l < gn G) (hr : r < gn G) : ∃ σ', Ki_makeArrow F σ (nI l) (nI r) = some (nI (gn G), σ') ∧ CS σ' (adG G 2 l r) ∧ sx [306] [23, 24, 25] σ σ' := by
  have hs : sx [306] [23, 24, 25] σ (si (sa (sa (sa σ 23 (gn G) (nI l)) 24 (gn G) (nI r)) 25 (gn G) (-1)) 306 (nI (gn G + 1))) := sx_si (sx_sa (sx_sa (sx_sa (sx_rfl _ _ σ) (by decide) _ _) (by decide) _ _) (by decide) _ _) (by decide) _
  refine ⟨_, ?_, ad_CS h hG hs (by simp [zs]) ?_ ?_ (Or.inr ⟨rfl, ?_, ?_, hl, hr⟩), hs⟩
  · rw [Ki_makeArrow, h.1, if_pos (show nI (gn G) < (1713 : Int32) from nI_lt (b := 1713) (by omega) (by omega)), gd_t (inb_nI (by omega) (by omega)), nI_clamp (by omega), nI_a1s, nI_1]
  · intro a ha k hk
    rcases ha with z | z | z <;> subst z <;> simp [zs, up_at, hk]
  · simp [zs, up_at]
  · simp [zs, up_at]
  · simp [zs, up_at]
theorem newM {s l r : Nat} (h : MS τ H) (hH : gn H < 4000) (hs2 : s ≤ 2) (hlr : s = 2 → l < gn H ∧ r < gn H) : ∃ τ', Md_newKind F τ (nI s) (nI l) (nI r) = some (nI (gn H), τ') ∧ MS τ' (adG H s l r) ∧ sx [48] [26, 27, 28, 29] τ τ' := by
  obtain ⟨a1, a2, a3, a4, a5⟩ := h
  obtain ⟨n1, n2, n3, n4⟩ := ad_new (G := H) (s := s) (l := l) (r := r)
  have hs : sx [48] [26, 27, 28, 29] τ (si (sa (sa (sa (sa τ 26 (gn H) (nI s)) 27 (gn H) (nI l)) 28 (gn H) (nI r)) 29 (gn H) (nI (gn H))) 48 (nI (gn H + 1))) := sx_si (sx_sa (sx_sa (sx_sa (sx_sa (sx_rfl _ _ τ) (by decide) _ _) (by decide) _ _) (by decide) _ _) (by decide) _ _) (by decide) _
  refine ⟨_, ?_, ⟨by rw [ad_n]; simp [zs], by rw [ad_n]; omega, by rw [ad_n]; omega, ad_wf a4 hs2 hlr, fun k hk => ?_⟩, hs⟩
  · rw [Md_newKind, a1, gd_t (inb_nI (by omega) (by omega)), nI_clamp (by omega), nI_a1s, nI_1]
  · rw [ad_n] at hk
    by_cases ek : k = gn H
    · subst ek
      rw [n1, n2, n3, n4]
      refine ⟨by simp [zs, up_at], by simp [zs, up_at], fun _ => ⟨by simp [zs, up_at], by simp [zs, up_at]⟩⟩
    · have hk' : k < gn H := by omega
      rw [ad_up k hk', ad_so k hk', ad_le k hk', ad_ri k hk']
      obtain ⟨b1, b2, b3⟩ := a5 k hk'
      refine ⟨by simp [zs, up_at, ek]; exact b1, by simp [zs, up_at, ek]; exact b2, fun z => ⟨by simp [zs, up_at, ek]; exact (b3 z).1, by simp [zs, up_at, ek]; exact (b3 z).2⟩⟩
end K
