/-! Letters in the reference. Own text. -/
def RG (τ0 : zS) (H : SG) (s : zS × Nat) (L V : List Nat) (vis : Nat → Bool) : Prop := MS s.1 H ∧ sx [87] [53, 54, 57] τ0 s.1 ∧ s.2 = L.length ∧ stL s.1 53 L ∧ (∀ k, k ∈ L → k < gn H) ∧ (∀ r, r < gn H → ga s.1 54 r = if vis r = true then 1 else 0) ∧ gi s.1 87 = nI V.length ∧ (∀ (i r : Nat), V[i]? = some r → ga s.1 57 r = ltI i) ∧ (∀ r, r ∈ V → vis r = true) ∧ V.length + unv vis (gn H) ≤ gn H ∧ L.length + unv vis (gn H) ≤ 9000
section K
variable {F : Nat} {τ0 : zS} {H : SG}
theorem gl_pop (hF : 20000 ≤ F) {s : zS × Nat} {k : Nat} {L V : List Nat} {vis : Nat → Bool} (h : RG τ0 H s (k :: L) V vis) (f : Nat) : Md_giveLetters_9 F (f + 1) s.1 (nI s.2) = if (ga s.1 54 (rt H k)) = 0 then (if nI (gso H (rt H k)) = 0 then (if (25 : Int32) ≤ (gi s.1 87) then (Md_giveLetters_71 F (Md_giveLetters_9 F f) s.1 (nI L.length) (nI (rt H k)) (nI (rt H k)) (122 : Int32)) else (Md_giveLetters_71 F (Md_giveLetters_9 F f) s.1 (nI L.length) (nI (rt H k)) (nI (rt H k)) ((97 : Int32) + (gi s.1 87)))) else (Md_giveLetters_82 F (Md_giveLetters_9 F f) s.1 (nI L.length) (nI (rt H k)))) else (Md_giveLetters_82 F (Md_giveLetters_9 F f) s.1 (nI L.length) (nI (rt H k))) := by
  obtain ⟨h1, h2, h3, h4, h5, h6, h7, h8, h9, h10, h11⟩ := h
  have hk := h5 k List.mem_cons_self
  have hr := rt_lt h1.2.2.2.1 hk
  have hn := h1.2.2.1
  simp only [List.length_cons] at h3 h11
  rw [Md_giveLetters_9, Md_giveLetters_b9, h3, if_neg (nI_nle (by omega) (by omega)), nI_prd, gd_t (inb_nI (by omega) (by omega)), nI_clamp (by omega), show ga s.1 53 L.length = nI k from h4.1, topM hF h1 hk, bi_some]
  show gd (inb (nI (rt H k)) 4000) _ = _
  rw [gd_t (inb_nI (by omega) (by omega)), nI_clamp (by omega), (h1.2.2.2.2 _ hr).1]
theorem gl_all (hF : 20000 ≤ F) (hw : wfG H) : ∀ (d k : Nat) (L V : List Nat) (vis : Nat → Bool) (X : List Nat) (s : zS × Nat), k < gn H → dpt d (gT H k) → RG τ0 H s (k :: L) V vis → cpl H V vis X → (∀ r, r ∈ X → ¬ dpt d (gT H r)) → ∃ n s' vis', (∀ f, Md_giveLetters_9 F (f + n) s.1 (nI s.2) = Md_giveLetters_9 F f s'.1 (nI s'.2)) ∧ RG τ0 H s' L (ddp V (oc d (gT H k))) vis' ∧ cpl H (ddp V (oc d (gT H k))) vis' X ∧ n + 2 * unv vis' (gn H) ≤ 1 + 2 * unv vis (gn H) ∧ (∀ r, vis r = true → vis' r = true) := by
  refine dfs (St := zS × Nat) (Lp := fun f s => Md_giveLetters_9 F f s.1 (nI s.2)) (R := RG τ0 H) hw ?_ ?_ ?_ ?_
  · intro s k L V vis h hk hv
    have e0 := gl_pop (F := F) hF h
    obtain ⟨h1, h2, h3, h4, h5, h6, h7, h8, h9, h10, h11⟩ := h
    have hr := rt_lt hw hk
    have hn := h1.2.2.1
    simp only [List.length_cons] at h3 h11
    have e54 : ga s.1 54 (rt H k) = 1 := by rw [h6 _ hr, if_pos hv]
    have s2 : sx [87] [53, 54, 57] s.1 (sa s.1 54 (rt H k) 1) := sx_sa (sx_rfl _ _ _) (by decide) _ _
    refine ⟨(sa s.1 54 (rt H k) 1, L.length), fun f => ?_, MS_sx s2 (by decide) (by decide) (by decide) (by decide) (by decide) h1, sx_tr h2 s2, rfl, stL_cg L (fun i _ => by simp [zs]) h4.2, fun j hj => h5 j (List.mem_cons_of_mem _ hj), fun r hr' => ?_, by simp only [zs]; exact h7, fun i r hir => by simp only [zs]; exact h8 i r hir, h9, h10, by omega⟩
    · show Md_giveLetters_9 F (f + 1) s.1 (nI s.2) = Md_giveLetters_9 F f (sa s.1 54 (rt H k) 1) (nI L.length)
      rw [e0, e54, if_neg (by decide), Md_giveLetters_82, gd_t (inb_nI (by omega) (by omega)), nI_clamp (by omega), e54, if_neg (by decide), Md_giveLetters_130, gd_t (inb_nI (by omega) (by omega)), nI_clamp (by omega)]
    · show ga (sa s.1 54 (rt H k) 1) 54 r = _
      simp [zs, up_at]
      by_cases e : r = rt H k
      · rw [if_pos e, e, if_pos hv]
      · rw [if_neg e]; exact h6 r hr'
  · intro s k L V vis h hk hv hz
    have e0 := gl_pop (F := F) hF h
    obtain ⟨h1, h2, h3, h4, h5, h6, h7, h8, h9, h10, h11⟩ := h
    have hr := rt_lt hw hk
    have hn := h1.2.2.1
    have hu := unv_s hr hv
    simp only [List.length_cons] at h3 h11
    have e54 : ga s.1 54 (rt H k) = 0 := by rw [h6 _ hr, if_neg (by rw [hv]; decide)]
    have hs26 : ga s.1 26 (rt H k) = nI (gso H (rt H k)) := (h1.2.2.2.2 _ hr).1
    obtain ⟨τ2, hτ2⟩ : ∃ x, x = sa (si (sa s.1 57 (rt H k) (ltI V.length)) 87 (nI (V.length + 1))) 54 (rt H k) 1 := ⟨_, rfl⟩
    have s2 : sx [87] [53, 54, 57] s.1 τ2 := by rw [hτ2]; exact sx_sa (sx_si (sx_sa (sx_rfl _ _ _) (by decide) _ _) (by decide) _) (by decide) _ _
    have hrV : rt H k ∉ V := fun z => by rw [h9 _ z] at hv; cases hv
    refine ⟨(τ2, L.length), fun f => ?_, MS_sx s2 (by decide) (by decide) (by decide) (by decide) (by decide) h1, sx_tr h2 s2, rfl, stL_cg L (fun i _ => by rw [hτ2]; simp [zs]) h4.2, fun j hj => h5 j (List.mem_cons_of_mem _ hj), fun r hr' => ?_, by rw [hτ2]; simp [zs], fun i r hir => ?_, fun r hr' => ?_, by simp; omega, by omega⟩
    · show Md_giveLetters_9 F (f + 1) s.1 (nI s.2) = Md_giveLetters_9 F f τ2 (nI L.length)
      have e71 : ∀ v, v = ltI V.length → Md_giveLetters_71 F (Md_giveLetters_9 F f) s.1 (nI L.length) (nI (rt H k)) (nI (rt H k)) v = Md_giveLetters_9 F f τ2 (nI L.length) := by
        intro v hv'
        have q54 : ga (si (sa s.1 57 (rt H k) v) 87 (nI (V.length + 1))) 54 (rt H k) = 0 := by simp [zs]; exact e54
        have q26 : ga (si (sa s.1 57 (rt H k) v) 87 (nI (V.length + 1))) 26 (rt H k) = 0 := by simp [zs]; rw [hs26, hz]; exact nI_0
        rw [Md_giveLetters_71, gd_t (inb_nI (by omega) (by omega)), nI_clamp (by omega), h7, nI_1, Md_giveLetters_82, gd_t (inb_nI (by omega) (by omega)), nI_clamp (by omega), q54, if_pos rfl, q26, if_neg (by decide), Md_giveLetters_130, gd_t (inb_nI (by omega) (by omega)), nI_clamp (by omega), hτ2, hv']
      rw [e0, e54, if_pos rfl, hz, if_pos nI_0, h7]
      by_cases c : V.length < 25
      · rw [if_neg (show ¬ (25 : Int32) ≤ nI V.length from nI_ge (b := 25) c (by omega))]
        exact e71 _ (by unfold ltI; rw [if_pos c, show (97 : Int32) = nI 97 from rfl, nI_add])
      · rw [if_pos (show (25 : Int32) ≤ nI V.length from nI_le (a := 25) (by omega) (by omega))]
        exact e71 _ (by unfold ltI; rw [if_neg c]; rfl)
    · show ga τ2 54 r = _
      rw [hτ2]
      simp [zs, up_at, vs]
      by_cases e : r = rt H k
      · simp [e]
      · simp [e]; exact h6 r hr'
    · show ga τ2 57 r = _
      have e57 : ga τ2 57 r = if r = rt H k then ltI V.length else ga s.1 57 r := by rw [hτ2]; simp [zs, up_at]
      rw [e57]
      rcases Nat.lt_or_ge i V.length with z | z
      · rw [List.getElem?_append_left z] at hir
        have hm : r ∈ V := List.mem_of_getElem? hir
        rw [if_neg (fun e => hrV (by rw [← e]; exact hm))]
        exact h8 i r hir
      · rw [List.getElem?_append_right z] at hir
        have hi0 : i - V.length = 0 := by
          rcases Nat.eq_zero_or_pos (i - V.length) with y | y
          · exact y
          · rw [List.getElem?_eq_none (by simp; omega)] at hir; cases hir
        rw [hi0] at hir
        have er : rt H k = r := Option.some.inj hir
        rw [if_pos er.symm, show i = V.length by omega]
    · rcases List.mem_append.mp hr' with y | y
      · unfold vs; simp [h9 r y]
      · rw [List.mem_singleton.mp y]; unfold vs; simp
  · intro s k L V vis h hk hv hz
    have e0 := gl_pop (F := F) hF h
    obtain ⟨h1, h2, h3, h4, h5, h6, h7, h8, h9, h10, h11⟩ := h
    have hr := rt_lt hw hk
    have hn := h1.2.2.1
    have hu := unv_s hr hv
    simp only [List.length_cons] at h3 h11
    have e54 : ga s.1 54 (rt H k) = 0 := by rw [h6 _ hr, if_neg (by rw [hv]; decide)]
    have hs26 : ga s.1 26 (rt H k) = nI (gso H (rt H k)) := (h1.2.2.2.2 _ hr).1
    have s2 : sx [87] [53, 54, 57] s.1 (sa s.1 54 (rt H k) 1) := sx_sa (sx_rfl _ _ _) (by decide) _ _
    refine ⟨(sa s.1 54 (rt H k) 1, L.length), fun f => ?_, MS_sx s2 (by decide) (by decide) (by decide) (by decide) (by decide) h1, sx_tr h2 s2, rfl, stL_cg L (fun i _ => by simp [zs]) h4.2, fun j hj => h5 j (List.mem_cons_of_mem _ hj), fun r hr' => ?_, by simp only [zs]; exact h7, fun i r hir => by simp only [zs]; exact h8 i r hir, fun r hr' => by unfold vs; simp [h9 r hr'], by omega, by omega⟩
    · show Md_giveLetters_9 F (f + 1) s.1 (nI s.2) = Md_giveLetters_9 F f (sa s.1 54 (rt H k) 1) (nI L.length)
      rw [e0, e54, if_pos rfl, hz, if_neg (show ¬ nI 1 = 0 by decide), Md_giveLetters_82, gd_t (inb_nI (by omega) (by omega)), nI_clamp (by omega), e54, if_pos rfl, hs26, hz, if_neg (show ¬ nI 1 = 2 by decide), Md_giveLetters_130, gd_t (inb_nI (by omega) (by omega)), nI_clamp (by omega)]
    · show ga (sa s.1 54 (rt H k) 1) 54 r = _
      simp [zs, up_at, vs]
      by_cases e : r = rt H k
      · simp [e]
      · simp [e]; exact h6 r hr'
  · intro s k L V vis h hk hv hz
    have e0 := gl_pop (F := F) hF h
    obtain ⟨h1, h2, h3, h4, h5, h6, h7, h8, h9, h10, h11⟩ := h
    have hr := rt_lt hw hk
    have hn := h1.2.2.1
    have hu := unv_s hr hv
    obtain ⟨dl, dr⟩ := (h1.2.2.2.1.1 _ hr).2.2 hz
    obtain ⟨q1, q2⟩ := (h1.2.2.2.2 _ hr).2.2 hz
    simp only [List.length_cons] at h3 h11
    have e54 : ga s.1 54 (rt H k) = 0 := by rw [h6 _ hr, if_neg (by rw [hv]; decide)]
    have hs26 : ga s.1 26 (rt H k) = nI (gso H (rt H k)) := (h1.2.2.2.2 _ hr).1
    obtain ⟨τ2, hτ2⟩ : ∃ x, x = sa (sa (sa s.1 53 L.length (nI (gri H (rt H k)))) 53 (L.length + 1) (nI (gle H (rt H k)))) 54 (rt H k) 1 := ⟨_, rfl⟩
    have s2 : sx [87] [53, 54, 57] s.1 τ2 := by rw [hτ2]; exact sx_sa (sx_sa (sx_sa (sx_rfl _ _ _) (by decide) _ _) (by decide) _ _) (by decide) _ _
    refine ⟨(τ2, L.length + 2), fun f => ?_, MS_sx s2 (by decide) (by decide) (by decide) (by decide) (by decide) h1, sx_tr h2 s2, rfl, ?_, fun j hj => ?_, fun r hr' => ?_, by rw [hτ2]; simp [zs]; exact h7, fun i r hir => by rw [hτ2]; simp [zs]; exact h8 i r hir, fun r hr' => by unfold vs; simp [h9 r hr'], by omega, by simp; omega⟩
    · show Md_giveLetters_9 F (f + 1) s.1 (nI s.2) = Md_giveLetters_9 F f τ2 (nI (L.length + 2))
      rw [e0, e54, if_pos rfl, hz, if_neg (show ¬ nI 2 = 0 by decide), Md_giveLetters_82, gd_t (inb_nI (by omega) (by omega)), nI_clamp (by omega), e54, if_pos rfl, hs26, hz, if_pos (show nI 2 = (2 : Int32) from rfl), gd_t (inb_nI (by omega) (by omega)), nI_1, gd_t (inb_nI (by omega) (by omega)), nI_clamp (by omega), nI_clamp (by omega), q1, q2, show nI L.length + 2 = nI (L.length + 2) from nI_ad _ 2 _ rfl, Md_giveLetters_130, gd_t (inb_nI (by omega) (by omega)), nI_clamp (by omega), hτ2]
    · show stL τ2 53 _
      rw [hτ2]
      exact stL_cg _ (fun i _ => by simp [zs]) (stL_push h4.2 rfl)
    · rcases List.mem_cons.mp hj with e | e
      · rw [e]; exact dl
      · rcases List.mem_cons.mp e with e | e
        · rw [e]; exact dr
        · exact h5 j (List.mem_cons_of_mem _ e)
    · show ga τ2 54 r = _
      rw [hτ2]
      simp [zs, up_at, vs]
      by_cases e : r = rt H k
      · simp [e]
      · simp [e]; exact h6 r hr'
/-- what giveLetters keeps -/
def glI (τ : zS) (H : SG) (V : List Nat) (vis : Nat → Bool) : Prop := MS τ H ∧ (∀ r, r < gn H → ga τ 54 r = if vis r = true then 1 else 0) ∧ gi τ 87 = nI V.length ∧ (∀ (i r : Nat), V[i]? = some r → ga τ 57 r = ltI i) ∧ V.length + unv vis (gn H) ≤ gn H ∧ cpl H V vis []
theorem lettersM (hF : 20000 ≤ F) {τ : zS} {V : List Nat} {vis : Nat → Bool} {d k : Nat} (h : glI τ H V vis) (hk : k < gn H) (hd : dpt d (gT H k)) : ∃ τ' vis', Md_giveLetters F τ (nI k) = some τ' ∧ sx [87] [53, 54, 57] τ τ' ∧ glI τ' H (ddp V (oc d (gT H k))) vis' := by
  obtain ⟨h1, h2, h3, h4, h5, h6⟩ := h
  have hw := h1.2.2.2.1
  have hn := h1.2.2.1
  have hun : unv vis (gn H) ≤ gn H := cN_le _ _
  have s1 : sx [87] [53, 54, 57] τ (sa τ 53 0 (nI k)) := sx_sa (sx_rfl _ _ _) (by decide) _ _
  obtain ⟨n, s', vis', b1, b2, b3, b4, b5⟩ := gl_all (F := F) (τ0 := τ) hF hw d k [] V vis [] (sa τ 53 0 (nI k), 1) hk hd ⟨MS_sx s1 (by decide) (by decide) (by decide) (by decide) (by decide) h1, s1, rfl, ⟨by simp [zs, up_at], trivial⟩, fun j hj => by rw [List.mem_singleton.mp hj]; exact hk, fun r hr => by show ga (sa τ 53 0 (nI k)) 54 r = _; simp [zs]; exact h2 r hr, by simp only [zs]; exact h3, fun i r hir => by simp only [zs]; exact h4 i r hir, h6.2, h5, by simp; omega⟩ h6 (fun r hr => by cases hr)
  obtain ⟨c1, c2, c3, c4, c5, c6, c7, c8, c9, c10, c11⟩ := b2
  refine ⟨s'.1, vis', ?_, c2, c1, c6, c7, c8, c10, b3⟩
  obtain ⟨f, hf⟩ : ∃ f, F = (f + 1) + n := ⟨F - n - 1, by omega⟩
  have e1 := b1 (f + 1)
  rw [← hf] at e1
  rw [Md_giveLetters, gd_t (by decide)]
  refine (show Md_giveLetters_9 F F (sa τ 53 0 (nI k)) (nI 1) = Md_giveLetters_9 F (f + 1) s'.1 (nI s'.2) from e1).trans ?_
  rw [Md_giveLetters_9, Md_giveLetters_b9, show s'.2 = 0 from c3, if_pos (by rw [nI_0]; decide)]
end K
