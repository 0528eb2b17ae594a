/-! Letters in the class. Own text. -/
/-- marks: those that are open have their place in V -/
def mkV (σ : zS) (G : SG) (V : List Nat) (vis : Nat → Bool) : Prop := ∀ r, r < gn G → (vis r = false → ga σ 26 r = 0) ∧ (vis r = true → ga σ 26 r ≠ 0) ∧ (vis r = true → gso G r = 0 → ∃ i, V[i]? = some r ∧ ga σ 26 r = nI (i + 1))
def RC (σ0 : zS) (G : SG) (s : zS × Nat) (L V : List Nat) (vis : Nat → Bool) : Prop := CS s.1 G ∧ sx [309, 310] [26, 28] σ0 s.1 ∧ stC s.1 L ∧ (∀ k, k ∈ L → k < gn G) ∧ mkV s.1 G V vis ∧ gi s.1 310 = nI V.length ∧ V.length + unv vis (gn G) ≤ gn G ∧ L.length + unv vis (gn G) ≤ 3000 ∧ s.2 + L.length + 2 * unv vis (gn G) ≤ 9000
section K
variable {F : Nat} {σ0 : zS} {G : SG} {x2 : Int32}
theorem lc_pop (hF : 20000 ≤ F) {s : zS × Nat} {k : Nat} {L V : List Nat} {vis : Nat → Bool} (h : RC σ0 G s (k :: L) V vis) : ∃ σ1, sx [309] [28] s.1 σ1 ∧ stC σ1 L ∧ CS σ1 G ∧ mkV σ1 G V vis ∧ ∀ f, Ki_letter_17 F (f + 1) s.1 x2 (nI s.2) = if ga σ1 26 (rt G k) = 0 then (bi (Ki_isOpen F (sa σ1 26 (rt G k) (1 : Int32)) (nI (rt G k))) (fun r12 σ11 => if r12 = 0 then (bi (Ki_isArrow F σ11 (nI (rt G k))) (fun r16 σ15 => if r16 = 0 then (Ki_letter_125 F (Ki_letter_17 F f) σ15 x2 (nI s.2)) else (bv (Ki_push F σ15 (ga σ15 24 (rt G k))) (fun σ19 => bv (Ki_push F σ19 (ga σ19 23 (rt G k))) (fun σ21 => Ki_letter_125 F (Ki_letter_17 F f) σ21 x2 (nI s.2)))))) else (Ki_letter_125 F (Ki_letter_17 F f) (sa (si σ11 310 ((gi σ11 310) + (1 : Int32))) 26 (rt G k) ((gi σ11 310) + (1 : Int32))) x2 (nI s.2)))) else (Ki_letter_125 F (Ki_letter_17 F f) σ1 x2 (nI s.2)) := by
  obtain ⟨h1, h2, h3, h4, h5, h6, h7, h8, h9⟩ := h
  have hk := h4 k List.mem_cons_self
  simp only [List.length_cons] at h8 h9
  obtain ⟨σ1, a1, a2, a3⟩ := popC (F := F) h3 (by omega)
  have hC1 : CS σ1 G := CS_sx a3 (by decide) (by decide) (by decide) (by decide) h1
  have hr := rt_lt h1.2.2.2.2.2.1 hk
  have hn := h1.2.2.1
  refine ⟨σ1, a3, a2, hC1, ?_, fun f => ?_⟩
  · intro r hr'
    rw [a3.2.1 26 (by decide)]
    exact h5 r hr'
  · have h309 : gi s.1 309 = nI (L.length + 1) := h3.1
    rw [Ki_letter_17, Ki_letter_b17, if_neg (show ¬ (1000000 : Int32) ≤ nI s.2 from nI_ge (b := 1000000) (by omega) (by omega)), h309, if_neg (nI_nle (by omega) (by omega)), a1, bi_some]
    show bi (Ki_find F σ1 (nI k)) _ = _
    rw [findC hF hC1 hk, bi_some]
    show gd (inb (nI (rt G k)) 1713) _ = _
    rw [gd_t (inb_nI (by omega) (by omega)), nI_clamp (by omega)]
theorem mkV_s {σ σ' : zS} {V : List Nat} {vis : Nat → Bool} {r : Nat} {v : Int32} (h : mkV σ G V vis) (hne : gso G r ≠ 0) (hv : v ≠ 0) (e : ∀ j, ga σ' 26 j = if j = r then v else ga σ 26 j) : mkV σ' G V (vs vis r) := by
  intro j hj
  rw [e]
  by_cases c : j = r
  · subst c
    rw [if_pos rfl]
    exact ⟨fun z => by unfold vs at z; simp at z, fun _ => hv, fun _ z => absurd z hne⟩
  · rw [if_neg c]
    obtain ⟨a1, a2, a3⟩ := h j hj
    have ev : vs vis r j = vis j := by unfold vs; simp [c]
    rw [ev]
    exact ⟨a1, a2, a3⟩
theorem mkV_o {σ σ' : zS} {V : List Nat} {vis : Nat → Bool} {r : Nat} (h : mkV σ G V vis) (e : ∀ j, ga σ' 26 j = if j = r then nI (V.length + 1) else ga σ 26 j) (hl : V.length < 5000) : mkV σ' G (V ++ [r]) (vs vis r) := by
  intro j hj
  rw [e]
  by_cases c : j = r
  · subst c
    rw [if_pos rfl]
    exact ⟨fun z => by unfold vs at z; simp at z, fun _ => nI_ne0 (by omega) (by omega), fun _ _ => ⟨V.length, by rw [List.getElem?_append_right (Nat.le_refl _), Nat.sub_self]; rfl, rfl⟩⟩
  · rw [if_neg c]
    obtain ⟨a1, a2, a3⟩ := h j hj
    have ev : vs vis r j = vis j := by unfold vs; simp [c]
    rw [ev]
    refine ⟨a1, a2, fun z y => ?_⟩
    obtain ⟨i, i1, i2⟩ := a3 z y
    have hil : i < V.length := by
      rcases Nat.lt_or_ge i V.length with w | w
      · exact w
      · rw [List.getElem?_eq_none w] at i1; cases i1
    exact ⟨i, by rw [List.getElem?_append_left hil]; exact i1, i2⟩
theorem lt_all (hF : 20000 ≤ F) (hw : wfG G) : ∀ (d k : Nat) (L V : List Nat) (vis : Nat → Bool) (X : List Nat) (s : zS × Nat), k < gn G → dpt d (gT G k) → RC σ0 G s (k :: L) V vis → cpl G V vis X → (∀ r, r ∈ X → ¬ dpt d (gT G r)) → ∃ n s' vis', (∀ f, Ki_letter_17 F (f + n) s.1 x2 (nI s.2) = Ki_letter_17 F f s'.1 x2 (nI s'.2)) ∧ RC σ0 G s' L (ddp V (oc d (gT G k))) vis' ∧ cpl G (ddp V (oc d (gT G k))) vis' X ∧ n + 2 * unv vis' (gn G) ≤ 1 + 2 * unv vis (gn G) ∧ (∀ r, vis r = true → vis' r = true) := by
  refine dfs (St := zS × Nat) (Lp := fun f s => Ki_letter_17 F f s.1 x2 (nI s.2)) (R := RC σ0 G) hw ?_ ?_ ?_ ?_
  · intro s k L V vis h hk hv
    obtain ⟨σ1, a1, a2, a3, a4, a5⟩ := lc_pop (F := F) (x2 := x2) hF h
    obtain ⟨h1, h2, h3, h4, h5, h6, h7, h8, h9⟩ := h
    have hr := rt_lt hw hk
    simp only [List.length_cons] at h8 h9
    refine ⟨(σ1, s.2 + 1), fun f => ?_, a3, sx_tr h2 (sx_mono (by decide) (by decide) a1), a2, fun j hj => h4 j (List.mem_cons_of_mem _ hj), a4, by rw [a1.1 310 (by decide)]; exact h6, h7, by omega, by show s.2 + 1 + L.length + _ ≤ _; omega⟩
    show Ki_letter_17 F (f + 1) s.1 x2 (nI s.2) = Ki_letter_17 F f σ1 x2 (nI (s.2 + 1))
    rw [a5, if_neg ((a4 _ hr).2.1 hv), Ki_letter_125, nI_1]
  · intro s k L V vis h hk hv hz
    obtain ⟨σ1, a1, a2, a3, a4, a5⟩ := lc_pop (F := F) (x2 := x2) hF h
    obtain ⟨h1, h2, h3, h4, h5, h6, h7, h8, h9⟩ := h
    have hr := rt_lt hw hk
    have hu := unv_s hr hv
    have hn := h1.2.2.1
    simp only [List.length_cons] at h8 h9
    have s2 : sx [] [26] σ1 (sa σ1 26 (rt G k) 1) := sx_sa (sx_rfl _ _ _) (by decide) _ _
    have hC2 : CS (sa σ1 26 (rt G k) 1) G := CS_sx s2 (by decide) (by decide) (by decide) (by decide) a3
    have h310 : gi (sa σ1 26 (rt G k) 1) 310 = nI V.length := by rw [s2.1 310 (by decide), a1.1 310 (by decide)]; exact h6
    obtain ⟨σ2, hσ2⟩ : ∃ x, x = sa (si (sa σ1 26 (rt G k) 1) 310 (nI (V.length + 1))) 26 (rt G k) (nI (V.length + 1)) := ⟨_, rfl⟩
    have s3 : sx [309, 310] [26, 28] σ1 σ2 := by rw [hσ2]; exact sx_sa (sx_si (sx_sa (sx_rfl _ _ _) (by decide) _ _) (by decide) _) (by decide) _ _
    have e26 : ∀ j, ga σ2 26 j = if j = rt G k then nI (V.length + 1) else ga σ1 26 j := by
      intro j; rw [hσ2]; simp [zs, up_at]
      by_cases c : j = rt G k <;> simp [c]
    refine ⟨(σ2, s.2 + 1), fun f => ?_, CS_sx s3 (by decide) (by decide) (by decide) (by decide) a3, sx_tr h2 (sx_tr (sx_mono (by decide) (by decide) a1) s3), ⟨?_, ?_⟩, fun j hj => h4 j (List.mem_cons_of_mem _ hj), mkV_o a4 e26 (by omega), by rw [hσ2]; simp [zs], by simp; omega, by omega, by show s.2 + 1 + L.length + _ ≤ _; omega⟩
    · show Ki_letter_17 F (f + 1) s.1 x2 (nI s.2) = Ki_letter_17 F f σ2 x2 (nI (s.2 + 1))
      rw [a5, if_pos ((a4 _ hr).1 hv), isOpC hC2 hr, bi_some, if_pos hz]
      show (if (1 : Int32) = 0 then _ else _) = _
      rw [if_neg (by decide), h310, nI_1, ← hσ2, Ki_letter_125, nI_1]
    · show gi σ2 309 = nI L.length
      rw [hσ2]; simp [zs]; exact a2.1
    · exact stL_cg L (fun i _ => by rw [hσ2]; simp [zs]) a2.2
  · intro s k L V vis h hk hv hz
    obtain ⟨σ1, a1, a2, a3, a4, a5⟩ := lc_pop (F := F) (x2 := x2) hF h
    obtain ⟨h1, h2, h3, h4, h5, h6, h7, h8, h9⟩ := h
    have hr := rt_lt hw hk
    have hu := unv_s hr hv
    simp only [List.length_cons] at h8 h9
    have s2 : sx [309] [26, 28] σ1 (sa σ1 26 (rt G k) 1) := sx_sa (sx_rfl _ _ _) (by decide) _ _
    have hC2 : CS (sa σ1 26 (rt G k) 1) G := CS_sx s2 (by decide) (by decide) (by decide) (by decide) a3
    have e26 : ∀ j, ga (sa σ1 26 (rt G k) 1) 26 j = if j = rt G k then 1 else ga σ1 26 j := by intro j; simp [zs, up_at]
    refine ⟨(sa σ1 26 (rt G k) 1, s.2 + 1), fun f => ?_, hC2, sx_tr h2 (sx_tr (sx_mono (by decide) (by decide) a1) (sx_mono (by decide) (by decide) s2)), ⟨?_, ?_⟩, fun j hj => h4 j (List.mem_cons_of_mem _ hj), mkV_s a4 (by rw [hz]; decide) (by decide) e26, by show gi (sa σ1 26 (rt G k) 1) 310 = _; rw [s2.1 310 (by decide), a1.1 310 (by decide)]; exact h6, by omega, by omega, by show s.2 + 1 + L.length + _ ≤ _; omega⟩
    · show Ki_letter_17 F (f + 1) s.1 x2 (nI s.2) = Ki_letter_17 F f (sa σ1 26 (rt G k) 1) x2 (nI (s.2 + 1))
      rw [a5, if_pos ((a4 _ hr).1 hv), isOpC hC2 hr, bi_some, if_neg (show ¬ gso G (rt G k) = 0 by rw [hz]; decide)]
      show (if (0 : Int32) = 0 then _ else _) = _
      rw [if_pos rfl, isArC hC2 hr, bi_some, if_neg (show ¬ gso G (rt G k) = 2 by rw [hz]; decide)]
      show (if (0 : Int32) = 0 then _ else _) = _
      rw [if_pos rfl, Ki_letter_125, nI_1]
    · show gi (sa σ1 26 (rt G k) 1) 309 = nI L.length
      simp only [zs]; exact a2.1
    · exact stL_cg L (fun i _ => by show ga (sa σ1 26 (rt G k) 1) 28 i = _; simp [zs]) a2.2
  · intro s k L V vis h hk hv hz
    obtain ⟨σ1, a1, a2, a3, a4, a5⟩ := lc_pop (F := F) (x2 := x2) hF h
    obtain ⟨h1, h2, h3, h4, h5, h6, h7, h8, h9⟩ := h
    have hr := rt_lt hw hk
    have hu := unv_s hr hv
    simp only [List.length_cons] at h8 h9
    obtain ⟨dl, dr⟩ := (hw.1 _ hr).2.2 hz
    have s2 : sx [309] [26, 28] σ1 (sa σ1 26 (rt G k) 1) := sx_sa (sx_rfl _ _ _) (by decide) _ _
    have hC2 : CS (sa σ1 26 (rt G k) 1) G := CS_sx s2 (by decide) (by decide) (by decide) (by decide) a3
    have e26 : ∀ j, ga (sa σ1 26 (rt G k) 1) 26 j = if j = rt G k then 1 else ga σ1 26 j := by intro j; simp [zs, up_at]
    have st2 : stC (sa σ1 26 (rt G k) 1) L := ⟨by simp only [zs]; exact a2.1, stL_cg L (fun i _ => by simp [zs]) a2.2⟩
    have hr0 : rt G k ≠ 0 := by
      intro z
      rw [z, h1.2.2.2.2.1] at hz
      cases hz
    obtain ⟨q1, q2⟩ : ga σ1 23 (rt G k) = nI (gle G (rt G k)) ∧ ga σ1 24 (rt G k) = nI (gri G (rt G k)) := by
      rcases (a3.2.2.2.2.2.2 _ hr).2.2 hr0 with ⟨y, _⟩ | ⟨_, y1, y2⟩
      · rw [hz] at y; cases y
      · exact ⟨y1, y2⟩
    obtain ⟨σ3, b1, b2, b3⟩ := pushC (F := F) st2 (by omega) (gri G (rt G k))
    obtain ⟨σ4, c1, c2, c3⟩ := pushC (F := F) b2 (by simp; omega) (gle G (rt G k))
    have s4 : sx [309, 310] [26, 28] σ1 σ4 := sx_tr (sx_mono (by decide) (by decide) s2) (sx_tr (sx_mono (by decide) (by decide) b3) (sx_mono (by decide) (by decide) c3))
    have e26' : ∀ j, ga σ4 26 j = if j = rt G k then 1 else ga σ1 26 j := by
      intro j; rw [c3.2.1 26 (by decide), b3.2.1 26 (by decide)]; exact e26 j
    refine ⟨(σ4, s.2 + 1), fun f => ?_, CS_sx s4 (by decide) (by decide) (by decide) (by decide) a3, sx_tr h2 (sx_tr (sx_mono (by decide) (by decide) a1) s4), c2, fun j hj => ?_, mkV_s a4 (by rw [hz]; decide) (by decide) e26', ?_, by omega, by simp; omega, by show s.2 + 1 + _ + _ ≤ _; simp; omega⟩
    · show Ki_letter_17 F (f + 1) s.1 x2 (nI s.2) = Ki_letter_17 F f σ4 x2 (nI (s.2 + 1))
      rw [a5, if_pos ((a4 _ hr).1 hv), isOpC hC2 hr, bi_some, if_neg (show ¬ gso G (rt G k) = 0 by rw [hz]; decide)]
      show (if (0 : Int32) = 0 then _ else _) = _
      rw [if_pos rfl, isArC hC2 hr, bi_some, if_pos hz]
      show (if (1 : Int32) = 0 then _ else _) = _
      rw [if_neg (by decide), show ga (sa σ1 26 (rt G k) 1) 24 (rt G k) = nI (gri G (rt G k)) by rw [s2.2.1 24 (by decide)]; exact q2, b1, bv_some, show ga σ3 23 (rt G k) = nI (gle G (rt G k)) by rw [b3.2.1 23 (by decide), s2.2.1 23 (by decide)]; exact q1, c1, bv_some, Ki_letter_125, nI_1]
    · rcases List.mem_cons.mp hj with e | e
      · rw [e]; exact dl
      · rcases List.mem_cons.mp e with e | e
        · rw [e]; exact dr
        · exact h4 j (List.mem_cons_of_mem _ e)
    · show gi σ4 310 = _
      rw [c3.1 310 (by decide), b3.1 310 (by decide), s2.1 310 (by decide), a1.1 310 (by decide)]; exact h6
/-- one letter() of the class -/
theorem letterC (hF : 20000 ≤ F) {σ : zS} {V : List Nat} {vis : Nat → Bool} {d k : Nat} (hC : CS σ G) (hk : k < gn G) (hd : dpt d (gT G k)) (hm : mkV σ G V vis) (h310 : gi σ 310 = nI V.length) (hV : V.length + unv vis (gn G) ≤ gn G) (hc : cpl G V vis []) : ∃ σ' vis', Ki_letter F σ (nI k) = some (nI (ddp V (oc d (gT G k))).length - nI V.length, σ') ∧ sx [309, 310] [26, 28] σ σ' ∧ CS σ' G ∧ mkV σ' G (ddp V (oc d (gT G k))) vis' ∧ gi σ' 310 = nI (ddp V (oc d (gT G k))).length ∧ (ddp V (oc d (gT G k))).length + unv vis' (gn G) ≤ gn G ∧ cpl G (ddp V (oc d (gT G k))) vis' [] := by
  have hw := hC.2.2.2.2.2.1
  have hn := hC.2.2.1
  have hun : unv vis (gn G) ≤ gn G := cN_le _ _
  have s0 : sx [309] [28] σ (si σ 309 0) := sx_si (sx_rfl _ _ _) (by decide) _
  have st0 : stC (si σ 309 0) [] := ⟨by simp [zs]; exact nI_0.symm, trivial⟩
  obtain ⟨σ1, a1, a2, a3⟩ := pushC (F := F) st0 (by simp) k
  have s1 : sx [309] [28] σ σ1 := sx_tr s0 a3
  have hR : RC σ G (σ1, 0) [k] V vis := ⟨CS_sx s1 (by decide) (by decide) (by decide) (by decide) hC, sx_mono (by decide) (by decide) s1, a2, fun j hj => by rw [List.mem_singleton.mp hj]; exact hk, fun r hr => by show (_ → ga σ1 26 r = 0) ∧ (_ → ga σ1 26 r ≠ 0) ∧ (_ → _ → ∃ i, _ ∧ ga σ1 26 r = _); rw [s1.2.1 26 (by decide)]; exact hm r hr, by show gi σ1 310 = _; rw [s1.1 310 (by decide)]; exact h310, hV, by simp; omega, by simp; omega⟩
  obtain ⟨n, s', vis', b1, b2, b3, b4, b5⟩ := lt_all (F := F) (σ0 := σ) (x2 := gi σ 310) hF hw d k [] V vis [] (σ1, 0) hk hd hR hc (fun r hr => by cases hr)
  obtain ⟨c1, c2, c3, c4, c5, c6, c7, c8, c9⟩ := b2
  refine ⟨s'.1, vis', ?_, c2, c1, c5, c6, c7, b3⟩
  have hn2 : n ≤ 1 + 2 * gn G := by omega
  have hs2 : s'.2 ≤ 9000 := by omega
  rw [Ki_letter, a1, bv_some]
  obtain ⟨f, hf⟩ : ∃ f, F = (f + 1) + n := ⟨F - n - 1, by omega⟩
  have e1 := b1 (f + 1)
  rw [← hf] at e1
  have e2 : Ki_letter_17 F F σ1 (gi σ 310) (nI 0) = Ki_letter_17 F (f + 1) s'.1 (gi σ 310) (nI s'.2) := e1
  rw [nI_0] at e2
  rw [e2, Ki_letter_17, Ki_letter_b17, if_neg (show ¬ (1000000 : Int32) ≤ nI s'.2 from nI_ge (b := 1000000) (by omega) (by omega)), show gi s'.1 309 = nI 0 from c3.1, if_pos (by rw [nI_0]; decide), Ki_letter_131, c6, h310]
end K
