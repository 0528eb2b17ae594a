/-! The class solves what it has listed. Own text. -/
/-- what lies below n hangs on what lies below n -/
def tz (n : Nat) (G : SG) : Prop := ∀ k, k < n → gup G k < n ∧ (gup G k = k → gso G k ≠ 0)
theorem tz_up {n : Nat} {G G' : SG} (h : tz n G) (g : upS G G') : tz n G' := by
  obtain ⟨g1, g2, g3, g4, g5⟩ := g
  intro k hk
  obtain ⟨h1, h2⟩ := h k hk
  rw [g2]
  rcases g5 k with z | ⟨z1, z2⟩
  · rw [z]; exact ⟨h1, h2⟩
  · rcases z2 with y | y
    · exact absurd y (h2 z1)
    · exact ⟨by omega, fun _ => h2 z1⟩
section K
variable {Z : List (TE × TE)} {F : Nat} {dom : Nat → Prop} {m : Nat → Nat} {E : List EQ}
theorem eqK_at {σ : zS} {G : SG} : ∀ (E1 E2 : List EQ) (e : EQ) (i : Nat), eqK σ G dom m i (E1 ++ e :: E2) → ∃ x y, ga σ 49 (i + E1.length) = nI x ∧ ga σ 50 (i + E1.length) = nI y ∧ ga σ 51 (i + E1.length) = nI e.2.2 ∧ rp G dom m x e.1 ∧ rp G dom m y e.2.1 := by
  intro E1 E2 e i h
  rw [eqK_app] at h
  exact h.2.1
theorem sv_all (hF : 20000 ≤ F) : ∀ (d f : Nat) (E1 E2 : List EQ) (σ : zS) (G : SG), E = E1 ++ E2 → E2.length = d → d < f → E.length ≤ 216 → gi σ 807 = nI E.length → gi σ 200 = 0 → CS σ G → Rp G dom m (Z ++ eqP E1) → eqK σ G dom m 0 E → (∃ σ' G', So_solveListed_2 F f σ (nI E1.length) = some σ' ∧ CS σ' G' ∧ Rp G' dom m (Z ++ eqP E) ∧ xt G dom m G' dom m ∧ sx [308, 309] [25, 26, 27, 28] σ σ' ∧ gn G' = gn G ∧ ∀ n, tz n G → tz n G') ∨ (∃ Ea e Eb x y σ1 G1 f', E = Ea ++ e :: Eb ∧ Rp G1 dom m (Z ++ eqP Ea) ∧ rp G1 dom m x e.1 ∧ rp G1 dom m y e.2.1 ∧ unso G1 x y ∧ CS σ1 G1 ∧ xt G dom m G1 dom m ∧ sx [308, 309] [25, 26, 27, 28] σ σ1 ∧ gn G1 = gn G ∧ (∀ n, tz n G → tz n G1) ∧ So_solveListed_2 F f σ (nI E1.length) = bv (Ki_showSides F (si (si σ1 200 6) 201 (nI e.2.2)) (nI x) (nI y)) (fun s => So_solveListed_2 F (f' + 1) s (nI (Ea.length + 1)))) := by
  intro d
  induction d with
  | zero =>
    intro f E1 E2 σ G hE hd hf hl h807 h200 hC hR hK
    obtain ⟨f, rfl⟩ : ∃ f', f = f' + 1 := ⟨f - 1, by omega⟩
    obtain rfl : E2 = [] := List.eq_nil_of_length_eq_zero hd
    rw [List.append_nil] at hE
    subst hE
    refine Or.inl ⟨σ, G, ?_, hC, hR, xt_rfl _ _ _, sx_rfl _ _ _, rfl, fun _ z => z⟩
    rw [So_solveListed_2, So_solveListed_b2, h807, if_pos (nI_le (Nat.le_refl _) (by omega))]
    rfl
  | succ d ih =>
    intro f E1 E2 σ G hE hd hf hl h807 h200 hC hR hK
    obtain ⟨f, rfl⟩ : ∃ f', f = f' + 1 := ⟨f - 1, by omega⟩
    obtain ⟨e, E2, rfl⟩ : ∃ e l, E2 = e :: l := by
      cases E2 with
      | nil => simp at hd
      | cons e l => exact ⟨e, l, rfl⟩
    have hEl : E.length = E1.length + (E2.length + 1) := by rw [hE]; simp
    rw [List.length_cons] at hd
    obtain ⟨x, y, k1, k2, k3, k4, k5⟩ := eqK_at E1 E2 e 0 (by rw [← hE]; exact hK)
    rw [Nat.zero_add] at k1 k2 k3
    obtain ⟨r, σ1, u1, u2, u3⟩ := unifyC (F := F) hF hC k4.1 k5.1
    have hthere : Fa_isThere F σ = some (0, σ) := by
      rw [Fa_isThere, h200, if_pos rfl]
      rfl
    have h0 : So_solveListed_2 F (f + 1) σ (nI E1.length) = bi (Ki_unify F σ (nI x) (nI y)) (fun r8 σ7 => if r8 = 0 then (bv (Fa_raise F σ7 (6 : Int32) (ga σ7 51 E1.length)) (fun σ11 => bv (Ki_showSides F σ11 (ga σ11 49 E1.length) (ga σ11 50 E1.length)) (fun σ13 => So_solveListed_80 F (So_solveListed_2 F f) σ13 (nI E1.length)))) else (So_solveListed_80 F (So_solveListed_2 F f) σ7 (nI E1.length))) := by
      rw [So_solveListed_2, So_solveListed_b2, h807, if_neg (nI_ge (by omega) (by omega)), hthere, bi_some]
      show (if (0 : Int32) = 0 then _ else _) = _
      rw [if_pos rfl, gd_t (inb_nI (by omega) (by omega)), nI_clamp (by omega), k1, k2]
    rw [h0, u1, bi_some]
    rcases u3 with ⟨rfl, G', c1, c2, c3, dd, c4⟩ | ⟨rfl, c1, c2⟩
    · obtain ⟨R1, R2⟩ := Rp_eq (e1 := e.1) (e2 := e.2.1) hR k4 k5 (c1.2.2.2.2.2.1) c4 c2.1 c3
      have hE' : E = (E1 ++ [e]) ++ E2 := by rw [hE]; simp
      have hlen : (E1 ++ [e]).length = E1.length + 1 := by simp
      rcases ih f (E1 ++ [e]) E2 σ1 G' hE' (by omega) (by omega) hl (by rw [u2.1 807 (by decide)]; exact h807) (by rw [u2.1 200 (by decide)]; exact h200) c1 (by rw [eqP_app, eqP_1, ← List.append_assoc]; exact R1) (eqK_cg R2 E 0 (fun j _ _ => by rw [u2.2.1 49 (by decide), u2.2.1 50 (by decide), u2.2.1 51 (by decide)]; exact ⟨rfl, rfl, rfl⟩) hK) with ⟨σ', G2, a1, a2, a3, a4, a5, a6, a7⟩ | ⟨Ea, e', Eb, x', y', σ2, G2, f', a1, a2, a3, a4, a5, a6, a7, a8, a9, a10, a11⟩
      · refine Or.inl ⟨σ', G2, ?_, a2, a3, xt_tr R2 a4, sx_tr u2 a5, a6.trans c2.1, fun n hn => a7 n (tz_up hn c2)⟩
        show (if (1 : Int32) = 0 then _ else _) = _
        rw [if_neg (by decide), So_solveListed_80, nI_1, ← hlen, a1]
      · refine Or.inr ⟨Ea, e', Eb, x', y', σ2, G2, f', a1, a2, a3, a4, a5, a6, xt_tr R2 a7, sx_tr u2 a8, a9.trans c2.1, fun n hn => a10 n (tz_up hn c2), ?_⟩
        show (if (1 : Int32) = 0 then _ else _) = _
        rw [if_neg (by decide), So_solveListed_80, nI_1, ← hlen, a11]
    · obtain ⟨f, rfl⟩ : ∃ f', f = f' + 1 := ⟨f - 1, by omega⟩
      refine Or.inr ⟨E1, e, E2, x, y, σ1, G, f, hE, hR, k4, k5, c2, CS_cg (u2.1 306 (by decide)) (fun k _ => by rw [u2.2.1 23 (by decide), u2.2.1 24 (by decide), c1]; exact ⟨rfl, rfl, rfl⟩) hC, xt_rfl _ _ _, u2, rfl, fun _ z => z, ?_⟩
      show (if (0 : Int32) = 0 then _ else _) = _
      have hrs : Fa_raise F σ1 (6 : Int32) (nI e.2.2) = some (si (si σ1 200 6) 201 (nI e.2.2)) := rfl
      rw [if_pos rfl, show ga σ1 51 E1.length = nI e.2.2 by rw [u2.2.1 51 (by decide)]; exact k3, hrs, bv_some]
      have q1 : ga (si (si σ1 200 6) 201 (nI e.2.2)) 49 E1.length = nI x := by
        have : ga (si (si σ1 200 6) 201 (nI e.2.2)) 49 = ga σ1 49 := by simp only [zs]
        rw [this, u2.2.1 49 (by decide)]; exact k1
      have q2 : ga (si (si σ1 200 6) 201 (nI e.2.2)) 50 E1.length = nI y := by
        have : ga (si (si σ1 200 6) 201 (nI e.2.2)) 50 = ga σ1 50 := by simp only [zs]
        rw [this, u2.2.1 50 (by decide)]; exact k2
      rw [q1, q2]
      congr 1
      funext s
      rw [So_solveListed_80, nI_1]
end K
