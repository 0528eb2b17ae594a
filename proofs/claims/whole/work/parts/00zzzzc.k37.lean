/-! What is open in a tree, in order; a search that visits each kind once. Own text. -/
def oc : Nat → IT → List Nat
  | 0, t => if t [] ≤ 1 then [] else [t [] - 2]
  | d + 1, t => if t [] = 1 then oc d (dw t false) ++ oc d (dw t true) else if t [] = 0 then [] else [t [] - 2]
def ddp : List Nat → List Nat → List Nat
  | V, [] => V
  | V, r :: l => ddp (if r ∈ V then V else V ++ [r]) l
theorem ddp_app : ∀ (A B V : List Nat), ddp V (A ++ B) = ddp (ddp V A) B
  | [], B, V => rfl
  | r :: A, B, V => by rw [List.cons_append, ddp, ddp, ddp_app A B]
theorem ddp_skip : ∀ (L V : List Nat), (∀ r, r ∈ L → r ∈ V) → ddp V L = V
  | [], V, _ => rfl
  | r :: L, V, h => by
    rw [ddp, if_pos (h r List.mem_cons_self)]
    exact ddp_skip L V (fun x hx => h x (List.mem_cons_of_mem _ hx))
theorem ddp_mem : ∀ (L V : List Nat) (x : Nat), x ∈ ddp V L ↔ x ∈ V ∨ x ∈ L
  | [], V, x => by simp [ddp]
  | r :: L, V, x => by
    rw [ddp, ddp_mem L]
    by_cases h : r ∈ V
    · rw [if_pos h]
      simp
      constructor
      · rintro (z | z)
        · exact Or.inl z
        · exact Or.inr (Or.inr z)
      · rintro (z | z | z)
        · exact Or.inl z
        · subst z; exact Or.inl h
        · exact Or.inr z
    · rw [if_neg h]
      simp [or_assoc]
theorem oc_mem : ∀ (d : Nat) (t : IT), wfT t → dpt d t → ∀ r, r ∈ oc d t ↔ ∃ p, t p = r + 2 := by
  intro d
  induction d with
  | zero =>
    intro t hw hd r
    have h1 : t [] ≠ 1 := hd [] (Nat.le_refl _)
    have hp : ∀ p, t p = t [] := fun p => hw [] p h1
    rw [oc]
    by_cases c : t [] ≤ 1
    · rw [if_pos c]
      simp
      intro p z
      rw [hp] at z; omega
    · rw [if_neg c]
      simp
      constructor
      · intro z; exact ⟨[], by omega⟩
      · rintro ⟨p, z⟩; rw [hp] at z; omega
  | succ d ih =>
    intro t hw hd r
    rw [oc]
    by_cases c1 : t [] = 1
    · rw [if_pos c1, List.mem_append, ih _ (wfT_dw hw _) (dpt_dw hd _), ih _ (wfT_dw hw _) (dpt_dw hd _)]
      constructor
      · rintro (⟨p, z⟩ | ⟨p, z⟩)
        · exact ⟨false :: p, z⟩
        · exact ⟨true :: p, z⟩
      · rintro ⟨p, z⟩
        cases p with
        | nil => rw [c1] at z; omega
        | cons b p =>
          cases b
          · exact Or.inl ⟨p, z⟩
          · exact Or.inr ⟨p, z⟩
    · have hp : ∀ p, t p = t [] := fun p => hw [] p c1
      rw [if_neg c1]
      by_cases c0 : t [] = 0
      · rw [if_pos c0]
        simp
        intro p z
        rw [hp] at z; omega
      · rw [if_neg c0]
        simp
        constructor
        · intro z; exact ⟨[], by omega⟩
        · rintro ⟨p, z⟩; rw [hp] at z; omega
theorem oc_s : ∀ (d : Nat) (t : IT), dpt d t → oc (d + 1) t = oc d t := by
  intro d
  induction d with
  | zero =>
    intro t hd
    have h1 : t [] ≠ 1 := hd [] (Nat.le_refl _)
    rw [oc, oc, if_neg h1]
    by_cases c0 : t [] = 0
    · rw [if_pos c0, if_pos (by omega)]
    · rw [if_neg c0, if_neg (by omega)]
  | succ d ih =>
    intro t hd
    rw [oc]
    conv => rhs; rw [oc]
    by_cases c1 : t [] = 1
    · rw [if_pos c1, if_pos c1, ih _ (dpt_dw hd _), ih _ (dpt_dw hd _)]
    · rw [if_neg c1, if_neg c1]
theorem oc_le {d d' : Nat} {t : IT} (hd : dpt d t) (h : d ≤ d') : oc d' t = oc d t := by
  induction d' with
  | zero => obtain rfl : d = 0 := by omega
            rfl
  | succ d' ih =>
    rcases Nat.lt_or_ge d (d' + 1) with z | z
    · rw [oc_s d' t (dpt_mono (by omega) hd), ih (by omega)]
    · obtain rfl : d = d' + 1 := by omega
      rfl
def vs (vis : Nat → Bool) (r : Nat) : Nat → Bool := fun k => decide (k = r) || vis k
def unv (vis : Nat → Bool) (n : Nat) : Nat := cN (fun r => !vis r) n
theorem unv_s {vis : Nat → Bool} {r n : Nat} (hr : r < n) (h : vis r = false) : unv (vs vis r) n + 1 = unv vis n := by
  unfold unv
  induction n with
  | zero => omega
  | succ n ih =>
    rw [cN, cN]
    by_cases e : r = n
    · subst e
      have h1 : cN (fun k => !vs vis r k) r = cN (fun k => !vis k) r := cN_cg r (fun i hi => by unfold vs; simp [show ¬ i = r by omega])
      have h2 : (!vs vis r r) = false := by simp [vs]
      have h3 : (!vis r) = true := by rw [h]; rfl
      rw [h1, h2, h3, if_neg (by decide), if_pos rfl]
    · have := ih (by omega)
      have h2 : (!vs vis r n) = !vis n := by simp [vs, show ¬ n = r from fun z => e z.symm]
      rw [h2]
      omega
/-- what was visited is all told, but for what is under way -/
def cpl (G : SG) (V : List Nat) (vis : Nat → Bool) (X : List Nat) : Prop := (∀ r, vis r = true → r ∉ X → ∀ p v, gT G r p = v + 2 → v ∈ V) ∧ (∀ r, r ∈ V → vis r = true)
section D
variable {β St : Type} {G : SG} {Lp : Nat → St → Option β} {R : St → List Nat → List Nat → (Nat → Bool) → Prop}
theorem dfs (hw : wfG G) (hskip : ∀ s k L V vis, R s (k :: L) V vis → k < gn G → vis (rt G k) = true → ∃ s', (∀ f, Lp (f + 1) s = Lp f s') ∧ R s' L V vis) (hopen : ∀ s k L V vis, R s (k :: L) V vis → k < gn G → vis (rt G k) = false → gso G (rt G k) = 0 → ∃ s', (∀ f, Lp (f + 1) s = Lp f s') ∧ R s' L (V ++ [rt G k]) (vs vis (rt G k))) (hstar : ∀ s k L V vis, R s (k :: L) V vis → k < gn G → vis (rt G k) = false → gso G (rt G k) = 1 → ∃ s', (∀ f, Lp (f + 1) s = Lp f s') ∧ R s' L V (vs vis (rt G k))) (harr : ∀ s k L V vis, R s (k :: L) V vis → k < gn G → vis (rt G k) = false → gso G (rt G k) = 2 → ∃ s', (∀ f, Lp (f + 1) s = Lp f s') ∧ R s' (gle G (rt G k) :: gri G (rt G k) :: L) V (vs vis (rt G k))) : ∀ (d k : Nat) (L V : List Nat) (vis : Nat → Bool) (X : List Nat) (s : St), k < gn G → dpt d (gT G k) → R s (k :: L) V vis → cpl G V vis X → (∀ r, r ∈ X → ¬ dpt d (gT G r)) → ∃ n s' vis', (∀ f, Lp (f + n) s = Lp f s') ∧ R s' L (ddp V (oc d (gT G k))) vis' ∧ cpl G (ddp V (oc d (gT G k))) vis' X ∧ n + 2 * unv vis' (gn G) ≤ 1 + 2 * unv vis (gn G) ∧ (∀ r, vis r = true → vis' r = true) := by
  intro d
  induction d with
  | zero =>
    intro k L V vis X s hk hd hR hc hX
    have hr := rt_lt hw hk
    have hT := gT_rt hw hk
    have hself : rt G (rt G k) = rt G k := rt_self (rt_root hw hk)
    cases hv : vis (rt G k) with
    | true =>
      obtain ⟨s', a1, a2⟩ := hskip s k L V vis hR hk hv
      have hin : ∀ r, r ∈ oc 0 (gT G k) → r ∈ V := by
        intro r h
        obtain ⟨p, hp⟩ := (oc_mem 0 _ (gT_wfT hw hk) hd r).mp h
        exact hc.1 (rt G k) hv (fun z => hX _ z (by rw [← hT]; exact hd)) p r (by rw [← hT]; exact hp)
      rw [ddp_skip _ _ hin]
      exact ⟨1, s', vis, a1, a2, hc, by omega, fun r z => z⟩
    | false =>
      have hu := unv_s hr hv
      have h1 : gT G k [] ≠ 1 := hd [] (Nat.le_refl _)
      rcases so3 hw hr with z | z | z
      · obtain ⟨s', a1, a2⟩ := hopen s k L V vis hR hk hv z
        have ek : gT G k = iV (rt G k) := gT_0 z
        have eo : oc 0 (gT G k) = [rt G k] := by rw [ek]; rfl
        have hnV : rt G k ∉ V := fun y => by rw [hc.2 _ y] at hv; cases hv
        rw [eo, ddp, if_neg hnV, ddp]
        refine ⟨1, s', _, a1, a2, ⟨fun r hr' hx p v hp => ?_, fun r hr' => ?_⟩, by omega, fun r y => by unfold vs; simp [y]⟩
        · by_cases e : r = rt G k
          · subst e
            rw [← hT, ek] at hp
            have : v = rt G k := by unfold iV at hp; omega
            rw [this]; simp
          · have : vis r = true := by unfold vs at hr'; simpa [e] using hr'
            exact List.mem_append_left _ (hc.1 r this hx p v hp)
        · rcases List.mem_append.mp hr' with y | y
          · unfold vs; simp [hc.2 r y]
          · rw [List.mem_singleton.mp y]; unfold vs; simp
      · obtain ⟨s', a1, a2⟩ := hstar s k L V vis hR hk hv z
        have ek : gT G k = iS := gT_1 z
        have eo : oc 0 (gT G k) = [] := by rw [ek]; rfl
        rw [eo, ddp]
        refine ⟨1, s', _, a1, a2, ⟨fun r hr' hx p v hp => ?_, fun r hr' => by unfold vs; simp [hc.2 r hr']⟩, by omega, fun r y => by unfold vs; simp [y]⟩
        by_cases e : r = rt G k
        · subst e
          rw [← hT, ek] at hp
          cases hp
        · have : vis r = true := by unfold vs at hr'; simpa [e] using hr'
          exact hc.1 r this hx p v hp
      · exact absurd (by rw [gT_2 z]; rfl) h1
  | succ d ih =>
    intro k L V vis X s hk hd hR hc hX
    by_cases hd' : dpt d (gT G k)
    · rw [oc_s d _ hd']
      exact ih k L V vis X s hk hd' hR hc (fun r hr' z => hX r hr' (dpt_mono (by omega) z))
    have hr := rt_lt hw hk
    have hT := gT_rt hw hk
    have hroot := rt_root hw hk
    cases hv : vis (rt G k) with
    | true =>
      obtain ⟨s', a1, a2⟩ := hskip s k L V vis hR hk hv
      have hin : ∀ r, r ∈ oc (d + 1) (gT G k) → r ∈ V := by
        intro r h
        obtain ⟨p, hp⟩ := (oc_mem (d + 1) _ (gT_wfT hw hk) hd r).mp h
        exact hc.1 (rt G k) hv (fun z => hX _ z (by rw [← hT]; exact hd)) p r (by rw [← hT]; exact hp)
      rw [ddp_skip _ _ hin]
      exact ⟨1, s', vis, a1, a2, hc, by omega, fun r z => z⟩
    | false =>
      have hu := unv_s hr hv
      rcases so3 hw hr with z | z | z
      · exfalso
        apply hd'
        rw [gT_0 z]; exact dpt_V _ _
      · exfalso
        apply hd'
        rw [gT_1 z]; exact dpt_S _
      · obtain ⟨s1, a1, a2⟩ := harr s k L V vis hR hk hv z
        have ek : gT G k = iA (gT G (gle G (rt G k))) (gT G (gri G (rt G k))) := gT_2 z
        obtain ⟨dl, dr⟩ := (hw.1 _ hr).2.2 z
        have hdl : dpt d (gT G (gle G (rt G k))) := by have := dpt_dw hd false; rw [ek] at this; exact this
        have hdr : dpt d (gT G (gri G (rt G k))) := by have := dpt_dw hd true; rw [ek] at this; exact this
        have eo : oc (d + 1) (gT G k) = oc d (gT G (gle G (rt G k))) ++ oc d (gT G (gri G (rt G k))) := by
          rw [oc, ek]; rfl
        have hc1 : cpl G V (vs vis (rt G k)) (rt G k :: X) := by
          refine ⟨fun r hr' hx p v hp => ?_, fun r hr' => by unfold vs; simp [hc.2 r hr']⟩
          have hne : r ≠ rt G k := fun e => hx (by rw [e]; exact List.mem_cons_self)
          have : vis r = true := by unfold vs at hr'; simpa [hne] using hr'
          exact hc.1 r this (fun y => hx (List.mem_cons_of_mem _ y)) p v hp
        have hX1 : ∀ r, r ∈ rt G k :: X → ¬ dpt d (gT G r) := by
          intro r hr' y
          rcases List.mem_cons.mp hr' with e | e
          · subst e; rw [← hT] at y; exact hd' y
          · exact hX r e (dpt_mono (by omega) y)
        obtain ⟨n1, s2, v2, b1, b2, b3, b4, b5⟩ := ih _ _ V _ (rt G k :: X) s1 dl hdl a2 hc1 hX1
        obtain ⟨n2, s3, v3, c1, c2, c3, c4, c5⟩ := ih _ _ _ v2 (rt G k :: X) s2 dr hdr b2 b3 hX1
        rw [eo, ddp_app]
        refine ⟨n2 + n1 + 1, s3, v3, fun f => ?_, c2, ⟨fun r hr' hx p v hp => ?_, c3.2⟩, by omega, fun r y => c5 r (b5 r (by unfold vs; simp [y]))⟩
        · rw [show f + (n2 + n1 + 1) = (f + n2 + n1) + 1 by omega, a1, b1, c1]
        · by_cases e : r = rt G k
          · subst e
            rw [← hT] at hp
            have : v ∈ oc (d + 1) (gT G k) := (oc_mem (d + 1) _ (gT_wfT hw hk) hd v).mpr ⟨p, hp⟩
            rw [eo] at this
            rw [← ddp_app, ddp_mem]
            exact Or.inr this
          · exact c3.1 r hr' (fun y => by
              rcases List.mem_cons.mp y with w | w
              · exact e w
              · exact hx w) p v hp
end D
