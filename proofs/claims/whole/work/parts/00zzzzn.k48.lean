/-! What is alike but for numbers is shown alike. Own text. -/
def alk (ρ : Nat → Nat) (t u : IT) : Prop := ∀ p, (t p = 0 ∧ u p = 0) ∨ (t p = 1 ∧ u p = 1) ∨ ∃ r, t p = r + 2 ∧ u p = ρ r + 2
theorem alk_dw {ρ : Nat → Nat} {t u : IT} (h : alk ρ t u) (b : Bool) : alk ρ (dw t b) (dw u b) := fun p => h (b :: p)
theorem alk_1 {ρ : Nat → Nat} {t u : IT} (h : alk ρ t u) (p : List Bool) : t p = 1 ↔ u p = 1 := by
  rcases h p with ⟨a, b⟩ | ⟨a, b⟩ | ⟨r, a, b⟩ <;> rw [a, b]
  · constructor <;> intro z <;> omega
theorem alk_0 {ρ : Nat → Nat} {t u : IT} (h : alk ρ t u) (p : List Bool) : t p = 0 ↔ u p = 0 := by
  rcases h p with ⟨a, b⟩ | ⟨a, b⟩ | ⟨r, a, b⟩ <;> rw [a, b]
  · constructor <;> intro z <;> omega
theorem alk_v {ρ : Nat → Nat} {t u : IT} (h : alk ρ t u) {p : List Bool} {r : Nat} (hr : t p = r + 2) : u p = ρ r + 2 := by
  rcases h p with ⟨a, b⟩ | ⟨a, b⟩ | ⟨r', a, b⟩
  · omega
  · omega
  · have : r' = r := by omega
    rw [b, this]
theorem alk_dpt {ρ : Nat → Nat} {t u : IT} (h : alk ρ t u) {d : Nat} (hd : dpt d t) : dpt d u := fun p hp z => hd p hp ((alk_1 h p).mpr z)
theorem oc_map {ρ : Nat → Nat} : ∀ (d : Nat) (t u : IT), alk ρ t u → oc d u = (oc d t).map ρ := by
  intro d
  induction d with
  | zero =>
    intro t u h
    rw [oc, oc]
    rcases h [] with ⟨a, b⟩ | ⟨a, b⟩ | ⟨r, a, b⟩
    · rw [if_pos (by omega), if_pos (by omega)]; rfl
    · rw [if_pos (by omega), if_pos (by omega)]; rfl
    · rw [if_neg (by omega), if_neg (by omega), a, b]; rfl
  | succ d ih =>
    intro t u h
    rw [oc, oc]
    rcases h [] with ⟨a, b⟩ | ⟨a, b⟩ | ⟨r, a, b⟩
    · rw [if_neg (show ¬ u [] = 1 by omega), if_neg (show ¬ t [] = 1 by omega), if_pos b, if_pos a]; rfl
    · rw [if_pos b, if_pos a, ih _ _ (alk_dw h false), ih _ _ (alk_dw h true), List.map_append]
    · rw [if_neg (show ¬ u [] = 1 by omega), if_neg (show ¬ t [] = 1 by omega), if_neg (show ¬ u [] = 0 by omega), if_neg (show ¬ t [] = 0 by omega), a, b]; rfl
def inj2 (ρ : Nat → Nat) (S : Nat → Prop) : Prop := ∀ a b, S a → S b → ρ a = ρ b → a = b
theorem ddp_map {ρ : Nat → Nat} {S : Nat → Prop} (hi : inj2 ρ S) : ∀ (L V : List Nat), (∀ x, x ∈ L → S x) → (∀ x, x ∈ V → S x) → ddp (V.map ρ) (L.map ρ) = (ddp V L).map ρ
  | [], V, _, _ => rfl
  | r :: L, V, hL, hV => by
    rw [List.map_cons, ddp, ddp]
    have e : ρ r ∈ V.map ρ ↔ r ∈ V := by
      constructor
      · intro z
        obtain ⟨a, a1, a2⟩ := List.mem_map.mp z
        rw [← hi a r (hV a a1) (hL r List.mem_cons_self) a2]; exact a1
      · exact fun z => List.mem_map.mpr ⟨r, z, rfl⟩
    by_cases c : r ∈ V
    · rw [if_pos c, if_pos (e.mpr c)]
      exact ddp_map hi L V (fun x hx => hL x (List.mem_cons_of_mem _ hx)) hV
    · rw [if_neg c, if_neg (fun z => c (e.mp z)), show V.map ρ ++ [ρ r] = (V ++ [r]).map ρ by simp]
      refine ddp_map hi L (V ++ [r]) (fun x hx => hL x (List.mem_cons_of_mem _ hx)) (fun x hx => ?_)
      rcases List.mem_append.mp hx with y | y
      · exact hV x y
      · rw [List.mem_singleton.mp y]; exact hL r List.mem_cons_self
theorem idx_map {ρ : Nat → Nat} {S : Nat → Prop} (hi : inj2 ρ S) {r : Nat} (hr : S r) : ∀ (V : List Nat), (∀ x, x ∈ V → S x) → (V.map ρ).idxOf (ρ r) = V.idxOf r
  | [], _ => rfl
  | a :: V, hV => by
    rw [List.map_cons, List.idxOf_cons, List.idxOf_cons, idx_map hi hr V (fun x hx => hV x (List.mem_cons_of_mem _ hx))]
    by_cases c : a = r
    · rw [c]; simp
    · have h1 : (ρ a == ρ r) = false := by simp; exact fun z => c (hi a r (hV a List.mem_cons_self) hr z)
      have h2 : (a == r) = false := by simp; exact c
      rw [h1, h2]
theorem pr_map {ρ : Nat → Nat} {lt lt' : Nat → Int32} : ∀ (d : Nat) (t u : IT), alk ρ t u → (∀ p r, t p = r + 2 → lt r = lt' (ρ r)) → prT lt d t = prT lt' d u := by
  intro d
  induction d with
  | zero =>
    intro t u h hl
    rw [prT, prT]
    rcases h [] with ⟨a, b⟩ | ⟨a, b⟩ | ⟨r, a, b⟩
    · rw [if_pos (by omega), if_pos (by omega)]
    · rw [if_pos (by omega), if_pos (by omega)]
    · rw [if_neg (by omega), if_neg (by omega), a, b]
      show [lt r] = [lt' (ρ r)]
      rw [hl [] r a]
  | succ d ih =>
    intro t u h hl
    rw [prT, prT]
    rcases h [] with ⟨a, b⟩ | ⟨a, b⟩ | ⟨r, a, b⟩
    · rw [if_neg (show ¬ t [] = 1 by omega), if_neg (show ¬ u [] = 1 by omega), if_pos a, if_pos b]
    · rw [if_pos a, if_pos b, ih _ _ (alk_dw h false) (fun p r hp => hl (false :: p) r hp), ih _ _ (alk_dw h true) (fun p r hp => hl (true :: p) r hp)]
      have := alk_1 h [false]
      by_cases c : t [false] = 1
      · rw [if_pos c, if_pos (this.mp c)]
      · rw [if_neg c, if_neg (fun z => c (this.mpr z))]
    · rw [if_neg (show ¬ t [] = 1 by omega), if_neg (show ¬ u [] = 1 by omega), if_neg (show ¬ t [] = 0 by omega), if_neg (show ¬ u [] = 0 by omega), a, b]
      show [lt r] = [lt' (ρ r)]
      rw [hl [] r a]
/-- mutual instances are alike -/
theorem alk_ren {θ θ' : Nat → IT} {t u : IT} (wt : wfT t) (wu : wfT u) (h1 : u = sT θ t) (h2 : t = sT θ' u) : alk (fun r => θ r [] - 2) t u ∧ ∀ p r, t p = r + 2 → θ' (θ r [] - 2) = iV r := by
  have key := fun p => ren (θ := θ) (θ' := θ') p t u wt wu h1 h2
  refine ⟨fun p => ?_, fun p r hp => ?_⟩
  · obtain ⟨k0, k1, k2⟩ := key p
    rcases lab3 (t p) with z | z | ⟨r, z⟩
    · exact Or.inl ⟨z, k0.mp z⟩
    · exact Or.inr (Or.inl ⟨z, k1.mp z⟩)
    · obtain ⟨s, s1, s2, s3⟩ := k2 r z
      refine Or.inr (Or.inr ⟨r, z, ?_⟩)
      show u p = θ r [] - 2 + 2
      rw [s2, s1]
      rfl
  · obtain ⟨s, s1, s2, s3⟩ := (key p).2.2 r hp
    rw [s2]
    exact s3
theorem sides_eq {θ θ' : Nat → IT} {t1 t2 u1 u2 : IT} (wt1 : wfT t1) (wt2 : wfT t2) (wu1 : wfT u1) (wu2 : wfT u2) (h1 : u1 = sT θ t1) (h2 : t1 = sT θ' u1) (h3 : u2 = sT θ t2) (h4 : t2 = sT θ' u2) {d : Nat} (hd1 : dpt d t1) (hd2 : dpt d t2) : prT (ltV (V2 d t1 t2)) d t1 = prT (ltV (V2 d u1 u2)) d u1 ∧ prT (ltV (V2 d t1 t2)) d t2 = prT (ltV (V2 d u1 u2)) d u2 := by
  obtain ⟨a1, a2⟩ := alk_ren wt1 wu1 h1 h2
  obtain ⟨b1, b2⟩ := alk_ren wt2 wu2 h3 h4
  obtain ⟨ρ, hρ⟩ : ∃ ρ : Nat → Nat, ρ = fun r => θ r [] - 2 := ⟨_, rfl⟩
  rw [← hρ] at a1 b1
  obtain ⟨S, hS⟩ : ∃ S : Nat → Prop, S = fun r => (∃ p, t1 p = r + 2) ∨ (∃ p, t2 p = r + 2) := ⟨_, rfl⟩
  have hback : ∀ r, S r → θ' (ρ r) = iV r := by
    intro r hr
    rw [hS] at hr
    rw [hρ]
    rcases hr with ⟨p, hp⟩ | ⟨p, hp⟩
    · exact a2 p r hp
    · exact b2 p r hp
  have hinj : inj2 ρ S := by
    intro a b ha hb e
    have := hback a ha
    rw [e, hback b hb] at this
    have h := congrFun this []
    unfold iV at h
    omega
  have m1 : ∀ x, x ∈ oc d t1 → S x := fun x hx => by rw [hS]; exact Or.inl ((oc_mem d t1 wt1 hd1 x).mp hx)
  have m2 : ∀ x, x ∈ oc d t2 → S x := fun x hx => by rw [hS]; exact Or.inr ((oc_mem d t2 wt2 hd2 x).mp hx)
  have m0 : ∀ x, x ∈ ddp [] (oc d t1) → S x := by
    intro x hx
    rcases (ddp_mem _ _ _).mp hx with z | z
    · cases z
    · exact m1 x z
  have eV : V2 d u1 u2 = (V2 d t1 t2).map ρ := by
    have e1 : ddp [] (oc d u1) = (ddp [] (oc d t1)).map ρ := by
      have := ddp_map hinj (oc d t1) [] m1 (fun x hx => (by cases hx))
      rw [oc_map d t1 u1 a1]
      exact this
    unfold V2
    rw [e1, oc_map d t2 u2 b1]
    exact ddp_map hinj _ _ m2 m0
  have hSV : ∀ x, x ∈ V2 d t1 t2 → S x := by
    intro x hx
    rcases (ddp_mem _ _ _).mp hx with z | z
    · rcases (ddp_mem _ _ _).mp z with y | y
      · cases y
      · exact m1 x y
    · exact m2 x z
  have hlt : ∀ r, S r → ltV (V2 d t1 t2) r = ltV (V2 d u1 u2) (ρ r) := by
    intro r hr
    unfold ltV
    rw [eV, idx_map hinj hr _ hSV]
  exact ⟨pr_map d t1 u1 a1 (fun p r hp => hlt r (by rw [hS]; exact Or.inl ⟨p, hp⟩)), pr_map d t2 u2 b1 (fun p r hp => hlt r (by rw [hS]; exact Or.inr ⟨p, hp⟩))⟩
