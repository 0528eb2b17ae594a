/-! Kinds as trees without end: a label at each path. Own text. -/
abbrev IT : Type := List Bool → Nat
def iS : IT := fun _ => 0
def iV (r : Nat) : IT := fun _ => r + 2
def iA (l r : IT) : IT
  | [] => 1
  | false :: q => l q
  | true :: q => r q
def dw (t : IT) (b : Bool) : IT := fun q => t (b :: q)
theorem iA_inj {l r l' r' : IT} (h : iA l r = iA l' r') : l = l' ∧ r = r' :=
  ⟨funext (fun q => congrFun h (false :: q)), funext (fun q => congrFun h (true :: q))⟩
theorem iA_dw {t : IT} (h : t [] = 1) : t = iA (dw t false) (dw t true) := by
  funext p
  cases p with
  | nil => exact h
  | cons b q => cases b <;> rfl
theorem iS_iA {l r : IT} : iS ≠ iA l r := fun h => Nat.noConfusion (show 0 = 1 from congrFun h [])
/-- open ones replaced -/
def sbT (θ : Nat → IT) : List Bool → IT → Nat
  | [], t => if t [] = 1 then 1 else if t [] = 0 then 0 else θ (t [] - 2) []
  | b :: q, t => if t [] = 1 then sbT θ q (dw t b) else if t [] = 0 then 0 else θ (t [] - 2) (b :: q)
def sT (θ : Nat → IT) (t : IT) : IT := fun p => sbT θ p t
theorem sT_S (θ : Nat → IT) : sT θ iS = iS := by
  funext p; cases p <;> rfl
theorem sT_V (θ : Nat → IT) (r : Nat) : sT θ (iV r) = θ r := by
  funext p
  cases p with
  | nil =>
    show sbT θ [] (iV r) = _
    rw [sbT, if_neg (show ¬ iV r [] = 1 by unfold iV; omega), if_neg (show ¬ iV r [] = 0 by unfold iV; omega)]
    rfl
  | cons b q =>
    show sbT θ (b :: q) (iV r) = _
    rw [sbT, if_neg (show ¬ iV r [] = 1 by unfold iV; omega), if_neg (show ¬ iV r [] = 0 by unfold iV; omega)]
    rfl
theorem sT_1 (θ : Nat → IT) {t : IT} (h : t [] = 1) : sT θ t = iA (sT θ (dw t false)) (sT θ (dw t true)) := by
  funext p
  cases p with
  | nil =>
    show sbT θ [] t = 1
    rw [sbT, if_pos h]
  | cons b q =>
    show sbT θ (b :: q) t = _
    rw [sbT, if_pos h]
    cases b <;> rfl
theorem sT_A (θ : Nat → IT) (l r : IT) : sT θ (iA l r) = iA (sT θ l) (sT θ r) := sT_1 θ rfl
theorem sT_0 (θ : Nat → IT) {t : IT} (h : t [] = 0) : sT θ t = iS := by
  funext p
  cases p with
  | nil => show sbT θ [] t = 0; rw [sbT, if_neg (by rw [h]; decide), if_pos h]
  | cons b q => show sbT θ (b :: q) t = 0; rw [sbT, if_neg (by rw [h]; decide), if_pos h]
theorem sT_2 (θ : Nat → IT) {t : IT} {r : Nat} (h : t [] = r + 2) : sT θ t = θ r := by
  funext p
  cases p with
  | nil => show sbT θ [] t = _; rw [sbT, if_neg (by rw [h]; omega), if_neg (by rw [h]; omega), h]; rfl
  | cons b q => show sbT θ (b :: q) t = _; rw [sbT, if_neg (by rw [h]; omega), if_neg (by rw [h]; omega), h]; rfl
/-- what stands behind a leaf is the leaf -/
def wfT (t : IT) : Prop := ∀ p q, t p ≠ 1 → t (p ++ q) = t p
theorem wfT_dw {t : IT} (h : wfT t) (b : Bool) : wfT (dw t b) := fun p q hp => h (b :: p) q hp
theorem wfT_S : wfT iS := fun _ _ _ => rfl
theorem wfT_V (r : Nat) : wfT (iV r) := fun _ _ _ => rfl
theorem wfT_A {l r : IT} (hl : wfT l) (hr : wfT r) : wfT (iA l r) := by
  intro p q h
  cases p with
  | nil => exact absurd rfl h
  | cons b p => cases b
                · exact hl p q h
                · exact hr p q h
theorem wfT_0 {t : IT} (h : wfT t) (h0 : t [] = 0) : t = iS := funext (fun p => (h [] p (by rw [h0]; decide)).trans h0)
theorem wfT_2 {t : IT} (h : wfT t) {r : Nat} (h0 : t [] = r + 2) : t = iV r := funext (fun p => (h [] p (by rw [h0]; omega)).trans h0)
theorem lab3 (x : Nat) : x = 0 ∨ x = 1 ∨ ∃ r, x = r + 2 := by
  rcases Nat.lt_or_ge x 2 with h | h
  · rcases Nat.lt_or_ge x 1 with h1 | h1
    · exact Or.inl (by omega)
    · exact Or.inr (Or.inl (by omega))
  · exact Or.inr (Or.inr ⟨x - 2, by omega⟩)
/-- no arrow at depth h or below -/
def dpt (h : Nat) (t : IT) : Prop := ∀ p : List Bool, h ≤ p.length → t p ≠ 1
theorem dpt_mono {h h' : Nat} {t : IT} (hh : h ≤ h') (g : dpt h t) : dpt h' t := fun p hp => g p (by omega)
theorem dpt_S (h : Nat) : dpt h iS := fun _ _ z => Nat.noConfusion (show 0 = 1 from z)
theorem dpt_V (h r : Nat) : dpt h (iV r) := fun p _ z => by unfold iV at z; omega
theorem dpt_A {h : Nat} {l r : IT} (hl : dpt h l) (hr : dpt h r) : dpt (h + 1) (iA l r) := by
  intro p hp
  cases p with
  | nil => simp at hp
  | cons b q =>
    simp only [List.length_cons] at hp
    cases b
    · exact hl q (by omega)
    · exact hr q (by omega)
theorem dpt_dw {h : Nat} {t : IT} (g : dpt (h + 1) t) (b : Bool) : dpt h (dw t b) := fun p hp => g (b :: p) (by simp only [List.length_cons]; omega)
theorem dpt_sub {h : Nat} {t u : IT} {p : List Bool} (g : dpt h t) (e : ∀ q, u q = t (p ++ q)) : dpt h u := by
  intro q hq
  rw [e q]
  exact g _ (by simp only [List.length_append]; omega)
/-- arrows stay arrows -/
theorem sT_arr (θ : Nat → IT) : ∀ (p : List Bool) (t : IT), wfT t → t p = 1 → sT θ t p = 1 := by
  intro p
  induction p with
  | nil => intro t _ h; rw [sT_1 θ h]; rfl
  | cons b q ih =>
    intro t hw h
    rcases lab3 (t []) with z | z | ⟨r, z⟩
    · have := hw [] (b :: q) (by rw [z]; decide)
      rw [List.nil_append, z, h] at this; cases this
    · rw [sT_1 θ z]
      cases b
      · exact ih (dw t false) (wfT_dw hw _) h
      · exact ih (dw t true) (wfT_dw hw _) h
    · have := hw [] (b :: q) (by rw [z]; omega)
      rw [List.nil_append, z, h] at this; omega
theorem dpt_of {θ : Nat → IT} {t : IT} {h : Nat} (hw : wfT t) (g : dpt h (sT θ t)) : dpt h t := fun p hp z => g p hp (sT_arr θ p t hw z)
theorem sT_cg {θ θ' : Nat → IT} : ∀ (p : List Bool) (t : IT), wfT t → (∀ q r, t q = r + 2 → θ r = θ' r) → sT θ t p = sT θ' t p := by
  intro p
  induction p with
  | nil =>
    intro t hw h
    rcases lab3 (t []) with z | z | ⟨r, z⟩
    · rw [sT_0 θ z, sT_0 θ' z]
    · rw [sT_1 θ z, sT_1 θ' z]; rfl
    · rw [sT_2 θ z, sT_2 θ' z, h [] r z]
  | cons b q ih =>
    intro t hw h
    rcases lab3 (t []) with z | z | ⟨r, z⟩
    · rw [sT_0 θ z, sT_0 θ' z]
    · rw [sT_1 θ z, sT_1 θ' z]
      cases b
      · exact ih (dw t false) (wfT_dw hw _) (fun q' r hr => h (false :: q') r hr)
      · exact ih (dw t true) (wfT_dw hw _) (fun q' r hr => h (true :: q') r hr)
    · rw [sT_2 θ z, sT_2 θ' z, h [] r z]
theorem sT_dpt {θ : Nat → IT} {h' : Nat} (hθ : ∀ r, dpt h' (θ r)) : ∀ (h : Nat) (t : IT), wfT t → dpt h t → dpt (h + h') (sT θ t) := by
  intro h
  induction h with
  | zero =>
    intro t hw g
    rcases lab3 (t []) with z | z | ⟨r, z⟩
    · rw [sT_0 θ z]; exact dpt_S _
    · exact absurd z (g [] (Nat.le_refl _))
    · rw [sT_2 θ z]; exact dpt_mono (by omega) (hθ r)
  | succ h ih =>
    intro t hw g
    rcases lab3 (t []) with z | z | ⟨r, z⟩
    · rw [sT_0 θ z]; exact dpt_S _
    · rw [sT_1 θ z, show h + 1 + h' = (h + h') + 1 by omega]
      exact dpt_A (ih _ (wfT_dw hw _) (dpt_dw g _)) (ih _ (wfT_dw hw _) (dpt_dw g _))
    · rw [sT_2 θ z]; exact dpt_mono (by omega) (hθ r)
/-- below an open one the replaced tree is what it was replaced by -/
theorem sT_at (θ : Nat → IT) : ∀ (p : List Bool) (t : IT) (r : Nat), wfT t → t p = r + 2 → ∃ p1, ∀ q, sT θ t (p1 ++ q) = θ r q := by
  intro p
  induction p with
  | nil => intro t r hw h; exact ⟨[], fun q => by rw [sT_2 θ h]; rfl⟩
  | cons b p ih =>
    intro t r hw h
    rcases lab3 (t []) with z | z | ⟨r', z⟩
    · have := hw [] (b :: p) (by rw [z]; decide)
      rw [List.nil_append, z, h] at this; omega
    · obtain ⟨p1, h1⟩ := ih (dw t b) r (wfT_dw hw b) h
      refine ⟨b :: p1, fun q => ?_⟩
      rw [sT_1 θ z, ← h1 q]
      cases b <;> rfl
    · have := hw [] (b :: p) (by rw [z]; omega)
      rw [List.nil_append, z, h] at this
      have : r' = r := by omega
      subst this
      exact ⟨[], fun q => by rw [sT_2 θ z]; rfl⟩
/-- all that is open made the star -/
def clT (t : IT) : IT := sT (fun _ => iS) t
/-- two trees that are each an instance of the other are alike but for the numbers of what is open -/
theorem ren {θ θ' : Nat → IT} : ∀ (p : List Bool) (t u : IT), wfT t → wfT u → u = sT θ t → t = sT θ' u → (t p = 0 ↔ u p = 0) ∧ (t p = 1 ↔ u p = 1) ∧ ∀ r, t p = r + 2 → ∃ s, u p = s + 2 ∧ θ r = iV s ∧ θ' s = iV r := by
  intro p
  induction p with
  | nil =>
    intro t u wt wu h1 h2
    rcases lab3 (t []) with z | z | ⟨r, z⟩
    · have e : u = iS := by rw [h1, sT_0 θ z]
      rw [e, z]
      exact ⟨⟨fun _ => rfl, fun _ => rfl⟩, ⟨fun y => by omega, fun y => absurd y (by decide)⟩, fun r hr => by omega⟩
    · have e : u [] = 1 := by rw [h1, sT_1 θ z]; rfl
      rw [e, z]
      exact ⟨⟨fun y => by omega, fun y => by omega⟩, ⟨fun _ => rfl, fun _ => rfl⟩, fun r hr => by omega⟩
    · have et : t = iV r := wfT_2 wt z
      have eu : u = θ r := by rw [h1, sT_2 θ z]
      rcases lab3 (u []) with y | y | ⟨s, y⟩
      · rw [h2, sT_0 θ' y] at z; exact absurd (show 0 = r + 2 from z) (by omega)
      · rw [h2, sT_1 θ' y] at z; exact absurd (show 1 = r + 2 from z) (by omega)
      · have eu2 : u = iV s := wfT_2 wu y
        have et2 : t = θ' s := by rw [h2, sT_2 θ' y]
        rw [z, y]
        refine ⟨⟨fun y => by omega, fun y => by omega⟩, ⟨fun y => by omega, fun y => by omega⟩, fun r' hr => ?_⟩
        have : r' = r := by omega
        subst this
        exact ⟨s, rfl, by rw [← eu, eu2], by rw [← et2, et]⟩
  | cons b q ih =>
    intro t u wt wu h1 h2
    rcases lab3 (t []) with z | z | ⟨r, z⟩
    · have e : u = iS := by rw [h1, sT_0 θ z]
      have et : t = iS := wfT_0 wt z
      rw [e, et]
      exact ⟨Iff.rfl, Iff.rfl, fun r hr => by unfold iS at hr; omega⟩
    · have e1 : u = iA (sT θ (dw t false)) (sT θ (dw t true)) := by rw [h1, sT_1 θ z]
      have eu : u [] = 1 := by rw [e1]; rfl
      have e2 : t = iA (sT θ' (dw u false)) (sT θ' (dw u true)) := h2.trans (sT_1 θ' eu)
      have k1 : ∀ b, dw u b = sT θ (dw t b) := by
        intro b
        have : dw u b = dw (iA (sT θ (dw t false)) (sT θ (dw t true))) b := by rw [← e1]
        rw [this]; cases b <;> rfl
      have k2 : ∀ b, dw t b = sT θ' (dw u b) := by
        intro b
        have : dw t b = dw (iA (sT θ' (dw u false)) (sT θ' (dw u true))) b := by rw [← e2]
        rw [this]; cases b <;> rfl
      exact ih (dw t b) (dw u b) (wfT_dw wt b) (wfT_dw wu b) (k1 b) (k2 b)
    · have et : t = iV r := wfT_2 wt z
      have eu : u = θ r := by rw [h1, sT_2 θ z]
      rcases lab3 (u []) with y | y | ⟨s, y⟩
      · rw [h2, sT_0 θ' y] at z; exact absurd (show 0 = r + 2 from z) (by omega)
      · rw [h2, sT_1 θ' y] at z; exact absurd (show 1 = r + 2 from z) (by omega)
      · have eu2 : u = iV s := wfT_2 wu y
        have et2 : t = θ' s := by rw [h2, sT_2 θ' y]
        have q1 : t (b :: q) = r + 2 := by rw [et]; rfl
        have q2 : u (b :: q) = s + 2 := by rw [eu2]; rfl
        rw [q1, q2]
        refine ⟨⟨fun y => by omega, fun y => by omega⟩, ⟨fun y => by omega, fun y => by omega⟩, fun r' hr => ?_⟩
        have : r' = r := by omega
        subst this
        exact ⟨s, rfl, by rw [← eu, eu2], by rw [← et2, et]⟩
theorem clT_at : ∀ (p : List Bool) (t : IT), wfT t → clT t p = if t p = 1 then 1 else 0 := by
  intro p
  induction p with
  | nil =>
    intro t hw
    unfold clT
    rcases lab3 (t []) with z | z | ⟨r, z⟩
    · rw [sT_0 _ z, z]; rfl
    · rw [sT_1 _ z, z]; rfl
    · rw [sT_2 _ z, z, if_neg (by omega)]; rfl
  | cons b q ih =>
    intro t hw
    unfold clT
    rcases lab3 (t []) with z | z | ⟨r, z⟩
    · rw [sT_0 _ z, wfT_0 hw z]; rfl
    · rw [sT_1 _ z]
      have := ih (dw t b) (wfT_dw hw b)
      cases b <;> exact this
    · rw [sT_2 _ z, wfT_2 hw z]
      have : ¬ iV r (b :: q) = 1 := by unfold iV; omega
      rw [if_neg this]; rfl
theorem clT_ren {θ θ' : Nat → IT} {t u : IT} (wt : wfT t) (wu : wfT u) (h1 : u = sT θ t) (h2 : t = sT θ' u) : clT t = clT u := by
  funext p
  rw [clT_at p t wt, clT_at p u wu]
  have := (ren p t u wt wu h1 h2).2.1
  by_cases h : t p = 1
  · rw [if_pos h, if_pos (this.mp h)]
  · rw [if_neg h, if_neg (fun z => h (this.mpr z))]
