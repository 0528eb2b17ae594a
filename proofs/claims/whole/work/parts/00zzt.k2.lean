/-! Stores of kinds, in themselves. Own text. -/
abbrev SG : Type := Nat × (Nat → Nat) × (Nat → Nat) × (Nat → Nat) × (Nat → Nat)
def gn (G : SG) : Nat := G.1
def gso (G : SG) : Nat → Nat := G.2.1
def gle (G : SG) : Nat → Nat := G.2.2.1
def gri (G : SG) : Nat → Nat := G.2.2.2.1
def gup (G : SG) : Nat → Nat := G.2.2.2.2
/-- k comes to the root r in j steps -/
def chn (up : Nat → Nat) : Nat → Nat → Nat → Prop
  | 0, k, r => k = r ∧ up r = r
  | j + 1, k, r => up k ≠ k ∧ chn up j (up k) r
def fnd (up : Nat → Nat) : Nat → Nat → Nat
  | 0, k => k
  | f + 1, k => if up k = k then k else fnd up f (up k)
theorem ch_fnd {up : Nat → Nat} : ∀ (j f k r : Nat), chn up j k r → j ≤ f → fnd up f k = r := by
  intro j
  induction j with
  | zero =>
    intro f k r h hf
    obtain ⟨h1, h2⟩ := h
    subst h1
    cases f with
    | zero => rfl
    | succ f => rw [fnd, if_pos h2]
  | succ j ih =>
    intro f k r h hf
    obtain ⟨f, rfl⟩ : ∃ f', f = f' + 1 := ⟨f - 1, by omega⟩
    rw [fnd, if_neg h.1]
    exact ih f (up k) r h.2 (by omega)
theorem ch_root {up : Nat → Nat} : ∀ (j k r : Nat), chn up j k r → up r = r := by
  intro j
  induction j with
  | zero => intro k r h; exact h.2
  | succ j ih => intro k r h; exact ih _ r h.2
def nrt (G : SG) : Nat := cN (fun k => decide (gup G k ≠ k)) (gn G)
def wfG (G : SG) : Prop := (∀ k, k < gn G → gso G k ≤ 2 ∧ gup G k < gn G ∧ (gso G k = 2 → gle G k < gn G ∧ gri G k < gn G)) ∧ (∀ k, k < gn G → ∃ j r, chn (gup G) j k r ∧ r < gn G ∧ j ≤ nrt G)
def rt (G : SG) (k : Nat) : Nat := fnd (gup G) (gn G) k
theorem nrt_le (G : SG) : nrt G ≤ gn G := cN_le _ _
section S
variable {G : SG}
theorem rt_ch (h : wfG G) {k : Nat} (hk : k < gn G) : ∃ j, chn (gup G) j k (rt G k) ∧ j ≤ nrt G ∧ rt G k < gn G := by
  obtain ⟨j, r, h1, h2, h3⟩ := h.2 k hk
  have : rt G k = r := ch_fnd j (gn G) k r h1 (Nat.le_trans h3 (nrt_le G))
  rw [this]
  exact ⟨j, h1, h3, h2⟩
theorem rt_root (h : wfG G) {k : Nat} (hk : k < gn G) : gup G (rt G k) = rt G k := by
  obtain ⟨j, h1, _⟩ := rt_ch h hk
  exact ch_root j k _ h1
theorem rt_lt (h : wfG G) {k : Nat} (hk : k < gn G) : rt G k < gn G := by
  obtain ⟨j, _, _, h1⟩ := rt_ch h hk
  exact h1
theorem rt_self {k : Nat} (h : gup G k = k) : rt G k = k := by
  unfold rt
  cases gn G with
  | zero => rfl
  | succ n => rw [fnd, if_pos h]
theorem rt_up (h : wfG G) {k : Nat} (hk : k < gn G) : rt G (gup G k) = rt G k := by
  obtain ⟨j, h1, h2, _⟩ := rt_ch h hk
  cases j with
  | zero =>
    obtain ⟨e1, e2⟩ := h1
    rw [← e1] at e2
    rw [e2]
  | succ j => exact ch_fnd j _ _ _ h1.2 (by have := nrt_le G; omega)
theorem rt_of {j k r : Nat} (h : chn (gup G) j k r) (hj : j ≤ gn G) : rt G k = r := ch_fnd j _ _ _ h hj
/-- the tree of a kind, what is open by its number -/
def gen (G : SG) : List Bool → Nat → Nat
  | [], k => if gso G (rt G k) = 1 then 0 else if gso G (rt G k) = 2 then 1 else rt G k + 2
  | b :: q, k => if gso G (rt G k) = 1 then 0 else if gso G (rt G k) = 2 then gen G q (if b = true then gri G (rt G k) else gle G (rt G k)) else rt G k + 2
def gT (G : SG) (k : Nat) : IT := fun p => gen G p k
theorem gT_1 {k : Nat} (h : gso G (rt G k) = 1) : gT G k = iS := by
  funext p
  cases p with
  | nil => show gen G [] k = 0; rw [gen, if_pos h]
  | cons b q => show gen G (b :: q) k = 0; rw [gen, if_pos h]
theorem gT_2 {k : Nat} (h : gso G (rt G k) = 2) : gT G k = iA (gT G (gle G (rt G k))) (gT G (gri G (rt G k))) := by
  funext p
  cases p with
  | nil => show gen G [] k = 1; rw [gen, if_neg (by rw [h]; decide), if_pos h]
  | cons b q =>
    show gen G (b :: q) k = _
    rw [gen, if_neg (by rw [h]; decide), if_pos h]
    cases b <;> rfl
theorem gT_0 {k : Nat} (h : gso G (rt G k) = 0) : gT G k = iV (rt G k) := by
  funext p
  cases p with
  | nil => show gen G [] k = _; rw [gen, if_neg (by rw [h]; decide), if_neg (by rw [h]; decide)]; rfl
  | cons b q => show gen G (b :: q) k = _; rw [gen, if_neg (by rw [h]; decide), if_neg (by rw [h]; decide)]; rfl
theorem so3 (h : wfG G) {k : Nat} (hk : k < gn G) : gso G k = 0 ∨ gso G k = 1 ∨ gso G k = 2 := by
  have := (h.1 k hk).1
  omega
theorem gT_rt (h : wfG G) {k : Nat} (hk : k < gn G) : gT G k = gT G (rt G k) := by
  have e : rt G (rt G k) = rt G k := rt_self (rt_root h hk)
  rcases so3 h (rt_lt h hk) with z | z | z
  · rw [gT_0 z, gT_0 (k := rt G k) (by rw [e]; exact z), e]
  · rw [gT_1 z, gT_1 (k := rt G k) (by rw [e]; exact z)]
  · rw [gT_2 z, gT_2 (k := rt G k) (by rw [e]; exact z), e]
theorem gT_wf (h : wfG G) : ∀ (p q : List Bool) (k : Nat), k < gn G → gT G k p ≠ 1 → gT G k (p ++ q) = gT G k p := by
  intro p
  induction p with
  | nil =>
    intro q k hk hp
    rcases so3 h (rt_lt h hk) with z | z | z
    · rw [gT_0 z]; rfl
    · rw [gT_1 z]; rfl
    · rw [gT_2 z] at hp; exact absurd rfl hp
  | cons b p ih =>
    intro q k hk hp
    rcases so3 h (rt_lt h hk) with z | z | z
    · rw [gT_0 z]; rfl
    · rw [gT_1 z]; rfl
    · obtain ⟨a1, a2⟩ := (h.1 _ (rt_lt h hk)).2.2 z
      rw [gT_2 z] at hp ⊢
      cases b
      · exact ih q _ a1 hp
      · exact ih q _ a2 hp
theorem gT_wfT (h : wfG G) {k : Nat} (hk : k < gn G) : wfT (gT G k) := fun p q hp => gT_wf h p q k hk hp
/-- what makes all of a store true -/
def Sol (G : SG) (v : Nat → IT) : Prop := ∀ k, k < gn G → v k = v (gup G k) ∧ (gup G k = k → (gso G k = 1 → v k = iS) ∧ (gso G k = 2 → v k = iA (v (gle G k)) (v (gri G k))))
theorem sol_ch {v : Nat → IT} (h : wfG G) (hv : Sol G v) : ∀ (j k r : Nat), k < gn G → chn (gup G) j k r → v k = v r := by
  intro j
  induction j with
  | zero => intro k r _ hc; rw [hc.1]
  | succ j ih =>
    intro k r hk hc
    rw [(hv k hk).1]
    exact ih _ r (h.1 k hk).2.1 hc.2
theorem sol_rt {v : Nat → IT} (h : wfG G) (hv : Sol G v) {k : Nat} (hk : k < gn G) : v k = v (rt G k) := by
  obtain ⟨j, h1, _⟩ := rt_ch h hk
  exact sol_ch h hv j k _ hk h1
theorem sT_sol (h : wfG G) (θ : Nat → IT) : Sol G (fun k => sT θ (gT G k)) := by
  intro k hk
  refine ⟨?_, fun hr => ⟨fun hs => ?_, fun hs => ?_⟩⟩
  · show sT θ (gT G k) = sT θ (gT G (gup G k))
    rw [gT_rt h hk, gT_rt h (h.1 k hk).2.1, rt_up h hk]
  · show sT θ (gT G k) = iS
    rw [gT_1 (by rw [rt_self hr]; exact hs), sT_S]
  · show sT θ (gT G k) = _
    rw [gT_2 (by rw [rt_self hr]; exact hs), sT_A, rt_self hr]
theorem gT_sol (h : wfG G) : Sol G (gT G) := by
  intro k hk
  refine ⟨?_, fun hr => ⟨fun hs => gT_1 (by rw [rt_self hr]; exact hs), fun hs => ?_⟩⟩
  · rw [gT_rt h hk, gT_rt h (h.1 k hk).2.1, rt_up h hk]
  · rw [gT_2 (by rw [rt_self hr]; exact hs), rt_self hr]
theorem sol_at {v : Nat → IT} (h : wfG G) (hv : Sol G v) : ∀ (p : List Bool) (k : Nat), k < gn G → v k p = sT v (gT G k) p := by
  intro p
  induction p with
  | nil =>
    intro k hk
    have hr := rt_root h hk
    have hl := rt_lt h hk
    rw [sol_rt h hv hk]
    rcases so3 h hl with z | z | z
    · rw [gT_0 z, sT_V]
    · rw [gT_1 z, sT_S, ((hv _ hl).2 hr).1 z]
    · rw [gT_2 z, sT_A, ((hv _ hl).2 hr).2 z]; rfl
  | cons b q ih =>
    intro k hk
    have hr := rt_root h hk
    have hl := rt_lt h hk
    rw [sol_rt h hv hk]
    rcases so3 h hl with z | z | z
    · rw [gT_0 z, sT_V]
    · rw [gT_1 z, sT_S, ((hv _ hl).2 hr).1 z]
    · obtain ⟨a1, a2⟩ := (h.1 _ hl).2.2 z
      rw [gT_2 z, sT_A, ((hv _ hl).2 hr).2 z]
      cases b
      · exact ih _ a1
      · exact ih _ a2
theorem sol_gen {v : Nat → IT} (h : wfG G) (hv : Sol G v) {k : Nat} (hk : k < gn G) : v k = sT v (gT G k) := funext (fun p => sol_at h hv p k hk)
/-- all kinds end -/
def AFn (G : SG) : Prop := ∃ h, ∀ k, k < gn G → dpt h (gT G k)
theorem sol_dpt {v : Nat → IT} (h : wfG G) (hv : Sol G v) {k d : Nat} (hk : k < gn G) (g : dpt d (v k)) : dpt d (gT G k) := by
  rw [sol_gen h hv hk] at g
  exact dpt_of (gT_wfT h hk) g
/-- a link more -/
def lkG (G : SG) (a b : Nat) : SG := (gn G, gso G, gle G, gri G, fun k => if k = a then b else gup G k)
theorem ch_lk {up : Nat → Nat} {a b : Nat} (hab : a ≠ b) (ha : up a = a) (hb : up b = b) : ∀ (j k r : Nat), chn up j k r → (r ≠ a → chn (fun k => if k = a then b else up k) j k r) ∧ (r = a → chn (fun k => if k = a then b else up k) (j + 1) k b) := by
  intro j
  induction j with
  | zero =>
    intro k r h
    obtain ⟨h1, h2⟩ := h
    subst h1
    refine ⟨fun hr => ⟨rfl, by simp only [if_neg hr]; exact h2⟩, fun hr => ?_⟩
    subst hr
    refine ⟨by simp only [if_true]; exact fun z => hab z.symm, ?_⟩
    simp only [if_true]
    exact ⟨rfl, by simp only [if_neg (fun z : b = k => hab z.symm)]; exact hb⟩
  | succ j ih =>
    intro k r h
    obtain ⟨h1, h2⟩ := h
    have hka : k ≠ a := fun z => h1 (by rw [z]; exact ha)
    obtain ⟨i1, i2⟩ := ih (up k) r h2
    refine ⟨fun hr => ⟨by simp only [if_neg hka]; exact h1, ?_⟩, fun hr => ⟨by simp only [if_neg hka]; exact h1, ?_⟩⟩
    · simp only [if_neg hka]; exact i1 hr
    · simp only [if_neg hka]; exact i2 hr
theorem nrt_lk {a b : Nat} (ha : a < gn G) (hra : gup G a = a) (hab : a ≠ b) : nrt (lkG G a b) = nrt G + 1 := by
  have key : ∀ d, a < d → cN (fun k => decide ((if k = a then b else gup G k) ≠ k)) d = cN (fun k => decide (gup G k ≠ k)) d + 1 := by
    have low : ∀ d, d ≤ a → cN (fun k => decide ((if k = a then b else gup G k) ≠ k)) d = cN (fun k => decide (gup G k ≠ k)) d := by
      intro d
      induction d with
      | zero => intro _; rfl
      | succ d ih =>
        intro hd
        rw [cN, cN, ih (by omega), if_neg (show ¬ d = a by omega)]
    intro d
    induction d with
    | zero => intro hd; omega
    | succ d ih =>
      intro hd
      rw [cN, cN]
      by_cases e : d = a
      · subst e
        rw [low d (Nat.le_refl _), if_pos rfl]
        have q1 : decide (b ≠ d) = true := by simp; exact fun z => hab z.symm
        have q2 : ¬ decide (gup G d ≠ d) = true := by simp; exact hra
        rw [if_pos q1, if_neg q2]
      · rw [ih (by omega), if_neg e]; omega
  exact key (gn G) ha
theorem lk_wf (h : wfG G) {a b : Nat} (ha : a < gn G) (hb : b < gn G) (hab : a ≠ b) (hra : gup G a = a) (hrb : gup G b = b) : wfG (lkG G a b) := by
  refine ⟨fun k hk => ?_, fun k hk => ?_⟩
  · obtain ⟨a1, a2, a3⟩ := h.1 k hk
    refine ⟨a1, ?_, a3⟩
    show (if k = a then b else gup G k) < gn G
    split
    · exact hb
    · exact a2
  · obtain ⟨j, r, h1, h2, h3⟩ := h.2 k hk
    rw [nrt_lk ha hra hab]
    obtain ⟨c1, c2⟩ := ch_lk hab hra hrb j k r h1
    by_cases e : r = a
    · exact ⟨j + 1, b, c2 e, hb, by omega⟩
    · exact ⟨j, r, c1 e, h2, by omega⟩
theorem lk_1 (h : wfG G) {a b : Nat} (ha : a < gn G) (hb : b < gn G) (hab : a ≠ b) (hra : gup G a = a) (hrb : gup G b = b) (hs : gso G a = 0 ∨ (gso G a = 1 ∧ gso G b = 1)) (v : Nat → IT) : Sol (lkG G a b) v ↔ Sol G v ∧ v a = v b := by
  have hup : ∀ k, gup (lkG G a b) k = if k = a then b else gup G k := fun _ => rfl
  constructor
  · intro hv
    have hva : v a = v b := by
      have := (hv a ha).1
      rw [hup, if_pos rfl] at this; exact this
    refine ⟨fun k hk => ?_, hva⟩
    by_cases e : k = a
    · subst e
      rw [hra]
      refine ⟨rfl, fun _ => ⟨fun h1 => ?_, fun h2 => by omega⟩⟩
      have hsb : gso G b = 1 := by omega
      rw [hva]
      have := ((hv b hb).2 (by rw [hup, if_neg (fun z => hab z.symm)]; exact hrb)).1
      exact this hsb
    · have := hv k hk
      rw [hup, if_neg e] at this
      exact this
  · rintro ⟨hv, hva⟩ k hk
    rw [hup]
    by_cases e : k = a
    · subst e
      rw [if_pos rfl]
      exact ⟨hva, fun z => absurd z.symm hab⟩
    · rw [if_neg e]
      exact hv k hk
theorem lk_2 (h : wfG G) {a b : Nat} (ha : a < gn G) (hb : b < gn G) (hab : a ≠ b) (hra : gup G a = a) (hrb : gup G b = b) (hsa : gso G a = 2) (hsb : gso G b = 2) (v : Nat → IT) : (Sol (lkG G a b) v ∧ v (gle G a) = v (gle G b) ∧ v (gri G a) = v (gri G b)) ↔ Sol G v ∧ v a = v b := by
  have hup : ∀ k, gup (lkG G a b) k = if k = a then b else gup G k := fun _ => rfl
  constructor
  · rintro ⟨hv, hl, hr⟩
    have hva : v a = v b := by
      have := (hv a ha).1
      rw [hup, if_pos rfl] at this; exact this
    refine ⟨fun k hk => ?_, hva⟩
    by_cases e : k = a
    · subst e
      rw [hra]
      refine ⟨rfl, fun _ => ⟨fun h1 => by omega, fun h2 => ?_⟩⟩
      have := ((hv b hb).2 (by rw [hup, if_neg (fun z => hab z.symm)]; exact hrb)).2 hsb
      rw [hva, this, hl, hr]; rfl
    · have := hv k hk
      rw [hup, if_neg e] at this
      exact this
  · rintro ⟨hv, hva⟩
    have e1 := ((hv a ha).2 hra).2 hsa
    have e2 := ((hv b hb).2 hrb).2 hsb
    rw [e1, e2] at hva
    obtain ⟨i1, i2⟩ := iA_inj hva
    refine ⟨fun k hk => ?_, i1, i2⟩
    rw [hup]
    by_cases e : k = a
    · subst e
      rw [if_pos rfl]
      exact ⟨by rw [e1, e2, i1, i2], fun z => absurd z.symm hab⟩
    · rw [if_neg e]
      exact hv k hk
/-- a star is no arrow -/
theorem no_sol (h : wfG G) {a b : Nat} (ha : a < gn G) (hb : b < gn G) (hra : gup G a = a) (hrb : gup G b = b) (h1 : gso G a = 1) (h2 : gso G b = 2) {v : Nat → IT} (hv : Sol G v) : v a ≠ v b := by
  rw [((hv a ha).2 hra).1 h1, ((hv b hb).2 hrb).2 h2]
  exact iS_iA
end S
/-- solving an equation: what is left ends, if its one side does -/
theorem af_step {G H : SG} (hG : wfG G) (hH : wfG H) (hn : gn H = gn G) {x y : Nat} (hx : x < gn G) (hy : y < gn G) (hs : ∀ v, Sol H v ↔ Sol G v ∧ v x = v y) {d : Nat} (hd : dpt d (gT H x)) {k h : Nat} (hk : k < gn G) (hh : dpt h (gT G k)) : dpt (h + d) (gT H k) := by
  obtain ⟨s1, s2⟩ := (hs _).mp (gT_sol hH)
  have ex := sol_gen hG s1 hx
  have ey := sol_gen hG s1 hy
  have hex : ∀ r, ∃ t : IT, ((∃ p, gT G x p = r + 2) ∨ (∃ p, gT G y p = r + 2) → t = gT H r) ∧ dpt d t := by
    intro r
    rcases Classical.em ((∃ p, gT G x p = r + 2) ∨ (∃ p, gT G y p = r + 2)) with z | z
    · refine ⟨gT H r, fun _ => rfl, ?_⟩
      rcases z with ⟨p, hp⟩ | ⟨p, hp⟩
      · obtain ⟨p1, hp1⟩ := sT_at (gT H) p _ r (gT_wfT hG hx) hp
        refine dpt_sub (p := p1) hd (fun q => ?_)
        rw [ex, hp1 q]
      · obtain ⟨p1, hp1⟩ := sT_at (gT H) p _ r (gT_wfT hG hy) hp
        refine dpt_sub (p := p1) hd (fun q => ?_)
        rw [s2, ey, hp1 q]
    · exact ⟨iS, fun y => absurd y z, dpt_S d⟩
  obtain ⟨θ, hθ⟩ := Classical.axiomOfChoice hex
  have kx : sT θ (gT G x) = gT H x := by
    rw [ex]
    funext p
    exact sT_cg p _ (gT_wfT hG hx) (fun q r hr => (hθ r).1 (Or.inl ⟨q, hr⟩))
  have ky : sT θ (gT G y) = gT H y := by
    rw [ey]
    funext p
    exact sT_cg p _ (gT_wfT hG hy) (fun q r hr => (hθ r).1 (Or.inr ⟨q, hr⟩))
  have hsol : Sol H (fun k => sT θ (gT G k)) := (hs _).mpr ⟨sT_sol hG θ, by show sT θ (gT G x) = sT θ (gT G y); rw [kx, ky, s2]⟩
  refine sol_dpt hH hsol (by rw [hn]; exact hk) ?_
  exact sT_dpt (fun r => (hθ r).2) h _ (gT_wfT hG hk) hh
