/-! Stores and what they are asked: a list of equations. Own text. -/
def ev (α : Nat → IT) : TE → IT
  | .var 0 => iS
  | .var (n + 1) => α n
  | .op a b => iA (ev α a) (ev α b)
def Eqs (E : List (TE × TE)) (α : Nat → IT) : Prop := ∀ e, e ∈ E → ev α e.1 = ev α e.2
/-- H tells the equations E of what is open in dom, by m -/
def Rp (H : SG) (dom : Nat → Prop) (m : Nat → Nat) (E : List (TE × TE)) : Prop := wfG H ∧ (∃ h, ∀ x, dom x → dpt h (gT H (m x))) ∧ (∀ x, dom x → m x < gn H) ∧ (∀ α, Eqs E α → ∃ w, Sol H w ∧ ∀ x, dom x → w (m x) = α x) ∧ (∀ w, Sol H w → ∀ α, (∀ x, dom x → α x = w (m x)) → Eqs E α)
/-- y is e there -/
def rp (H : SG) (dom : Nat → Prop) (m : Nat → Nat) (y : Nat) (e : TE) : Prop := y < gn H ∧ ∀ w, Sol H w → ∀ α, (∀ x, dom x → α x = w (m x)) → w y = ev α e
/-- one more -/
def adG (G : SG) (s l r : Nat) : SG := (gn G + 1, fun k => if k = gn G then s else gso G k, fun k => if k = gn G then l else gle G k, fun k => if k = gn G then r else gri G k, fun k => if k = gn G then k else gup G k)
theorem chn_cg {up up' : Nat → Nat} {n : Nat} (hu : ∀ k, k < n → up' k = up k) (hn : ∀ k, k < n → up k < n) : ∀ (j k r : Nat), k < n → chn up j k r → chn up' j k r := by
  intro j
  induction j with
  | zero =>
    intro k r hk h
    obtain ⟨h1, h2⟩ := h
    subst h1
    exact ⟨rfl, by rw [hu k hk]; exact h2⟩
  | succ j ih =>
    intro k r hk h
    refine ⟨by rw [hu k hk]; exact h.1, ?_⟩
    rw [hu k hk]
    exact ih _ r (hn k hk) h.2
theorem cN_cg {p q : Nat → Bool} : ∀ d, (∀ i, i < d → p i = q i) → cN p d = cN q d
  | 0, _ => rfl
  | d + 1, h => by rw [cN, cN, cN_cg d (fun i hi => h i (by omega)), h d (by omega)]
section A
variable {G : SG} {s l r : Nat}
theorem ad_up (k : Nat) (hk : k < gn G) : gup (adG G s l r) k = gup G k := by
  show (if k = gn G then k else gup G k) = _
  rw [if_neg (by omega)]
theorem ad_so (k : Nat) (hk : k < gn G) : gso (adG G s l r) k = gso G k := by
  show (if k = gn G then s else gso G k) = _
  rw [if_neg (by omega)]
theorem ad_le (k : Nat) (hk : k < gn G) : gle (adG G s l r) k = gle G k := by
  show (if k = gn G then l else gle G k) = _
  rw [if_neg (by omega)]
theorem ad_ri (k : Nat) (hk : k < gn G) : gri (adG G s l r) k = gri G k := by
  show (if k = gn G then r else gri G k) = _
  rw [if_neg (by omega)]
theorem ad_n : gn (adG G s l r) = gn G + 1 := rfl
theorem ad_new : gup (adG G s l r) (gn G) = gn G ∧ gso (adG G s l r) (gn G) = s ∧ gle (adG G s l r) (gn G) = l ∧ gri (adG G s l r) (gn G) = r :=
  ⟨if_pos rfl, if_pos rfl, if_pos rfl, if_pos rfl⟩
theorem ad_wf (h : wfG G) (hs : s ≤ 2) (hlr : s = 2 → l < gn G ∧ r < gn G) : wfG (adG G s l r) := by
  obtain ⟨n1, n2, n3, n4⟩ := ad_new (G := G) (s := s) (l := l) (r := r)
  refine ⟨fun k hk => ?_, fun k hk => ?_⟩
  · rw [ad_n] at hk
    by_cases e : k = gn G
    · subst e
      rw [n1, n2, n3, n4, ad_n]
      exact ⟨hs, by omega, fun z => ⟨by have := (hlr z).1; omega, by have := (hlr z).2; omega⟩⟩
    · have hk' : k < gn G := by omega
      rw [ad_up k hk', ad_so k hk', ad_le k hk', ad_ri k hk', ad_n]
      obtain ⟨a1, a2, a3⟩ := h.1 k hk'
      exact ⟨a1, by omega, fun z => ⟨by have := (a3 z).1; omega, by have := (a3 z).2; omega⟩⟩
  · rw [ad_n] at hk
    have en : nrt (adG G s l r) = nrt G := by
      unfold nrt
      rw [ad_n, cN, n1, if_neg (by simp), Nat.add_zero]
      exact cN_cg _ (fun i hi => by rw [ad_up i hi])
    rw [en, ad_n]
    by_cases e : k = gn G
    · subst e
      exact ⟨0, gn G, ⟨rfl, n1⟩, by omega, Nat.zero_le _⟩
    · have hk' : k < gn G := by omega
      obtain ⟨j, r', h1, h2, h3⟩ := h.2 k hk'
      exact ⟨j, r', chn_cg (fun k hk => ad_up k hk) (fun k hk => (h.1 k hk).2.1) j k r' hk' h1, by omega, h3⟩
theorem ad_res (h : wfG G) {v : Nat → IT} (hv : Sol (adG G s l r) v) : Sol G v := by
  intro k hk
  have := hv k (by rw [ad_n]; omega)
  rw [ad_up k hk, ad_so k hk, ad_le k hk, ad_ri k hk] at this
  exact this
/-- a solution goes on to the new one -/
theorem ad_ext (h : wfG G) {v : Nat → IT} (hv : Sol G v) {t : IT} (h0 : s ≤ 2) (h1 : s = 1 → t = iS) (h2 : s = 2 → l < gn G ∧ r < gn G ∧ t = iA (v l) (v r)) : Sol (adG G s l r) (fun k => if k = gn G then t else v k) := by
  obtain ⟨n1, n2, n3, n4⟩ := ad_new (G := G) (s := s) (l := l) (r := r)
  intro k hk
  rw [ad_n] at hk
  by_cases e : k = gn G
  · subst e
    rw [n1, n2, n3, n4]
    refine ⟨rfl, fun _ => ⟨fun z => by simp only [if_true]; exact h1 z, fun z => ?_⟩⟩
    obtain ⟨a1, a2, a3⟩ := h2 z
    simp only [if_true]
    rw [if_neg (show ¬ l = gn G by omega), if_neg (show ¬ r = gn G by omega)]
    exact a3
  · have hk' : k < gn G := by omega
    obtain ⟨b1, b2⟩ := hv k hk'
    obtain ⟨c1, c2, c3⟩ := h.1 k hk'
    rw [ad_up k hk', ad_so k hk', ad_le k hk', ad_ri k hk']
    simp only [if_neg e]
    rw [if_neg (show ¬ gup G k = gn G by omega)]
    refine ⟨b1, fun z => ⟨(b2 z).1, fun y => ?_⟩⟩
    obtain ⟨d1, d2⟩ := c3 y
    rw [if_neg (show ¬ gle G k = gn G by omega), if_neg (show ¬ gri G k = gn G by omega)]
    exact (b2 z).2 y
theorem ad_gT (h : wfG G) (hs : s ≤ 2) (hlr : s = 2 → l < gn G ∧ r < gn G) : ∀ (p : List Bool) (k : Nat), k < gn G → gT (adG G s l r) k p = gT G k p := by
  have hrt : ∀ k, k < gn G → rt (adG G s l r) k = rt G k := by
    intro k hk
    obtain ⟨j, c1, c2, c3⟩ := rt_ch h hk
    exact ch_fnd j _ _ _ (chn_cg (fun k hk => ad_up k hk) (fun k hk => (h.1 k hk).2.1) j k _ hk c1) (by have := nrt_le G; rw [ad_n]; omega)
  intro p
  induction p with
  | nil =>
    intro k hk
    show gen _ [] k = gen _ [] k
    rw [gen, gen, hrt k hk, ad_so _ (rt_lt h hk)]
  | cons b q ih =>
    intro k hk
    show gen _ (b :: q) k = gen _ (b :: q) k
    have hl := rt_lt h hk
    rw [gen, gen, hrt k hk, ad_so _ hl, ad_le _ hl, ad_ri _ hl]
    by_cases z : gso G (rt G k) = 2
    · obtain ⟨d1, d2⟩ := (h.1 _ hl).2.2 z
      have := ih (if b = true then gri G (rt G k) else gle G (rt G k)) (by split <;> assumption)
      unfold gT at this
      rw [this]
    · by_cases z1 : gso G (rt G k) = 1
      · rw [if_pos z1, if_pos z1]
      · rw [if_neg z1, if_neg z, if_neg z1, if_neg z]
end A
section R
variable {G H : SG} {dom dom' : Nat → Prop} {m m' : Nat → Nat} {E : List (TE × TE)}
theorem rp_ad {s l r y : Nat} {e : TE} (h : wfG H) (g : rp H dom m y e) : rp (adG H s l r) dom m y e :=
  ⟨by rw [ad_n]; have := g.1; omega, fun w hw α ha => g.2 w (ad_res h hw) α ha⟩
/-- something open more, for x -/
theorem Rp_open {x : Nat} (h : Rp H dom m E) (hx : ¬ dom x) : Rp (adG H 0 0 0) (fun z => dom z ∨ z = x) (fun z => if z = x then gn H else m z) E ∧ rp (adG H 0 0 0) (fun z => dom z ∨ z = x) (fun z => if z = x then gn H else m z) (gn H) (.var (x + 1)) ∧ ∀ y e, rp H dom m y e → rp (adG H 0 0 0) (fun z => dom z ∨ z = x) (fun z => if z = x then gn H else m z) y e := by
  obtain ⟨h1, h2, h3, h4, h5⟩ := h
  have back : ∀ (w : Nat → IT) (α : Nat → IT), (∀ z, dom z ∨ z = x → α z = w (if z = x then gn H else m z)) → ∀ z, dom z → α z = w (m z) := by
    intro w α ha z hz
    have := ha z (Or.inl hz)
    rw [if_neg (show ¬ z = x from fun e => hx (by rw [← e]; exact hz))] at this
    exact this
  refine ⟨⟨ad_wf h1 (by omega) (by omega), ?_, fun z hz => ?_, fun α ha => ?_, fun w hw α ha => ?_⟩, ⟨by rw [ad_n]; omega, fun w hw α ha => ?_⟩, fun y e g => ⟨by rw [ad_n]; have := g.1; omega, fun w hw α ha => g.2 w (ad_res h1 hw) α (back w α ha)⟩⟩
  · obtain ⟨d, hd⟩ := h2
    refine ⟨d, fun z hz => ?_⟩
    show dpt d (gT (adG H 0 0 0) (if z = x then gn H else m z))
    by_cases e : z = x
    · rw [if_pos e, gT_0 (by rw [rt_self (ad_new (G := H) (s := 0) (l := 0) (r := 0)).1]; exact (ad_new (G := H) (s := 0) (l := 0) (r := 0)).2.1)]
      exact dpt_V _ _
    · rw [if_neg e]
      rcases hz with z1 | z1
      · rw [show gT (adG H 0 0 0) (m z) = gT H (m z) from funext (fun p => ad_gT h1 (by omega) (by omega) p (m z) (h3 z z1))]
        exact hd z z1
      · exact absurd z1 e
  · show (if z = x then gn H else m z) < gn (adG H 0 0 0)
    rw [ad_n]
    by_cases e : z = x
    · rw [if_pos e]; omega
    · rw [if_neg e]
      rcases hz with z1 | z1
      · have := h3 z z1; omega
      · exact absurd z1 e
  · obtain ⟨w, w1, w2⟩ := h4 α ha
    refine ⟨_, ad_ext h1 w1 (s := 0) (l := 0) (r := 0) (t := α x) (by omega) (fun z => by omega) (fun z => by omega), fun z hz => ?_⟩
    by_cases e : z = x
    · simp only [if_pos e]; rw [e]; simp
    · simp only [if_neg e]
      rcases hz with z1 | z1
      · have := h3 z z1
        rw [if_neg (by omega)]
        exact w2 z z1
      · exact absurd z1 e
  · exact h5 w (ad_res h1 hw) α (back w α ha)
  · have := ha x (Or.inr rfl)
    simp only [if_true] at this
    rw [ev, this]
/-- an arrow more -/
theorem Rp_arr {l r : Nat} {e1 e2 : TE} (h : Rp H dom m E) (hl : rp H dom m l e1) (hr : rp H dom m r e2) : Rp (adG H 2 l r) dom m E ∧ rp (adG H 2 l r) dom m (gn H) (.op e1 e2) := by
  obtain ⟨h1, h2, h3, h4, h5⟩ := h
  obtain ⟨n1, n2, n3, n4⟩ := ad_new (G := H) (s := 2) (l := l) (r := r)
  refine ⟨⟨ad_wf h1 (by omega) (fun _ => ⟨hl.1, hr.1⟩), h2.elim (fun d hd => ⟨d, fun z hz => by rw [show gT (adG H 2 l r) (m z) = gT H (m z) from funext (fun p => ad_gT h1 (by omega) (fun _ => ⟨hl.1, hr.1⟩) p (m z) (h3 z hz))]; exact hd z hz⟩), fun z hz => by rw [ad_n]; have := h3 z hz; omega, fun α ha => ?_, fun w hw α ha => h5 w (ad_res h1 hw) α ha⟩, ⟨by rw [ad_n]; omega, fun w hw α ha => ?_⟩⟩
  · obtain ⟨w, w1, w2⟩ := h4 α ha
    refine ⟨_, ad_ext h1 w1 (s := 2) (l := l) (r := r) (t := iA (w l) (w r)) (by omega) (fun z => by omega) (fun z => ⟨hl.1, hr.1, rfl⟩), fun z hz => ?_⟩
    have := h3 z hz
    simp only [if_neg (show ¬ m z = gn H by omega)]
    exact w2 z hz
  · have e := ((hw (gn H) (by rw [ad_n]; omega)).2 n1).2 n2
    rw [e, n3, n4, ev, hl.2 w (ad_res h1 hw) α ha, hr.2 w (ad_res h1 hw) α ha]
/-- an equation made true -/
theorem Rp_eq {H' : SG} {x y : Nat} {e1 e2 : TE} (h : Rp H dom m E) (hx : rp H dom m x e1) (hy : rp H dom m y e2) (hw : wfG H') {d : Nat} (hf : dpt d (gT H' x)) (hn : gn H' = gn H) (hs : ∀ v, Sol H' v ↔ Sol H v ∧ v x = v y) : Rp H' dom m (E ++ [(e1, e2)]) ∧ ∀ z e, rp H dom m z e → rp H' dom m z e := by
  obtain ⟨h1, h2, h3, h4, h5⟩ := h
  refine ⟨⟨hw, h2.elim (fun c hc => ⟨c + d, fun z hz => af_step h1 hw hn hx.1 hy.1 hs hf (h3 z hz) (hc z hz)⟩), fun z hz => by rw [hn]; exact h3 z hz, fun α ha => ?_, fun w hw' α ha => ?_⟩, fun z e g => ⟨by rw [hn]; exact g.1, fun w hw' α ha => g.2 w ((hs w).mp hw').1 α ha⟩⟩
  · obtain ⟨w, w1, w2⟩ := h4 α (fun e he => ha e (List.mem_append_left _ he))
    refine ⟨w, (hs w).mpr ⟨w1, ?_⟩, w2⟩
    rw [hx.2 w w1 α (fun z hz => (w2 z hz).symm), hy.2 w w1 α (fun z hz => (w2 z hz).symm)]
    exact ha (e1, e2) (List.mem_append_right _ (List.mem_singleton.mpr rfl))
  · obtain ⟨s1, s2⟩ := (hs w).mp hw'
    intro e he
    rcases List.mem_append.mp he with z | z
    · exact h5 w s1 α ha e z
    · rw [List.mem_singleton.mp z]
      show ev α e1 = ev α e2
      rw [← hx.2 w s1 α ha, ← hy.2 w s1 α ha, s2]
/-- no tree makes it true -/
def unso (H : SG) (x y : Nat) : Prop := ∀ v, Sol H v → v x = v y → ∀ d, ¬ dpt d (v x)
/-- what both hold of the same is alike but for numbers -/
theorem Rp_ren (h : Rp G dom m E) (g : Rp H dom' m' E) : ∃ θ θ' : Nat → IT, ∀ y y' e, rp G dom m y e → rp H dom' m' y' e → gT H y' = sT θ (gT G y) ∧ gT G y = sT θ' (gT H y') := by
  obtain ⟨w, w1, w2⟩ := g.2.2.2.1 (fun z => gT G (m z)) (h.2.2.2.2 _ (gT_sol h.1) _ (fun _ _ => rfl))
  obtain ⟨v, v1, v2⟩ := h.2.2.2.1 (fun z => gT H (m' z)) (g.2.2.2.2 _ (gT_sol g.1) _ (fun _ _ => rfl))
  refine ⟨v, w, fun y y' e hy hy' => ⟨?_, ?_⟩⟩
  · rw [← sol_gen h.1 v1 hy.1, hy.2 v v1 _ (fun z hz => (v2 z hz).symm), hy'.2 _ (gT_sol g.1) _ (fun _ _ => rfl)]
  · rw [← sol_gen g.1 w1 hy'.1, hy'.2 w w1 _ (fun z hz => (w2 z hz).symm), hy.2 _ (gT_sol h.1) _ (fun _ _ => rfl)]
end R
