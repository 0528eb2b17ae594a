/-! Looking for a ring: the search in itself. Own text. -/
def rch (G : SG) (x a : Nat) : Prop := ∃ p : List Bool, ∀ q, gT G x (p ++ q) = gT G a q
def finT (G : SG) (x : Nat) : Prop := ∃ d, dpt d (gT G x)
def lcG (G : SG) (x : Nat) : Nat := rt G (gle G x)
def rcG (G : SG) (x : Nat) : Nat := rt G (gri G x)
def dnG (G : SG) (μ : Nat → Nat) (c : Nat) : Prop := gso G c ≠ 2 ∨ μ c = 2
def DI (G : SG) (s : Nat) (L : List Nat) (μ : Nat → Nat) : Prop :=
  (∀ a, a ∈ L → a < gn G ∧ gup G a = a ∧ rch G s a) ∧ (∀ x, μ x = 1 → x ∈ L ∧ gso G x = 2) ∧ (∀ A x B, L = A ++ x :: B → μ x = 1 → x ∉ A → (lcG G x ∈ A ∨ dnG G μ (lcG G x)) ∧ (rcG G x ∈ A ∨ dnG G μ (rcG G x)) ∧ ∀ a, a ∈ A → rch G x a) ∧ (∀ x, μ x = 2 → finT G x) ∧ (s ∈ L ∨ dnG G μ s) ∧ (∀ x, μ x ≤ 2)
theorem rch_rfl (G : SG) (x : Nat) : rch G x x := ⟨[], fun _ => rfl⟩
theorem rch_tr {G : SG} {x y z : Nat} (h1 : rch G x y) (h2 : rch G y z) : rch G x z := by
  obtain ⟨p, hp⟩ := h1
  obtain ⟨p', hp'⟩ := h2
  exact ⟨p ++ p', fun q => by rw [List.append_assoc, hp, hp']⟩
section D
variable {G : SG} {s : Nat} {L : List Nat} {μ : Nat → Nat}
theorem lc_at (hw : wfG G) {x : Nat} (hx : x < gn G) (hr : gup G x = x) (h2 : gso G x = 2) : gT G x = iA (gT G (lcG G x)) (gT G (rcG G x)) := by
  obtain ⟨a1, a2⟩ := (hw.1 x hx).2.2 h2
  rw [gT_2 (k := x) (by rw [rt_self hr]; exact h2), rt_self hr, gT_rt hw a1, gT_rt hw a2]
  rfl
theorem rch_l (hw : wfG G) {x : Nat} (hx : x < gn G) (hr : gup G x = x) (h2 : gso G x = 2) : rch G x (lcG G x) ∧ rch G x (rcG G x) :=
  ⟨⟨[false], fun q => by rw [lc_at hw hx hr h2]; rfl⟩, ⟨[true], fun q => by rw [lc_at hw hx hr h2]; rfl⟩⟩
theorem lc_ok (hw : wfG G) {x : Nat} (hx : x < gn G) (h2 : gso G x = 2) : (lcG G x < gn G ∧ gup G (lcG G x) = lcG G x) ∧ (rcG G x < gn G ∧ gup G (rcG G x) = rcG G x) := by
  obtain ⟨a1, a2⟩ := (hw.1 x hx).2.2 h2
  exact ⟨⟨rt_lt hw a1, rt_root hw a1⟩, ⟨rt_lt hw a2, rt_root hw a2⟩⟩
theorem fin_leaf (hw : wfG G) {x : Nat} (hx : x < gn G) (hr : gup G x = x) (h2 : gso G x ≠ 2) : finT G x := by
  rcases so3 hw hx with z | z | z
  · exact ⟨0, by rw [gT_0 (k := x) (by rw [rt_self hr]; exact z)]; exact dpt_V _ _⟩
  · exact ⟨0, by rw [gT_1 (k := x) (by rw [rt_self hr]; exact z)]; exact dpt_S _⟩
  · exact absurd z h2
theorem fin_arr (hw : wfG G) {x : Nat} (hx : x < gn G) (hr : gup G x = x) (h2 : gso G x = 2) (h1 : finT G (lcG G x)) (h3 : finT G (rcG G x)) : finT G x := by
  obtain ⟨d, hd⟩ := h1
  obtain ⟨d', hd'⟩ := h3
  refine ⟨max d d' + 1, ?_⟩
  rw [lc_at hw hx hr h2]
  exact dpt_A (dpt_mono (Nat.le_max_left _ _) hd) (dpt_mono (Nat.le_max_right _ _) hd')
/-- a tree with itself below has no end -/
theorem inf_loop {t : IT} {b : Bool} {p : List Bool} (h0 : t [] = 1) (h : ∀ q, t (b :: p ++ q) = t q) (d : Nat) : ¬ dpt d t := by
  have key : ∀ n, ∃ r : List Bool, n ≤ r.length ∧ t r = 1 := by
    intro n
    induction n with
    | zero => exact ⟨[], Nat.zero_le _, h0⟩
    | succ n ih =>
      obtain ⟨r, r1, r2⟩ := ih
      exact ⟨b :: p ++ r, by simp only [List.cons_append, List.length_cons, List.length_append]; omega, by rw [h, r2]⟩
  intro hd
  obtain ⟨r, r1, r2⟩ := key d
  exact hd r r1 r2
theorem inf_rch {x : Nat} (h : rch G s x) (hx : ∀ d, ¬ dpt d (gT G x)) (d : Nat) : ¬ dpt d (gT G s) := by
  obtain ⟨p, hp⟩ := h
  intro hd
  exact hx d (dpt_sub (p := p) hd (fun q => (hp q).symm))
theorem di_skip {now : Nat} (h : DI G s (now :: L) μ) (hd : dnG G μ now) : DI G s L μ := by
  obtain ⟨d1, d2, d3, d4, d5, d6⟩ := h
  have hn1 : μ now = 1 → False := by
    intro z
    rcases hd with y | y
    · exact y (d2 now z).2
    · omega
  refine ⟨fun a ha => d1 a (List.mem_cons_of_mem _ ha), fun x hx => ?_, fun A x B hL hx hA => ?_, d4, ?_, d6⟩
  · obtain ⟨e1, e2⟩ := d2 x hx
    rcases List.mem_cons.mp e1 with z | z
    · rw [z] at hx; exact absurd hx hn1
    · exact ⟨z, e2⟩
  · have hxn : x ≠ now := fun z => hn1 (by rw [← z]; exact hx)
    obtain ⟨e1, e2, e3⟩ := d3 (now :: A) x B (by rw [hL]; rfl) hx (fun z => by
      rcases List.mem_cons.mp z with y | y
      · exact hxn y
      · exact hA y)
    refine ⟨?_, ?_, fun a ha => e3 a (List.mem_cons_of_mem _ ha)⟩
    · rcases e1 with z | z
      · rcases List.mem_cons.mp z with y | y
        · right; rw [y]; exact hd
        · exact Or.inl y
      · exact Or.inr z
    · rcases e2 with z | z
      · rcases List.mem_cons.mp z with y | y
        · right; rw [y]; exact hd
        · exact Or.inl y
      · exact Or.inr z
  · rcases d5 with z | z
    · rcases List.mem_cons.mp z with y | y
      · right; rw [y]; exact hd
      · exact Or.inl y
    · exact Or.inr z
theorem di_exit (hw : wfG G) {now : Nat} (h : DI G s (now :: L) μ) (h1 : μ now = 1) : DI G s L (fun k => if k = now then 2 else μ k) := by
  obtain ⟨d1, d2, d3, d4, d5, d6⟩ := h
  obtain ⟨n1, n2, _⟩ := d1 now List.mem_cons_self
  have n3 := (d2 now h1).2
  obtain ⟨⟨l1, l2⟩, ⟨r1, r2⟩⟩ := lc_ok hw n1 n3
  obtain ⟨e1, e2, _⟩ := d3 [] now L rfl h1 (List.not_mem_nil)
  have fin_c : ∀ c, c < gn G → gup G c = c → (c ∈ ([] : List Nat) ∨ dnG G μ c) → finT G c := by
    intro c c1 c2 hc
    rcases hc with z | z | z
    · cases z
    · exact fin_leaf hw c1 c2 z
    · exact d4 c z
  have hfin : finT G now := fin_arr hw n1 n2 n3 (fin_c _ l1 l2 e1) (fin_c _ r1 r2 e2)
  have dmono : ∀ c, dnG G μ c → dnG G (fun k => if k = now then 2 else μ k) c := by
    intro c hc
    rcases hc with z | z
    · exact Or.inl z
    · right
      show (if c = now then 2 else μ c) = 2
      split
      · rfl
      · exact z
  have dnow : dnG G (fun k => if k = now then 2 else μ k) now := Or.inr (if_pos rfl)
  have hne : ∀ x, (if x = now then 2 else μ x) = 1 → x ≠ now ∧ μ x = 1 := by
    intro x hx
    by_cases e : x = now
    · rw [if_pos e] at hx; omega
    · rw [if_neg e] at hx; exact ⟨e, hx⟩
  refine ⟨fun a ha => d1 a (List.mem_cons_of_mem _ ha), fun x hx => ?_, fun A x B hL hx hA => ?_, fun x hx => ?_, ?_, fun x => ?_⟩
  · obtain ⟨g1, g2⟩ := hne x hx
    obtain ⟨f1, f2⟩ := d2 x g2
    rcases List.mem_cons.mp f1 with z | z
    · exact absurd z g1
    · exact ⟨z, f2⟩
  · obtain ⟨g1, g2⟩ := hne x hx
    obtain ⟨e1, e2, e3⟩ := d3 (now :: A) x B (by rw [hL]; rfl) g2 (fun z => by
      rcases List.mem_cons.mp z with y | y
      · exact g1 y
      · exact hA y)
    refine ⟨?_, ?_, fun a ha => e3 a (List.mem_cons_of_mem _ ha)⟩
    · rcases e1 with z | z
      · rcases List.mem_cons.mp z with y | y
        · right; rw [y]; exact dnow
        · exact Or.inl y
      · exact Or.inr (dmono _ z)
    · rcases e2 with z | z
      · rcases List.mem_cons.mp z with y | y
        · right; rw [y]; exact dnow
        · exact Or.inl y
      · exact Or.inr (dmono _ z)
  · have hx' : (if x = now then 2 else μ x) = 2 := hx
    by_cases e : x = now
    · rw [e]; exact hfin
    · rw [if_neg e] at hx'; exact d4 x hx'
  · rcases d5 with z | z
    · rcases List.mem_cons.mp z with y | y
      · right; rw [y]; exact dnow
      · exact Or.inl y
    · exact Or.inr (dmono _ z)
  · show (if x = now then 2 else μ x) ≤ 2
    split
    · omega
    · exact d6 x
theorem di_enter (hw : wfG G) {now : Nat} (h : DI G s (now :: L) μ) (h0 : μ now = 0) (h2 : gso G now = 2) (hl : (if lcG G now = now then 1 else μ (lcG G now)) ≠ 1) (hr : (if rcG G now = now then 1 else μ (rcG G now)) ≠ 1) : DI G s (lcG G now :: rcG G now :: now :: L) (fun k => if k = now then 1 else μ k) := by
  obtain ⟨d1, d2, d3, d4, d5, d6⟩ := h
  obtain ⟨n1, n2, n3⟩ := d1 now List.mem_cons_self
  obtain ⟨⟨l1, l2⟩, ⟨r1, r2⟩⟩ := lc_ok hw n1 h2
  obtain ⟨rl, rr⟩ := rch_l hw n1 n2 h2
  have hln : lcG G now ≠ now := fun z => hl (if_pos z)
  have hrn : rcG G now ≠ now := fun z => hr (if_pos z)
  rw [if_neg hln] at hl
  rw [if_neg hrn] at hr
  have dmono : ∀ c, dnG G μ c → dnG G (fun k => if k = now then 1 else μ k) c := by
    intro c hc
    rcases hc with z | z
    · exact Or.inl z
    · right
      show (if c = now then 1 else μ c) = 2
      rw [if_neg (fun e => by rw [e, h0] at z; omega)]
      exact z
  have hne : ∀ x, (if x = now then 1 else μ x) = 1 → x = now ∨ (x ≠ now ∧ μ x = 1) := by
    intro x hx
    by_cases e : x = now
    · exact Or.inl e
    · rw [if_neg e] at hx; exact Or.inr ⟨e, hx⟩
  refine ⟨fun a ha => ?_, fun x hx => ?_, fun A x B hL hx hA => ?_, fun x hx => ?_, ?_, fun x => ?_⟩
  · rcases List.mem_cons.mp ha with z | z
    · rw [z]; exact ⟨l1, l2, rch_tr n3 rl⟩
    · rcases List.mem_cons.mp z with y | y
      · rw [y]; exact ⟨r1, r2, rch_tr n3 rr⟩
      · exact d1 a y
  · rcases hne x hx with z | ⟨z1, z2⟩
    · rw [z]; exact ⟨List.mem_cons_of_mem _ (List.mem_cons_of_mem _ List.mem_cons_self), h2⟩
    · obtain ⟨e1, e2⟩ := d2 x z2
      exact ⟨List.mem_cons_of_mem _ (List.mem_cons_of_mem _ e1), e2⟩
  · -- where x stands
    rcases hne x hx with z | ⟨z1, z2⟩
    · subst z
      cases A with
      | nil =>
        simp only [List.nil_append, List.cons.injEq] at hL
        exact absurd hL.1 hln
      | cons a A =>
        simp only [List.cons_append, List.cons.injEq] at hL
        obtain ⟨ea, hL⟩ := hL
        cases A with
        | nil =>
          simp only [List.nil_append, List.cons.injEq] at hL
          exact absurd hL.1 hrn
        | cons a2 A =>
          simp only [List.cons_append, List.cons.injEq] at hL
          obtain ⟨ea2, hL⟩ := hL
          cases A with
          | nil =>
            refine ⟨Or.inl (by rw [← ea]; exact List.mem_cons_self), Or.inl (by rw [← ea2]; exact List.mem_cons_of_mem _ List.mem_cons_self), fun a' ha' => ?_⟩
            rcases List.mem_cons.mp ha' with y | y
            · rw [y, ← ea]; exact rl
            · rcases List.mem_cons.mp y with y | y
              · rw [y, ← ea2]; exact rr
              · cases y
          | cons a3 A =>
            simp only [List.cons_append, List.cons.injEq] at hL
            exact absurd (List.mem_cons_of_mem _ (List.mem_cons_of_mem _ (by rw [← hL.1]; exact List.mem_cons_self))) hA
    · -- deeper
      cases A with
      | nil =>
        simp only [List.nil_append, List.cons.injEq] at hL
        rw [← hL.1] at z2; exact absurd z2 hl
      | cons a A =>
        simp only [List.cons_append, List.cons.injEq] at hL
        obtain ⟨ea, hL⟩ := hL
        cases A with
        | nil =>
          simp only [List.nil_append, List.cons.injEq] at hL
          rw [← hL.1] at z2; exact absurd z2 hr
        | cons a2 A =>
          simp only [List.cons_append, List.cons.injEq] at hL
          obtain ⟨ea2, hL⟩ := hL
          obtain ⟨e1, e2, e3⟩ := d3 A x B hL z2 (fun z => hA (List.mem_cons_of_mem _ (List.mem_cons_of_mem _ z)))
          have hnowA : now ∈ A := by
            cases A with
            | nil =>
              simp only [List.nil_append, List.cons.injEq] at hL
              exact absurd hL.1.symm z1
            | cons a3 A =>
              simp only [List.cons_append, List.cons.injEq] at hL
              rw [hL.1]; exact List.mem_cons_self
          have hxn := e3 now hnowA
          refine ⟨?_, ?_, fun a' ha' => ?_⟩
          · rcases e1 with z | z
            · exact Or.inl (List.mem_cons_of_mem _ (List.mem_cons_of_mem _ z))
            · exact Or.inr (dmono _ z)
          · rcases e2 with z | z
            · exact Or.inl (List.mem_cons_of_mem _ (List.mem_cons_of_mem _ z))
            · exact Or.inr (dmono _ z)
          · rcases List.mem_cons.mp ha' with y | y
            · rw [y, ← ea]; exact rch_tr hxn rl
            · rcases List.mem_cons.mp y with y | y
              · rw [y, ← ea2]; exact rch_tr hxn rr
              · exact e3 a' y
  · have hx' : (if x = now then 1 else μ x) = 2 := hx
    by_cases e : x = now
    · rw [if_pos e] at hx'; omega
    · rw [if_neg e] at hx'; exact d4 x hx'
  · rcases d5 with z | z
    · exact Or.inl (List.mem_cons_of_mem _ (List.mem_cons_of_mem _ z))
    · exact Or.inr (dmono _ z)
  · show (if x = now then 1 else μ x) ≤ 2
    split
    · omega
    · exact d6 x
/-- something entered stands below: no end -/
theorem di_ring (hw : wfG G) {now c : Nat} (h : DI G s (now :: L) μ) (h2 : gso G now = 2) (hc : c = lcG G now ∨ c = rcG G now) (h1 : (if c = now then 1 else μ c) = 1) (d : Nat) : ¬ dpt d (gT G s) := by
  obtain ⟨d1, d2, d3, d4, d5, d6⟩ := h
  obtain ⟨n1, n2, n3⟩ := d1 now List.mem_cons_self
  have hch : ∃ b, ∀ q, gT G now (b :: q) = gT G c q := by
    rcases hc with z | z
    · exact ⟨false, fun q => by rw [z, lc_at hw n1 n2 h2]; rfl⟩
    · exact ⟨true, fun q => by rw [z, lc_at hw n1 n2 h2]; rfl⟩
  obtain ⟨b, hb⟩ := hch
  have hnow1 : gT G now [] = 1 := by rw [lc_at hw n1 n2 h2]; rfl
  by_cases e : c = now
  · refine inf_rch n3 (fun d => inf_loop (b := b) (p := []) hnow1 (fun q => ?_) d) d
    have := hb q
    rw [e] at this
    exact this
  · rw [if_neg e] at h1
    obtain ⟨e1, e2⟩ := d2 c h1
    -- the first place of c
    have split : ∀ (M : List Nat), c ∈ M → ∃ A B, M = A ++ c :: B ∧ c ∉ A := by
      intro M
      induction M with
      | nil => intro z; cases z
      | cons a M ih =>
        intro z
        by_cases ea : c = a
        · exact ⟨[], M, by rw [ea]; rfl, List.not_mem_nil⟩
        · rcases List.mem_cons.mp z with y | y
          · exact absurd y ea
          · obtain ⟨A, B, hM, hA⟩ := ih y
            refine ⟨a :: A, B, by rw [hM]; rfl, fun w => ?_⟩
            rcases List.mem_cons.mp w with w | w
            · exact ea w
            · exact hA w
    obtain ⟨A, B, hM, hA⟩ := split _ e1
    obtain ⟨_, _, e3⟩ := d3 A c B hM h1 hA
    have hnowA : now ∈ A := by
      cases A with
      | nil =>
        simp only [List.nil_append, List.cons.injEq] at hM
        exact absurd hM.1.symm e
      | cons a3 A =>
        simp only [List.cons_append, List.cons.injEq] at hM
        rw [hM.1]; exact List.mem_cons_self
    obtain ⟨p, hp⟩ := e3 now hnowA
    refine inf_rch n3 (fun d => inf_loop (b := b) (p := p) hnow1 (fun q => ?_) d) d
    rw [List.cons_append, hb, hp]
theorem di_end (hw : wfG G) (hs : s < gn G) (hr : gup G s = s) (h : DI G s [] μ) : finT G s := by
  obtain ⟨d1, d2, d3, d4, d5, d6⟩ := h
  rcases d5 with z | z | z
  · cases z
  · exact fin_leaf hw hs hr z
  · exact d4 s z
theorem di_start (hs : s < gn G) (hr : gup G s = s) : DI G s [s] (fun _ => 0) := by
  refine ⟨fun a ha => ?_, fun x hx => ?_, fun A x B hL hx => ?_, fun x hx => ?_, Or.inl List.mem_cons_self, fun x => Nat.zero_le _⟩
  · rw [List.mem_singleton.mp ha]; exact ⟨hs, hr, rch_rfl G s⟩
  · exact absurd hx (by simp)
  · exact absurd hx (by simp)
  · exact absurd hx (by simp)
end D
