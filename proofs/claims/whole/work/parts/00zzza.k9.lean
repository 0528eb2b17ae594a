/-! The reference's store: top(), join(). Own text. -/
def MS (τ : zS) (H : SG) : Prop := gi τ 48 = nI (gn H) ∧ 1 ≤ gn H ∧ gn H ≤ 4000 ∧ wfG H ∧ ∀ k, k < gn H → ga τ 26 k = nI (gso H k) ∧ ga τ 29 k = nI (gup H k) ∧ (gso H k = 2 → ga τ 27 k = nI (gle H k) ∧ ga τ 28 k = nI (gri H k))
theorem MS_cg {τ τ' : zS} {H : SG} (h1 : gi τ' 48 = gi τ 48) (h2 : ∀ k, k < gn H → ga τ' 26 k = ga τ 26 k ∧ ga τ' 27 k = ga τ 27 k ∧ ga τ' 28 k = ga τ 28 k ∧ ga τ' 29 k = ga τ 29 k) (h : MS τ H) : MS τ' H := by
  obtain ⟨a1, a2, a3, a4, a5⟩ := h
  refine ⟨h1.trans a1, a2, a3, a4, fun k hk => ?_⟩
  obtain ⟨b1, b2, b3, b4⟩ := h2 k hk
  rw [b1, b2, b3, b4]
  exact a5 k hk
theorem MS_sx {I A : List Nat} {τ τ' : zS} {H : SG} (h : sx I A τ τ') (h1 : 48 ∉ I) (h2 : 26 ∉ A) (h3 : 27 ∉ A) (h4 : 28 ∉ A) (h5 : 29 ∉ A) (g : MS τ H) : MS τ' H :=
  MS_cg (h.1 48 h1) (fun k _ => ⟨by rw [h.2.1 26 h2], by rw [h.2.1 27 h3], by rw [h.2.1 28 h4], by rw [h.2.1 29 h5]⟩) g
section K
variable {F : Nat} {τ : zS} {H : SG}
theorem to_loop (h : MS τ H) : ∀ (j f k r : Nat), chn (gup H) j k r → k < gn H → j < f → Md_top_2 F f τ (nI k) = some (nI r, τ) := by
  obtain ⟨a1, a2, a3, a4, a5⟩ := h
  intro j
  induction j with
  | zero =>
    intro f k r hc hk hf
    obtain ⟨f, rfl⟩ : ∃ f', f = f' + 1 := ⟨f - 1, by omega⟩
    obtain ⟨h1, h2⟩ := hc
    subst h1
    rw [Md_top_2, Md_top_b2, gd_t (inb_nI (by omega) (by omega)), nI_clamp (by omega), (a5 k hk).2.1, h2, if_pos rfl]
  | succ j ih =>
    intro f k r hc hk hf
    obtain ⟨f, rfl⟩ : ∃ f', f = f' + 1 := ⟨f - 1, by omega⟩
    have hu := (a4.1 k hk).2.1
    rw [Md_top_2, Md_top_b2, gd_t (inb_nI (by omega) (by omega)), nI_clamp (by omega), (a5 k hk).2.1, if_neg (fun z => hc.1 ((nI_eq (by omega) (by omega)).mp z))]
    exact ih f _ r hc.2 hu (by omega)
theorem topM (hF : 20000 ≤ F) (h : MS τ H) {k : Nat} (hk : k < gn H) : Md_top F τ (nI k) = some (nI (rt H k), τ) := by
  obtain ⟨j, c1, c2, c3⟩ := rt_ch h.2.2.2.1 hk
  have := nrt_le H
  have := h.2.2.1
  exact to_loop (F := F) h j F k _ c1 hk (by omega)
def MR (τ0 : zS) (H0 : SG) (x y : Nat) (τ : zS) (H : SG) (PL : List (Nat × Nat)) : Prop :=
  MS τ H ∧ (gn H = gn H0 ∧ gso H = gso H0 ∧ gle H = gle H0 ∧ gri H = gri H0) ∧ stL τ 53 (flt PL) ∧ (∀ q, q ∈ PL → q.1 < gn H ∧ q.2 < gn H) ∧ PL.length + nrt H0 ≤ 1 + nrt H ∧ (∀ v, (Sol H0 v ∧ v x = v y) ↔ (Sol H v ∧ ∀ q, q ∈ PL → v q.1 = v q.2)) ∧ sx [] [29, 53] τ0 τ
theorem nI_m2 (k : Nat) : nI (k + 2) + (-2 : Int32) = nI k := by
  rw [show k + 2 = (k + 1) + 1 from rfl, ← nI_1, Int32.add_assoc, show (1 : Int32) + (-2) = -1 from rfl]
  exact nI_prd k
theorem nI_ad (a b : Nat) (x : Int32) (hx : x = nI b) : nI a + x = nI (a + b) := by rw [hx, nI_add]
theorem mr_link {τ0 : zS} {H0 : SG} {x y q1 q2 a b : Nat} {PL : List (Nat × Nat)} (h : MR τ0 H0 x y τ H ((q1, q2) :: PL)) (hab : (a = rt H q1 ∧ b = rt H q2) ∨ (a = rt H q2 ∧ b = rt H q1)) (hne : a ≠ b) : wfG (lkG H a b) ∧ nrt (lkG H a b) = nrt H + 1 ∧ nrt H + 1 < gn H ∧ MS (sa τ 29 a (nI b)) (lkG H a b) ∧ (gup H a = a ∧ a < gn H) ∧ (gup H b = b ∧ b < gn H) ∧ (∀ v, Sol H v → (v q1 = v q2 ↔ v a = v b)) := by
  obtain ⟨c1, c2, c3, c4, c5, c6, c7⟩ := h
  have hw := c1.2.2.2.1
  obtain ⟨p1, p2⟩ := c4 (q1, q2) List.mem_cons_self
  have hra : gup H a = a ∧ a < gn H := by
    rcases hab with ⟨e, _⟩ | ⟨e, _⟩
    · rw [e]; exact ⟨rt_root hw p1, rt_lt hw p1⟩
    · rw [e]; exact ⟨rt_root hw p2, rt_lt hw p2⟩
  have hrb : gup H b = b ∧ b < gn H := by
    rcases hab with ⟨_, e⟩ | ⟨_, e⟩
    · rw [e]; exact ⟨rt_root hw p2, rt_lt hw p2⟩
    · rw [e]; exact ⟨rt_root hw p1, rt_lt hw p1⟩
  have hwf := lk_wf hw hra.2 hrb.2 hne hra.1 hrb.1
  have hnr : nrt (lkG H a b) = nrt H + 1 := nrt_lk hra.2 hra.1 hne
  have hlt : nrt (lkG H a b) < gn H := nrt_lt (G := lkG H a b) (k := b) hrb.2 (by
    show (if b = a then b else gup H b) = b
    rw [if_neg (fun z => hne z.symm)]; exact hrb.1)
  refine ⟨hwf, hnr, by omega, ⟨by simp only [zs]; exact c1.1, c1.2.1, c1.2.2.1, hwf, fun k hk => ?_⟩, hra, hrb, fun v hv => ?_⟩
  · obtain ⟨b1, b2, b3⟩ := c1.2.2.2.2 k hk
    have e29 : ga (sa τ 29 a (nI b)) 29 k = if k = a then nI b else ga τ 29 k := by simp [zs, up_at]
    have e26 : ga (sa τ 29 a (nI b)) 26 = ga τ 26 := by simp [zs]
    have e27 : ga (sa τ 29 a (nI b)) 27 = ga τ 27 := by simp [zs]
    have e28 : ga (sa τ 29 a (nI b)) 28 = ga τ 28 := by simp [zs]
    rw [e29, e26, e27, e28]
    refine ⟨b1, ?_, b3⟩
    show _ = nI (if k = a then b else gup H k)
    by_cases e : k = a
    · rw [if_pos e, if_pos e]
    · rw [if_neg e, if_neg e]; exact b2
  · rw [sol_rt hw hv p1, sol_rt hw hv p2]
    rcases hab with ⟨e, e'⟩ | ⟨e, e'⟩
    · rw [e, e']
    · rw [e, e']; exact ⟨fun z => z.symm, fun z => z.symm⟩
theorem jo_loop (hF : 20000 ≤ F) {τ0 : zS} {H0 : SG} {x y : Nat} : ∀ (mu f : Nat) (τ : zS) (H : SG) (PL : List (Nat × Nat)), MR τ0 H0 x y τ H PL → muM H PL ≤ mu → mu < f → ∃ r τ', Md_join_16 F f τ (nI (2 * PL.length)) = some (r, τ') ∧ sx [] [29, 53] τ0 τ' ∧ ((r = 1 ∧ ∃ H', MR τ0 H0 x y τ' H' []) ∨ (r = 0 ∧ clash H0 x y)) := by
  intro mu
  induction mu with
  | zero =>
    intro f τ H PL h hmu hf
    obtain ⟨f, rfl⟩ : ∃ f', f = f' + 1 := ⟨f - 1, by omega⟩
    have : PL = [] := List.length_eq_zero_iff.mp (by unfold muM at hmu; omega)
    subst this
    exact ⟨1, τ, by rw [Md_join_16, Md_join_b16]; rfl, h.2.2.2.2.2.2, Or.inl ⟨rfl, H, h⟩⟩
  | succ mu ih =>
    intro f τ H PL h hmu hf
    obtain ⟨f, rfl⟩ : ∃ f', f = f' + 1 := ⟨f - 1, by omega⟩
    cases PL with
    | nil => exact ⟨1, τ, by rw [Md_join_16, Md_join_b16]; rfl, h.2.2.2.2.2.2, Or.inl ⟨rfl, H, h⟩⟩
    | cons q PL =>
      obtain ⟨q1, q2⟩ := q
      have hh := h
      obtain ⟨c1, c2, c3, c4, c5, c6, c7⟩ := h
      have hw := c1.2.2.2.1
      have hn4 := c1.2.2.1
      obtain ⟨p1, p2⟩ : q1 < gn H ∧ q2 < gn H := c4 (q1, q2) List.mem_cons_self
      have hlen : PL.length ≤ 4000 := by
        have := nrt_le H
        simp only [List.length_cons] at c5; omega
      have r1 : rt H q1 < gn H := rt_lt hw p1
      have r2 : rt H q2 < gn H := rt_lt hw p2
      obtain ⟨s1, s2, s3⟩ : ga τ 53 (2 * PL.length + 1) = nI q1 ∧ ga τ 53 (2 * PL.length) = nI q2 ∧ stL τ 53 (flt PL) := by
        have g1 := c3.1
        have g2 := c3.2.1
        rw [List.length_cons, flt_len] at g1
        rw [flt_len] at g2
        exact ⟨g1, g2, c3.2.2⟩
      have en : nI (2 * ((q1, q2) :: PL).length) + (-2 : Int32) = nI (2 * PL.length) := by
        rw [List.length_cons, show 2 * (PL.length + 1) = 2 * PL.length + 2 by omega, nI_m2]
      have hpos : ¬ nI (2 * ((q1, q2) :: PL).length) ≤ 0 := nI_ge (a := 0) (by simp only [List.length_cons]; omega) (by simp only [List.length_cons]; omega)
      have t2 := topM (F := F) hF c1 p2
      have t1 := topM (F := F) hF c1 p1
      have e0 : Md_join_16 F (f + 1) τ (nI (2 * ((q1, q2) :: PL).length)) = (if nI (rt H q2) = nI (rt H q1) then (Md_join_16 F f τ (nI (2 * PL.length))) else (if nI (gso H (rt H q2)) = 0 then (Md_join_16 F f (sa τ 29 (rt H q2) (nI (rt H q1))) (nI (2 * PL.length))) else (if nI (gso H (rt H q1)) = 0 then (Md_join_16 F f (sa τ 29 (rt H q1) (nI (rt H q2))) (nI (2 * PL.length))) else (if nI (gso H (rt H q2)) = nI (gso H (rt H q1)) then (if nI (gso H (rt H q2)) = (2 : Int32) then (Md_join_16 F f (sa (sa (sa (sa (sa τ 29 (rt H q2) (nI (rt H q1))) 53 (2 * PL.length) (ga τ 28 (rt H q2))) 53 (2 * PL.length + 1) (ga τ 28 (rt H q1))) 53 (2 * PL.length + 2) (ga τ 27 (rt H q2))) 53 (2 * PL.length + 3) (ga τ 27 (rt H q1))) (nI (2 * PL.length + 4))) else (Md_join_16 F f (sa τ 29 (rt H q2) (nI (rt H q1))) (nI (2 * PL.length)))) else (some ((0 : Int32), τ)))))) := by
        have k1 : nI (2 * PL.length) + (1 : Int32) = nI (2 * PL.length + 1) := nI_1 _
        have k2 : nI (2 * PL.length) + (2 : Int32) = nI (2 * PL.length + 2) := nI_ad _ 2 _ rfl
        have k3 : nI (2 * PL.length) + (3 : Int32) = nI (2 * PL.length + 3) := nI_ad _ 3 _ rfl
        have k4 : nI (2 * PL.length) + (4 : Int32) = nI (2 * PL.length + 4) := nI_ad _ 4 _ rfl
        have d0 : (nI (2 * PL.length)).toNatClampNeg = 2 * PL.length := nI_clamp (by omega)
        have d1 : (nI (2 * PL.length + 1)).toNatClampNeg = 2 * PL.length + 1 := nI_clamp (by omega)
        have d2 : (nI (2 * PL.length + 2)).toNatClampNeg = 2 * PL.length + 2 := nI_clamp (by omega)
        have d3 : (nI (2 * PL.length + 3)).toNatClampNeg = 2 * PL.length + 3 := nI_clamp (by omega)
        rw [Md_join_16, Md_join_b16, if_neg hpos, en, gd_t (inb_nI (by omega) (by omega)), d0, s2, t2, bi_some, k1, gd_t (inb_nI (by omega) (by omega)), d1, s1, t1, bi_some, gd_t (inb_nI (by omega) (by omega)), nI_clamp (n := rt H q2) (by omega), (c1.2.2.2.2 _ r2).1, gd_t (inb_nI (by omega) (by omega)), nI_clamp (n := rt H q1) (by omega), (c1.2.2.2.2 _ r1).1, k2, k3, k4, gd_t (inb_nI (by omega) (by omega)), gd_t (inb_nI (by omega) (by omega)), d2, d3]
        unfold Md_join_203
        rfl
      have hz : ∀ a, a < gn H → ∀ c, c ≤ 2 → (nI (gso H a) = nI c ↔ gso H a = c) := fun a ha c hc => nI_eq (by have := (hw.1 a ha).1; omega) (by omega)
      rw [e0]
      by_cases e : rt H q2 = rt H q1
      · rw [if_pos (by rw [e])]
        refine ih f τ H PL ⟨c1, c2, s3, fun q hq => c4 q (List.mem_cons_of_mem _ hq), by simp only [List.length_cons] at c5; omega, fun v => ?_, c7⟩ (by unfold muM at hmu ⊢; simp only [List.length_cons] at hmu; omega) (by omega)
        rw [c6 v]
        constructor
        · rintro ⟨s1, s2⟩
          exact ⟨s1, fun q hq => s2 q (List.mem_cons_of_mem _ hq)⟩
        · rintro ⟨s1, s2⟩
          refine ⟨s1, fun q hq => ?_⟩
          rcases List.mem_cons.mp hq with w | w
          · rw [w]
            show v q1 = v q2
            rw [sol_rt hw s1 p1, sol_rt hw s1 p2, e]
          · exact s2 q w
      rw [if_neg (fun z => e ((nI_eq (by omega) (by omega)).mp z))]
      -- a link without new pairs
      have simple : ∀ a b, ((a = rt H q1 ∧ b = rt H q2) ∨ (a = rt H q2 ∧ b = rt H q1)) → (gso H a = 0 ∨ (gso H a = 1 ∧ gso H b = 1)) → ∃ r τ', Md_join_16 F f (sa τ 29 a (nI b)) (nI (2 * PL.length)) = some (r, τ') ∧ sx [] [29, 53] τ0 τ' ∧ ((r = 1 ∧ ∃ H', MR τ0 H0 x y τ' H' []) ∨ (r = 0 ∧ clash H0 x y)) := by
        intro a b hab hs
        have hne : a ≠ b := by
          rcases hab with ⟨z1, z2⟩ | ⟨z1, z2⟩
          · rw [z1, z2]; exact fun z => e z.symm
          · rw [z1, z2]; exact e
        obtain ⟨l1, l2, l3, l4, l5, l6, l7⟩ := mr_link hh hab hne
        refine ih f _ (lkG H a b) PL ⟨l4, c2, stL_cg _ (fun i _ => by simp [zs]) s3, fun q hq => c4 q (List.mem_cons_of_mem _ hq), by simp only [List.length_cons] at c5; omega, fun v => ?_, sx_sa c7 (by decide) _ _⟩ (by
          unfold muM at hmu ⊢
          simp only [List.length_cons] at hmu
          show 2 * (gn H - nrt (lkG H a b)) + _ ≤ _
          omega) (by omega)
        rw [c6 v, lk_1 hw l5.2 l6.2 hne l5.1 l6.1 hs v]
        constructor
        · rintro ⟨s1, s2⟩
          exact ⟨⟨s1, (l7 v s1).mp (s2 (q1, q2) List.mem_cons_self)⟩, fun q hq => s2 q (List.mem_cons_of_mem _ hq)⟩
        · rintro ⟨⟨s1, s2⟩, s3⟩
          refine ⟨s1, fun q hq => ?_⟩
          rcases List.mem_cons.mp hq with w | w
          · rw [w]; exact (l7 v s1).mpr s2
          · exact s3 q w
      by_cases h2 : gso H (rt H q2) = 0
      · rw [if_pos (show nI (gso H (rt H q2)) = (0 : Int32) by rw [h2]; rfl)]
        exact simple _ _ (Or.inr ⟨rfl, rfl⟩) (Or.inl h2)
      rw [if_neg (show ¬ nI (gso H (rt H q2)) = (0 : Int32) from fun z => h2 ((hz _ r2 0 (by omega)).mp z))]
      by_cases h1 : gso H (rt H q1) = 0
      · rw [if_pos (show nI (gso H (rt H q1)) = (0 : Int32) by rw [h1]; rfl)]
        exact simple _ _ (Or.inl ⟨rfl, rfl⟩) (Or.inl h1)
      rw [if_neg (show ¬ nI (gso H (rt H q1)) = (0 : Int32) from fun z => h1 ((hz _ r1 0 (by omega)).mp z))]
      have b1 := (hw.1 _ r1).1
      have b2 := (hw.1 _ r2).1
      by_cases h3 : gso H (rt H q2) = gso H (rt H q1)
      · rw [if_pos (by rw [h3])]
        by_cases h4 : gso H (rt H q2) = 2
        · rw [if_pos (show nI (gso H (rt H q2)) = (2 : Int32) by rw [h4]; rfl)]
          have h4' : gso H (rt H q1) = 2 := by omega
          obtain ⟨l1, l2, l3, l4, l5, l6, l7⟩ := mr_link hh (a := rt H q2) (b := rt H q1) (Or.inr ⟨rfl, rfl⟩) e
          obtain ⟨m1, m2⟩ := (c1.2.2.2.2 _ r1).2.2 h4'
          obtain ⟨m3, m4⟩ := (c1.2.2.2.2 _ r2).2.2 h4
          obtain ⟨u1, u2⟩ := (hw.1 _ r1).2.2 h4'
          obtain ⟨u3, u4⟩ := (hw.1 _ r2).2.2 h4
          rw [m1, m2, m3, m4]
          obtain ⟨τ1, hτ1⟩ : ∃ τ1, τ1 = sa (sa (sa (sa (sa τ 29 (rt H q2) (nI (rt H q1))) 53 (2 * PL.length) (nI (gri H (rt H q2)))) 53 (2 * PL.length + 1) (nI (gri H (rt H q1)))) 53 (2 * PL.length + 2) (nI (gle H (rt H q2)))) 53 (2 * PL.length + 3) (nI (gle H (rt H q1))) := ⟨_, rfl⟩
          rw [← hτ1]
          have r53 : ∀ i, ga τ1 53 i = if i = 2 * PL.length + 3 then nI (gle H (rt H q1)) else if i = 2 * PL.length + 2 then nI (gle H (rt H q2)) else if i = 2 * PL.length + 1 then nI (gri H (rt H q1)) else if i = 2 * PL.length then nI (gri H (rt H q2)) else ga τ 53 i := by
            intro i; rw [hτ1]; simp [zs, up_at]
          have hms : MS τ1 (lkG H (rt H q2) (rt H q1)) := MS_cg (τ := sa τ 29 (rt H q2) (nI (rt H q1))) (by rw [hτ1]; simp [zs]) (fun k _ => by rw [hτ1]; simp [zs]) l4
          have hlen2 : 2 * PL.length + 4 = 2 * ((gle H (rt H q1), gle H (rt H q2)) :: (gri H (rt H q1), gri H (rt H q2)) :: PL).length := by simp only [List.length_cons]; omega
          rw [hlen2]
          refine ih f τ1 (lkG H (rt H q2) (rt H q1)) ((gle H (rt H q1), gle H (rt H q2)) :: (gri H (rt H q1), gri H (rt H q2)) :: PL) ⟨hms, c2, ⟨?_, ?_, ?_, ?_, ?_⟩, fun q hq => ?_, by simp only [List.length_cons] at c5 ⊢; omega, fun v => ?_, ?_⟩ (by
            unfold muM at hmu ⊢
            simp only [List.length_cons] at hmu ⊢
            show 2 * (gn H - nrt (lkG H (rt H q2) (rt H q1))) + _ ≤ _
            omega) (by omega)
          · simp only [List.length_cons, flt_len]
            rw [r53, if_pos (by omega)]
          · simp only [List.length_cons, flt_len]
            rw [r53, if_neg (by omega), if_pos (by omega)]
          · simp only [List.length_cons, flt_len]
            rw [r53, if_neg (by omega), if_neg (by omega), if_pos (by omega)]
          · rw [flt_len, r53, if_neg (by omega), if_neg (by omega), if_neg (by omega), if_pos rfl]
          · refine stL_cg _ (fun i hi => ?_) s3
            rw [flt_len] at hi
            rw [r53, if_neg (by omega), if_neg (by omega), if_neg (by omega), if_neg (by omega)]
          · show q.1 < gn H ∧ q.2 < gn H
            rcases List.mem_cons.mp hq with w | w
            · rw [w]; exact ⟨u1, u3⟩
            · rcases List.mem_cons.mp w with w | w
              · rw [w]; exact ⟨u2, u4⟩
              · exact c4 q (List.mem_cons_of_mem _ w)
          · rw [c6 v]
            have hlk := lk_2 hw l5.2 l6.2 e l5.1 l6.1 h4 h4' v
            constructor
            · rintro ⟨s1, s2⟩
              obtain ⟨z1, z2, z3⟩ := hlk.mpr ⟨s1, (l7 v s1).mp (s2 (q1, q2) List.mem_cons_self)⟩
              refine ⟨z1, fun q hq => ?_⟩
              rcases List.mem_cons.mp hq with w | w
              · rw [w]; exact z2.symm
              · rcases List.mem_cons.mp w with w | w
                · rw [w]; exact z3.symm
                · exact s2 q (List.mem_cons_of_mem _ w)
            · rintro ⟨s1, s2⟩
              have z2 := s2 _ List.mem_cons_self
              have z3 := s2 _ (List.mem_cons_of_mem _ List.mem_cons_self)
              obtain ⟨v1, v2⟩ := hlk.mp ⟨s1, z2.symm, z3.symm⟩
              refine ⟨v1, fun q hq => ?_⟩
              rcases List.mem_cons.mp hq with w | w
              · rw [w]; exact (l7 v v1).mpr v2
              · exact s2 q (List.mem_cons_of_mem _ (List.mem_cons_of_mem _ w))
          · rw [hτ1]
            exact sx_sa (sx_sa (sx_sa (sx_sa (sx_sa c7 (by decide) _ _) (by decide) _ _) (by decide) _ _) (by decide) _ _) (by decide) _ _
        · rw [if_neg (show ¬ nI (gso H (rt H q2)) = (2 : Int32) from fun z => h4 ((hz _ r2 2 (by omega)).mp z))]
          exact simple _ _ (Or.inr ⟨rfl, rfl⟩) (Or.inr ⟨by omega, by omega⟩)
      · rw [if_neg (fun z => h3 ((nI_eq (by omega) (by omega)).mp z))]
        refine ⟨0, τ, rfl, c7, Or.inr ⟨rfl, fun v hv hxy => ?_⟩⟩
        obtain ⟨u1, u2⟩ := (c6 v).mp ⟨hv, hxy⟩
        have hq := u2 (q1, q2) List.mem_cons_self
        have hq' : v (rt H q1) = v (rt H q2) := by rw [← sol_rt hw u1 p1, ← sol_rt hw u1 p2]; exact hq
        have ro1 := rt_root hw p1
        have ro2 := rt_root hw p2
        rcases (show (gso H (rt H q1) = 1 ∧ gso H (rt H q2) = 2) ∨ (gso H (rt H q1) = 2 ∧ gso H (rt H q2) = 1) by omega) with ⟨z1, z2⟩ | ⟨z1, z2⟩
        · exact no_sol hw r1 r2 ro1 ro2 z1 z2 u1 hq'
        · exact no_sol hw r2 r1 ro2 ro1 z2 z1 u1 hq'.symm
end K
