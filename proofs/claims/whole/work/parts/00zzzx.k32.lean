/-! The reference solves a group: told kinds and acts. Own text. -/
def wA (gp : Nat → Bool) : List TR → Nat
  | [] => 0
  | (o, _, _, As, _) :: l => (if gp o = true then As.length + 1 else 0) + wA gp l
theorem wA_app (gp : Nat → Bool) : ∀ (l1 l2 : List TR), wA gp (l1 ++ l2) = wA gp l1 + wA gp l2
  | [], l2 => by simp [wA]
  | (o, t, nn, As, me) :: l, l2 => by rw [List.cons_append, wA, wA, wA_app gp l l2]; omega
theorem wA_B {gp : Nat → Bool} {i : Nat} (hg : gp i = true) : ∀ (B : List TR), (∀ e, e ∈ B → e.1 = i) → wA gp B = actT B
  | [], _ => rfl
  | (o, t, nn, As, me) :: B, h => by
    have : o = i := h _ List.mem_cons_self
    rw [wA, this, if_pos hg, wA_B hg B (fun e he => h e (List.mem_cons_of_mem _ he)), actT]
section A
variable {F : Nat} {σ τ0 : zS} {lg : Nat → Bool} {lx : Nat → TE} {N D M g : Nat} {gp : Nat → Bool} {KA TT : Nat → TE}
/-- behind a fault nothing is done -/
theorem sf_164 (hF : 20000 ≤ F) {τ : zS} (h8 : gi τ 8 ≠ 0) (h52 : gi τ 52 = nI D) (hD : D ≤ 16) : ∀ (d f i : Nat), i + d = D → d < f → Md_solve_164 F f τ (nI g) (nI i) = some τ := by
  intro d
  induction d with
  | zero =>
    intro f i hi hf
    obtain ⟨f, rfl⟩ : ∃ f', f = f' + 1 := ⟨f - 1, by omega⟩
    rw [Md_solve_164, Md_solve_b164, h52, if_pos (nI_le (by omega) (by omega)), if_neg h8]
    rfl
  | succ d ih =>
    intro f i hi hf
    obtain ⟨f, rfl⟩ : ∃ f', f = f' + 1 := ⟨f - 1, by omega⟩
    obtain ⟨F', hF'⟩ : ∃ F', F = F' + 1 := ⟨F - 1, by omega⟩
    rw [Md_solve_164, Md_solve_b164, h52, if_neg (nI_ge (by omega) (by omega)), gd_t (inb_nI (by omega) (by omega)), nI_clamp (by omega)]
    have : ∀ F', Md_solve_179 F (Md_solve_164 F f) (F' + 1) τ (nI g) (nI i) (ga τ 39 i) = Md_solve_164 F f τ (nI g) (nI (i + 1)) := by
      intro F'
      rw [Md_solve_179, Md_solve_b179, gd_t (inb_nI (by omega) (by omega)), nI_clamp (by omega), if_neg h8, Md_solve_218, nI_1]
      split <;> rfl
    have h := this F'
    rw [← hF'] at h
    rw [h]
    exact ih f (i + 1) (by omega) (by omega)
theorem sf_179 {τ : zS} (h8 : gi τ 8 ≠ 0) {i f : Nat} {a : Int32} (hi : i < 16) (rc : zS → Int32 → Int32 → Option zS) (hf : 0 < f) : Md_solve_179 F rc f τ (nI g) (nI i) a = rc τ (nI g) (nI (i + 1)) := by
  obtain ⟨f, rfl⟩ : ∃ f', f = f' + 1 := ⟨f - 1, by omega⟩
  rw [Md_solve_179, Md_solve_b179, gd_t (inb_nI (by omega) (by omega)), nI_clamp (by omega), if_neg h8, Md_solve_218, nI_1]
  split <;> rfl
theorem ac_grp (hF : 20000 ≤ F) (hdc : dcP τ0 D) (hlg : ∀ l, lg l = true → ga τ0 2 l = 0 ∨ ga τ0 2 l = 1) (hN : N ≤ 1000) (hgp : ∀ i, i < D → (ga τ0 48 i = nI g ↔ gp i = true)) (hsN : ∀ i, i < D → nI (soN σ i) = ga τ0 33 i ∧ soN σ i ≤ 2) {H0 : SG} {dom0 : Nat → Prop} {m0 : Nat → Nat} (hk : ∀ o, o < D → gp o = true → dkM τ0 H0 dom0 m0 o) : ∀ (d f i : Nat) (l : List TR) (j a0 mc : Nat) (τ : zS) (H : SG) (dom : Nat → Prop) (m : Nat → Nat) (E : List EQ), i + d = D → d < f → soL D i l → tmL σ τ0 D N gp KA lg lx j l → mTL τ0 N a0 mc l → (∀ i', i ≤ i' → i' < D → ga τ0 39 i' = nI (a0 + apos i' l) ∧ ga τ0 40 i' = nI (a0 + apos (i' + 1) l)) → SV τ0 lg lx 0 N τ H dom m E → xt H0 dom0 m0 H dom m → a0 + actT l ≤ 1600 → (alA τ0 l).Nodup → (∀ x, x ∈ alA τ0 l → ¬ dom x) → gn H + 2 * wA gp l ≤ 4000 → (∃ τ' H' dom' m', Md_solve_164 F f τ (nI g) (nI i) = bv (Md_closeGroup F τ' (nI g)) (fun s => some s) ∧ SV τ0 lg lx 0 N τ' H' dom' m' (E ++ mrE σ τ0 D gp KA j l) ∧ xt H0 dom0 m0 H' dom' m' ∧ gn H' ≤ gn H + 2 * wA gp l) ∨ (∃ τ' Ea e Eb, Md_solve_164 F f τ (nI g) (nI i) = some τ' ∧ E ++ mrE σ τ0 D gp KA j l = Ea ++ e :: Eb ∧ sx [8, 9, 10, 48, 79, 80] [6, 26, 27, 28, 29, 30, 53, 54] τ0 τ' ∧ rvF τ' Ea e ∧ knd τ' (gn H + 2 * wA gp l)) := by
  have hD := hdc.2.1
  intro d
  induction d with
  | zero =>
    intro f i l j a0 mc τ H dom m E hi hf hso htm hmT hab hS hxt ha hn1 hn2 hG
    obtain ⟨f, rfl⟩ : ∃ f', f = f' + 1 := ⟨f - 1, by omega⟩
    obtain rfl : l = [] := by
      cases l with
      | nil => rfl
      | cons e l =>
        obtain ⟨o, t, nn, As, me⟩ := e
        obtain ⟨h1, h2, _⟩ := hso
        omega
    refine Or.inl ⟨τ, H, dom, m, ?_, by rw [mrE, List.append_nil]; exact hS, hxt, by omega⟩
    rw [Md_solve_164, Md_solve_b164, hS.1.1 52 (by decide), hdc.1, if_pos (nI_le (by omega) (by omega)), if_pos hS.2.1.2.2.2.1]
    rfl
  | succ d ih =>
    intro f i l j a0 mc τ H dom m E hi hf hso htm hmT hab hS hxt ha hn1 hn2 hG
    obtain ⟨f, rfl⟩ : ∃ f', f = f' + 1 := ⟨f - 1, by omega⟩
    obtain ⟨B, l', rfl, hB, hso'⟩ := so_split l hso
    obtain ⟨tm1, tm2⟩ := tm_app σ τ0 D N gp KA lg lx B l' j htm
    obtain ⟨mT1, mT2⟩ := (mTL_app τ0 N B l' a0 mc).mp hmT
    obtain ⟨h39, h40⟩ := hab i (Nat.le_refl _) (by omega)
    have ap1 : apos i (B ++ l') = 0 := by
      rw [apos_app, apos_0 l' (i + 1) i hso' (by omega)]
      have : ∀ B : List TR, (∀ e, e ∈ B → e.1 = i) → apos i B = 0 := by
        intro B
        induction B with
        | nil => intro _; rfl
        | cons e B ihB =>
          intro h
          obtain ⟨o, t, nn, As, me⟩ := e
          have : o = i := h _ List.mem_cons_self
          rw [apos, if_neg (by omega), ihB (fun e he => h e (List.mem_cons_of_mem _ he))]
      rw [this B hB]
    have ap2 : apos (i + 1) (B ++ l') = actT B := by
      rw [apos_app, apos_0 l' (i + 1) (i + 1) hso' (by omega), apos_B B hB (i + 1) (by omega)]; rfl
    rw [ap1, Nat.add_zero] at h39
    rw [ap2] at h40
    rw [actT_app] at ha
    rw [alA_app] at hn1 hn2
    rw [wA_app] at hG
    obtain ⟨p1, p2, p3⟩ := List.nodup_append.mp hn1
    have hab' : ∀ i', i + 1 ≤ i' → i' < D → ga τ0 39 i' = nI (a0 + actT B + apos i' l') ∧ ga τ0 40 i' = nI (a0 + actT B + apos (i' + 1) l') := by
      intro i' q1 q2
      obtain ⟨w1, w2⟩ := hab i' (by omega) q2
      rw [apos_app, apos_B B hB i' (by omega), ← Nat.add_assoc] at w1
      rw [apos_app, apos_B B hB (i' + 1) (by omega), ← Nat.add_assoc] at w2
      exact ⟨w1, w2⟩
    have e0 : ∀ τ, sx [48] [6, 26, 27, 28, 29, 30, 53, 54] τ0 τ → Md_solve_164 F (f + 1) τ (nI g) (nI i) = Md_solve_179 F (Md_solve_164 F f) F τ (nI g) (nI i) (nI a0) := by
      intro τ hs
      rw [Md_solve_164, Md_solve_b164, hs.1 52 (by decide), hdc.1, if_neg (nI_ge (by omega) (by omega)), gd_t (inb_nI (by omega) (by omega)), nI_clamp (by omega), hs.2.1 39 (by decide), h39]
    have endB : ∀ f' τ, 0 < f' → sx [48] [6, 26, 27, 28, 29, 30, 53, 54] τ0 τ → Md_solve_179 F (Md_solve_164 F f) f' τ (nI g) (nI i) (nI (a0 + actT B)) = Md_solve_164 F f τ (nI g) (nI (i + 1)) := by
      intro f' τ hf' hs
      obtain ⟨f', rfl⟩ : ∃ f2, f' = f2 + 1 := ⟨f' - 1, by omega⟩
      rw [Md_solve_179, Md_solve_b179, gd_t (inb_nI (by omega) (by omega)), nI_clamp (by omega), hs.2.1 40 (by decide), h40, if_pos (nI_le (Nat.le_refl _) (by omega)), Md_solve_218, nI_1]
    rw [e0 τ hS.1, mr_app]
    by_cases cg : gp i = true
    · obtain ⟨so, q, d1, d2, d3, d4, d5, ⟨kr, d6, d7⟩, d8⟩ := hk i (by omega) cg
      have hsNi : soN σ i = so := by
        obtain ⟨w1, w2⟩ := hsN i (by omega)
        exact (nI_eq (by omega) (by omega)).mp (w1.trans d1)
      have hwB : wA gp B = actT B := wA_B cg B hB
      have hLp : ∀ f' τ a, gi τ 8 = 0 → sx [48] [6, 26, 27, 28, 29, 30, 53, 54] τ0 τ → a < a0 + actT B → (fun f' τ a => Md_solve_179 F (Md_solve_164 F f) f' τ (nI g) (nI i) (nI a)) (f' + 1) τ a = bv (Md_doAct F τ (nI a) (nI i)) (fun s => (fun f' τ a => Md_solve_179 F (Md_solve_164 F f) f' τ (nI g) (nI i) (nI a)) f' s (a + 1)) := by
        intro f' τ a h8 hs hlt
        show Md_solve_179 F (Md_solve_164 F f) (f' + 1) τ (nI g) (nI i) (nI a) = _
        rw [Md_solve_179, Md_solve_b179, gd_t (inb_nI (by omega) (by omega)), nI_clamp (by omega), hs.2.1 40 (by decide), h40, if_neg (nI_ge hlt (by omega)), if_pos h8, gd_t (inb_nI (by omega) (by omega)), hs.2.1 48 (by decide), if_pos ((hgp i (by omega)).mpr cg), nI_1]
      have blk := ac_blk (F := F) (σ := σ) (D := D) (gp := gp) (KA := KA) (Lp := fun f' τ a => Md_solve_179 F (Md_solve_164 F f) f' τ (nI g) (nI i) (nI a)) (aE := a0 + actT B) hF (i := i) (so := so) (kr := kr) (by omega) hLp (by omega) hlg hN cg d1 d2 hsNi d6 d7 B j mc τ H dom m E a0 F hB tm1 mT1 hS hxt (Nat.le_refl _) p1 (fun x hx => hn2 x (List.mem_append_left _ hx)) (by omega) (by omega)
      rcases blk with ⟨τ1, H1, dom1, m1, a1, a2, a3, a4, a5, a6, _⟩ | ⟨τ', Ea, e, Eb, f', a', b1, b2, b3, b4, b5, b6, b7⟩
      · have a1' : Md_solve_179 F (Md_solve_164 F f) F τ (nI g) (nI i) (nI a0) = Md_solve_179 F (Md_solve_164 F f) (F - actT B) τ1 (nI g) (nI i) (nI (a0 + actT B)) := a1
        rw [a1', endB _ _ (by omega) a2.1]
        rcases ih f (i + 1) l' (j + B.length) (a0 + actT B) (mc + mcT τ0 B) τ1 H1 dom1 m1 _ (by omega) (by omega) hso' tm2 mT2 hab' a2 (xt_tr hxt a3) (by omega) p2 (fun x hx z => by
            rcases a5 x z with y | y
            · exact hn2 x (List.mem_append_right _ hx) y
            · exact p3 x y x hx rfl) (by omega) with ⟨τ', H', dom', m', c1, c2, c3, c4⟩ | ⟨τ', Ea, e, Eb, c1, c2, c3, c4, c5⟩
        · exact Or.inl ⟨τ', H', dom', m', c1, by rw [← List.append_assoc]; exact c2, c3, by rw [wA_app]; omega⟩
        · exact Or.inr ⟨τ', Ea, e, Eb, c1, by rw [← List.append_assoc]; exact c2, c3, c4, knd_mo c5 (by rw [wA_app]; omega)⟩
      · have b1' : Md_solve_179 F (Md_solve_164 F f) F τ (nI g) (nI i) (nI a0) = Md_solve_179 F (Md_solve_164 F f) f' τ' (nI g) (nI i) (nI a') := b1
        have h8 : gi τ' 8 ≠ 0 := by
          obtain ⟨_, _, _, _, _, _, _, _, _, _, w, _⟩ := rvE_F b6
          rw [w]; decide
        refine Or.inr ⟨τ', Ea, e, Eb ++ mrE σ τ0 D gp KA (j + B.length) l', ?_, by rw [← List.append_assoc, b4]; simp, b5, rvE_F b6, knd_mo b7 (by rw [wA_app]; omega)⟩
        rw [b1', sf_179 h8 (by omega) _ (by omega)]
        exact sf_164 (D := D) hF h8 (by rw [b5.1 52 (by decide)]; exact hdc.1) hD d f (i + 1) (by omega) (by omega)
    · have hwB : gn H + 2 * wA gp l' ≤ 4000 := by omega
      have sk : Md_solve_179 F (Md_solve_164 F f) F τ (nI g) (nI i) (nI a0) = Md_solve_164 F f τ (nI g) (nI (i + 1)) := by
        obtain ⟨F', hF'⟩ : ∃ F', F = F' + 1 := ⟨F - 1, by omega⟩
        have : ∀ F', Md_solve_179 F (Md_solve_164 F f) (F' + 1) τ (nI g) (nI i) (nI a0) = Md_solve_164 F f τ (nI g) (nI (i + 1)) := by
          intro F'
          rw [Md_solve_179, Md_solve_b179, gd_t (inb_nI (by omega) (by omega)), nI_clamp (by omega), if_pos hS.2.1.2.2.2.1, gd_t (inb_nI (by omega) (by omega)), hS.1.2.1 48 (by decide), if_neg (fun z => cg ((hgp i (by omega)).mp z)), Md_solve_218, nI_1]
          split <;> rfl
        have h := this F'
        rw [← hF'] at h
        exact h
      rw [sk, mr_skip σ τ0 D gp KA cg B j hB, List.nil_append]
      rcases ih f (i + 1) l' (j + B.length) (a0 + actT B) (mc + mcT τ0 B) τ H dom m E (by omega) (by omega) hso' tm2 mT2 hab' hS hxt (by omega) p2 (fun x hx => hn2 x (List.mem_append_right _ hx)) hwB with ⟨τ', H', dom', m', c1, c2, c3, c4⟩ | ⟨τ', Ea, e, Eb, c1, c2, c3, c4, c5⟩
      · exact Or.inl ⟨τ', H', dom', m', c1, c2, c3, by rw [wA_app]; omega⟩
      · exact Or.inr ⟨τ', Ea, e, Eb, c1, c2, c3, c4, knd_mo c5 (by rw [wA_app]; omega)⟩
end A
