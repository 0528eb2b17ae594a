/-! The reference does the acts of a group. Own text. -/
def tmL (σ τ0 : zS) (D N : Nat) (gp : Nat → Bool) (KA : Nat → TE) (lg : Nat → Bool) (lx : Nat → TE) : Nat → List TR → Prop
  | _, [] => True
  | j, (o, t, _, _, me) :: l => (okT t ∧ ∀ c n, c ∈ lvs t → n < N → ga τ0 2 n = nI (lfB c) → gb τ0 3 n = lfN c → ga τ0 4 n = nI o → ga τ0 5 n = me → gp o = true → lg n = true ∧ lx n = kE (tyF σ D KA) (smF σ o (keyP σ o j) me) (.var c) n) ∧ tmL σ τ0 D N gp KA lg lx (j + 1) l
theorem so_split {D i : Nat} : ∀ (l : List TR), soL D i l → ∃ B l', l = B ++ l' ∧ (∀ e, e ∈ B → e.1 = i) ∧ soL D (i + 1) l'
  | [], _ => ⟨[], [], rfl, fun e he => (by cases he), trivial⟩
  | (o, t, nn, As, me) :: l, h => by
    obtain ⟨h1, h2, h3⟩ := h
    by_cases e : o = i
    · subst e
      obtain ⟨B, l', q1, q2, q3⟩ := so_split l h3
      refine ⟨(o, t, nn, As, me) :: B, l', by rw [q1]; rfl, fun e he => ?_, q3⟩
      rcases List.mem_cons.mp he with z | z
      · rw [z]
      · exact q2 e z
    · exact ⟨[], (o, t, nn, As, me) :: l, rfl, fun e he => (by cases he), by omega, h2, h3⟩
theorem apos_0 {D : Nat} : ∀ (l : List TR) (lo i : Nat), soL D lo l → i ≤ lo → apos i l = 0
  | [], _, _, _, _ => rfl
  | (o, t, nn, As, me) :: l, lo, i, h, hi => by
    obtain ⟨h1, h2, h3⟩ := h
    rw [apos, if_neg (by omega), apos_0 l o i h3 (by omega)]
theorem apos_B {i : Nat} : ∀ (B : List TR), (∀ e, e ∈ B → e.1 = i) → ∀ i', i < i' → apos i' B = actT B
  | [], _, _, _ => rfl
  | (o, t, nn, As, me) :: B, h, i', hi => by
    have : o = i := h _ List.mem_cons_self
    rw [apos, if_pos (by omega), apos_B B (fun e he => h e (List.mem_cons_of_mem _ he)) i' hi, actT]
theorem mr_app (σ τ : zS) (D : Nat) (gp : Nat → Bool) (KA : Nat → TE) : ∀ (l1 l2 : List TR) (j : Nat), mrE σ τ D gp KA j (l1 ++ l2) = mrE σ τ D gp KA j l1 ++ mrE σ τ D gp KA (j + l1.length) l2
  | [], l2, j => by simp [mrE]
  | (o, t, nn, As, me) :: l, l2, j => by
    rw [List.cons_append, mrE, mrE, mr_app σ τ D gp KA l l2 (j + 1), List.append_assoc, List.length_cons, show j + 1 + l.length = j + (l.length + 1) by omega]
theorem mr_skip (σ τ : zS) (D : Nat) (gp : Nat → Bool) (KA : Nat → TE) {i : Nat} (hg : ¬ gp i = true) : ∀ (B : List TR) (j : Nat), (∀ e, e ∈ B → e.1 = i) → mrE σ τ D gp KA j B = []
  | [], _, _ => rfl
  | (o, t, nn, As, me) :: B, j, h => by
    have : o = i := h _ List.mem_cons_self
    rw [mrE, this, if_neg hg, List.nil_append]
    exact mr_skip σ τ D gp KA hg B (j + 1) (fun e he => h e (List.mem_cons_of_mem _ he))
theorem tm_app (σ τ0 : zS) (D N : Nat) (gp : Nat → Bool) (KA : Nat → TE) (lg : Nat → Bool) (lx : Nat → TE) : ∀ (l1 l2 : List TR) (j : Nat), tmL σ τ0 D N gp KA lg lx j (l1 ++ l2) → tmL σ τ0 D N gp KA lg lx j l1 ∧ tmL σ τ0 D N gp KA lg lx (j + l1.length) l2
  | [], l2, j, h => ⟨trivial, by simpa using h⟩
  | (o, t, nn, As, me) :: l, l2, j, h => by
    obtain ⟨h1, h2⟩ := h
    obtain ⟨h3, h4⟩ := tm_app σ τ0 D N gp KA lg lx l l2 (j + 1) h2
    exact ⟨⟨h1, h3⟩, by rw [List.length_cons, show j + (l.length + 1) = j + 1 + l.length by omega]; exact h4⟩
theorem alA_app (τ : zS) : ∀ (l1 l2 : List TR), alA τ (l1 ++ l2) = alA τ l1 ++ alA τ l2
  | [], l2 => rfl
  | (o, t, nn, As, me) :: l, l2 => by rw [List.cons_append, alA, alA, alA_app τ l l2, List.append_assoc]
section A
variable {β : Type} {F : Nat} {σ τ0 : zS} {lg : Nat → Bool} {lx : Nat → TE} {N D : Nat} {gp : Nat → Bool} {KA : Nat → TE} {Lp : Nat → zS → Nat → Option β} {aE : Nat}
/-- terms of one declaration -/
theorem ac_blk (hF : 20000 ≤ F) {i so kr : Nat} (hi : i < 16) (hLp : ∀ f τ a, gi τ 8 = 0 → sx [48] [6, 26, 27, 28, 29, 30, 53, 54] τ0 τ → a < aE → Lp (f + 1) τ a = bv (Md_doAct F τ (nI a) (nI i)) (fun s => Lp f s (a + 1))) (haE : aE ≤ 1600) (hlg : ∀ l, lg l = true → ga τ0 2 l = 0 ∨ ga τ0 2 l = 1) (hN : N ≤ 1000) (hg : gp i = true) (h33 : ga τ0 33 i = nI so) (hso : so ≤ 2) (hsN : soN σ i = so) (h51 : ga τ0 51 i = nI kr) {H0 : SG} {dom0 : Nat → Prop} {m0 : Nat → Nat} (hkr : rp H0 dom0 m0 kr (rE so i)) : ∀ (B : List TR) (j mc : Nat) (τ : zS) (H : SG) (dom : Nat → Prop) (m : Nat → Nat) (E : List EQ) (a f : Nat), (∀ e, e ∈ B → e.1 = i) → tmL σ τ0 D N gp KA lg lx j B → mTL τ0 N a mc B → SV τ0 lg lx 0 N τ H dom m E → xt H0 dom0 m0 H dom m → a + actT B ≤ aE → (alA τ0 B).Nodup → (∀ x, x ∈ alA τ0 B → ¬ dom x) → gn H + 2 * actT B ≤ 4000 → actT B ≤ f → okO τ0 lg lx 0 N Lp τ H dom m E a f (actT B) (mrE σ τ0 D gp KA j B) (alA τ0 B) (fun _ _ _ _ => True) := by
  intro B
  induction B with
  | nil => intro j mc τ H dom m E a f _ _ _ hS _ _ _ _ _ _; exact ok_nil hS trivial
  | cons e B ih =>
    obtain ⟨o, t, nn, As, me⟩ := e
    intro j mc τ H dom m E a f hB htm hmT hS hxt haf hn1 hn2 hG hf
    obtain rfl : o = i := hB _ List.mem_cons_self
    obtain ⟨⟨t1, t2⟩, t3⟩ := htm
    obtain ⟨⟨m1, m2, m3, m4, m5⟩, m6⟩ := hmT
    rw [alA] at hn1 hn2 ⊢
    rw [actT] at haf hG hf ⊢
    rw [mrE, if_pos hg]
    rw [acL_app] at m2
    obtain ⟨m7, ⟨q1, q2, q3⟩, _⟩ := m2
    obtain ⟨p1, p2, p3⟩ := List.nodup_append.mp hn1
    have b1 := (nd_bd t nn As m1).2
    have hall := ac_all (F := F) (τ0 := τ0) (lg := lg) (lx := lx) (lo := 0) (N := N) (Lp := Lp) (x2 := nI o) (aE := aE) (pr := nI o) (me := me) (ty := tyF σ D KA) (sm := smF σ o (keyP σ o j) me) hF hLp haE hlg hN t t1
    have one := hall nn As m1 (fun c l hc _ hl s1 s2 s3 s4 => t2 c l hc hl s1 s2 s3 s4 hg) τ H dom m E a f hS m7 (by omega) p1 (fun x hx => hn2 x (List.mem_append_left _ hx)) (by omega) (by omega)
    have step : okO τ0 lg lx 0 N Lp τ H dom m E a f (As.length + 1) (eqR τ0 (tyF σ D KA) (smF σ o (keyP σ o j) me) t nn ++ [(kE (tyF σ D KA) (smF σ o (keyP σ o j) me) t nn, rE (soN σ o) o, plT t)]) (apN τ0 t nn ++ []) (fun _ _ _ _ => True) := by
      refine ok_bind one (fun τ1 H1 dom1 m1' S1 X1 G1 D1 K1 Q1 => ?_)
      obtain ⟨k1, u1, u2⟩ := Q1
      by_cases e1 : so = 1
      · rw [if_pos (by rw [h33, e1]; rfl)] at q1
        refine ok_eq hLp S1 (by omega) (by omega) (da_syn (a := a + As.length) hF S1.2.1 (by omega) (by omega) hi (by rw [S1.1.2.1 7 (by decide)]; exact q1) (by rw [S1.1.2.1 8 (by decide)]; exact q2) (by rw [S1.1.2.1 9 (by decide)]; exact q3) u1 (by rw [S1.1.2.1 51 (by decide)]; exact h51) u2 ?_)
        rw [hsN]
        exact X1 _ _ (hxt _ _ hkr)
      · rw [if_neg (by rw [h33]; exact fun z => e1 ((nI_eq (b := 1) (by omega) (by omega)).mp z))] at q1
        have er : rE (soN σ o) o = .var 0 := by rw [hsN, rE, if_neg e1]
        rw [er]
        exact ok_eq hLp S1 (by omega) (by omega) (da_star (a := a + As.length) hF S1.2.1 (by omega) (by omega) (by rw [S1.1.2.1 7 (by decide)]; exact q1) (by rw [S1.1.2.1 8 (by decide)]; exact q2) (by rw [S1.1.2.1 9 (by decide)]; exact q3) u1 u2)
    rw [List.append_nil] at step
    refine ok_bind step (fun τ1 H1 dom1 m1' S1 X1 G1 D1 K1 _ => ?_)
    exact ih (j + 1) _ τ1 H1 dom1 m1' _ (a + (As.length + 1)) (f - (As.length + 1)) (fun e he => hB e (List.mem_cons_of_mem _ he)) t3 (by rw [show a + (As.length + 1) = a + As.length + 1 by omega]; exact m6) S1 (xt_tr hxt X1) (by omega) p2 (fun x hx z => by
      rcases D1 x z with y | y
      · exact hn2 x (List.mem_append_right _ hx) y
      · exact p3 x y x hx rfl) (by omega) (by omega)
end A
