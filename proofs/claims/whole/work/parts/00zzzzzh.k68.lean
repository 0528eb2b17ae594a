/-! A question: the reference solves. Own text. -/
section K
variable {F : Nat} {D N lo : Nat} {KA : Nat → TE} {σ τ0 : zS} {H0 : SG} {rr : Int32}
/-- the leaves of a type stand for what they must -/
theorem la_lf {pr me : Int32} {ty sm : Int64 → TE} (ety : ty = tyF σ D KA) (esm : sm = fun v => .var (cfr pr me v + 1)) {t : TE} (c l : Nat) (_ : c ∈ lvs t) (h1 : lo ≤ l) (_ : l < N) (h2 : ga τ0 2 l = nI (lfB c)) (h3 : gb τ0 3 l = lfN c) (h4 : ga τ0 4 l = pr) (h5 : ga τ0 5 l = me) : laG τ0 lo l = true ∧ laX σ τ0 D KA l = kE ty sm (.var c) l := by
  have hb : lfB c < 2 := by unfold lfB; omega
  by_cases c0 : lfB c = 0
  · rw [c0] at h2
    refine ⟨by unfold laG isLf; rw [h2]; simp [h1]; exact Or.inl nI_0, ?_⟩
    rw [laX, if_pos (h2.trans nI_0), kE, if_pos c0, ety, h3]
  · have c1 : lfB c = 1 := by omega
    rw [c1] at h2
    refine ⟨by unfold laG isLf; rw [h2]; simp [h1]; exact Or.inr rfl, ?_⟩
    rw [laX, if_neg (by rw [h2]; decide), kE, if_neg c0, esm, h3, h4, h5]
theorem lp_end {f a : Nat} {τ : zS} (hf : 0 < f) (h : gi τ 8 ≠ 0) : Md_readAsked_163 F f τ rr (nI a) = some (rr, si τ 2 0) := by
  obtain ⟨f, rfl⟩ : ∃ f', f = f' + 1 := ⟨f - 1, by omega⟩
  rw [Md_readAsked_163, Md_readAsked_b163]
  by_cases c : gi τ 23 ≤ nI a
  · rw [if_pos c]; rfl
  · rw [if_neg c, if_neg h]; rfl
theorem lp_done {f a : Nat} {τ : zS} (hf : 0 < f) (ha : a < 2 ^ 31) (h : gi τ 23 = nI a) : Md_readAsked_163 F f τ rr (nI a) = some (rr, si τ 2 0) := by
  obtain ⟨f, rfl⟩ : ∃ f', f = f' + 1 := ⟨f - 1, by omega⟩
  rw [Md_readAsked_163, Md_readAsked_b163, h, if_pos (nI_le (Nat.le_refl _) ha)]
  rfl
theorem askM (hF : 20000 ≤ F) (hdc : dcN σ τ0 D) (hlf : lfA σ τ0 D lo N) (hK : ∀ y, y < D → ∃ k, ga τ0 49 y = nI k ∧ rp H0 (fun _ => False) (fun z => z) k (KA y)) (h16 : gi τ0 16 = nI N) (h89 : gi τ0 89 = nI lo) (hN : N ≤ 1000) (hlo : lo ≤ N) (hRV : RV τ0 H0 (fun _ => False) (fun z => z) []) {aE : Nat} (h23 : gi τ0 23 = nI aE) (hA : aE ≤ 1600) (hH : gn H0 + (N - lo) + 2 * aE < 4000) {L : List EQ} {P : List Nat} {Q : zS → SG → (Nat → Prop) → (Nat → Nat) → Prop} (hP : ∀ x, x ∈ P → x < 1000) (hok : ∀ τ H dom m, SV τ0 (laG τ0 lo) (laX σ τ0 D KA) lo N τ H dom m [] → (∀ x, x ∈ P → ¬ dom x) → gn H + 2 * aE ≤ 4000 → okO τ0 (laG τ0 lo) (laX σ τ0 D KA) lo N (fun f τ a => Md_readAsked_163 F f τ rr (nI a)) τ H dom m [] 0 F aE L P Q) : (∃ τ' H' dom' m', Md_readAsked_116 F τ0 rr = some (rr, si τ' 2 0) ∧ sx [48] [6, 26, 27, 28, 29, 30, 53, 54] τ0 τ' ∧ RV τ' H' dom' m' L ∧ xt H0 (fun _ => False) (fun z => z) H' dom' m' ∧ Q τ' H' dom' m') ∨ (∃ τ' Ea e Eb, Md_readAsked_116 F τ0 rr = some (rr, si τ' 2 0) ∧ L = Ea ++ e :: Eb ∧ sx [8, 9, 10, 48, 79, 80] [6, 26, 27, 28, 29, 30, 53, 54] τ0 τ' ∧ rvE τ' Ea e H0 (fun _ => False) (fun z => z)) := by
  obtain ⟨τ1, H1, dom1, m1, b1, b2, b3, b4, b5, b6, b7⟩ := la_all (F := F) (E := []) (rr := rr) (by omega) hdc hlf hK h16 h89 hN (N - lo) F lo τ0 H0 _ _ (by omega) (by omega) (Nat.le_refl _) (sx_rfl _ _ _) hRV (fun l h1 h2 => by omega) (fun z hz => hz.elim) (xt_rfl _ _ _) (by omega)
  have e0 : Md_readAsked_116 F τ0 rr = Md_readAsked_163 F F τ1 rr (nI 0) := by
    rw [Md_readAsked_116, h89, b1, Md_readAsked_161, nI_0]
  have hSV : SV τ0 (laG τ0 lo) (laX σ τ0 D KA) lo N τ1 H1 dom1 m1 [] := ⟨sx_mono (by decide) (by decide) b2, b3, b4⟩
  have hnd : ∀ x, x ∈ P → ¬ dom1 x := by
    intro x hx hd
    have h1 := hP x hx
    rcases b5 x hd with z | ⟨l, _, _, _, z⟩
    · omega
    · have := cfr_ge (ga τ0 4 l) (ga τ0 5 l) (gb τ0 3 l)
      omega
  rcases hok τ1 H1 dom1 m1 hSV hnd (by omega) with ⟨τ', H', dom', m', c1, c2, c3, c4, c5, c6, c7⟩ | ⟨τ', Ea, e, Eb, f', a', c1, c2, c3, c4, c5, c6, c7⟩
  · rw [List.nil_append] at c2
    refine Or.inl ⟨τ', H', dom', m', ?_, c2.1, c2.2.1, xt_tr b6 c3, c7⟩
    rw [e0]
    refine Eq.trans c1 ?_
    show Md_readAsked_163 F (F - aE) τ' rr (nI (0 + aE)) = _
    exact lp_done (by omega) (by omega) (by rw [c2.1.1 23 (by decide), h23, Nat.zero_add])
  · rw [List.nil_append] at c4
    refine Or.inr ⟨τ', Ea, e, Eb, ?_, c4, c5, by obtain ⟨Hf, df, mf, u1, u2⟩ := c6; exact ⟨Hf, df, mf, u1, xt_tr b6 u2⟩⟩
    rw [e0]
    refine Eq.trans c1 ?_
    obtain ⟨H, dom, m, x, y, _, _, _, _, _, q8, _⟩ := rvE_F c6
    exact lp_end (by omega) (by rw [q8]; decide)
theorem lp_step {aE : Nat} (h23 : gi τ0 23 = nI aE) (hA : aE ≤ 1600) : ∀ (f : Nat) (τ : zS) (a : Nat), gi τ 8 = 0 → sx [48] [6, 26, 27, 28, 29, 30, 53, 54] τ0 τ → a < aE → Md_readAsked_163 F (f + 1) τ rr (nI a) = bv (Md_doAct F τ (nI a) 0) (fun s => Md_readAsked_163 F f s rr (nI (a + 1))) := by
  intro f τ a h8 hs ha
  rw [Md_readAsked_163, Md_readAsked_b163, hs.1 23 (by decide), h23, if_neg (nI_ge ha (by omega)), if_pos h8, nI_1]
end K
