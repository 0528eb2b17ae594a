/-! The reference does the acts of a type. Own text. -/
def SV (τ0 : zS) (lg : Nat → Bool) (lx : Nat → TE) (lo N : Nat) (τ : zS) (H : SG) (dom : Nat → Prop) (m : Nat → Nat) (E : List EQ) : Prop := sx [48] [6, 26, 27, 28, 29, 30, 53, 54] τ0 τ ∧ RV τ H dom m E ∧ lkI τ0 τ H dom m lg lx lo N
def okO {β : Type} (τ0 : zS) (lg : Nat → Bool) (lx : Nat → TE) (lo N : Nat) (Lp : Nat → zS → Nat → Option β) (τ : zS) (H : SG) (dom : Nat → Prop) (m : Nat → Nat) (E : List EQ) (a f la : Nat) (L : List EQ) (P : List Nat) (Q : zS → SG → (Nat → Prop) → (Nat → Nat) → Prop) : Prop :=
  (∃ τ' H' dom' m', Lp f τ a = Lp (f - la) τ' (a + la) ∧ SV τ0 lg lx lo N τ' H' dom' m' (E ++ L) ∧ xt H dom m H' dom' m' ∧ gn H' ≤ gn H + 2 * la ∧ (∀ z, dom' z → dom z ∨ z ∈ P) ∧ (∀ l, l ∉ P → ga τ' 6 l = ga τ 6 l) ∧ Q τ' H' dom' m') ∨ (∃ τ' Ea e Eb f' a', Lp f τ a = Lp f' τ' a' ∧ f - la ≤ f' ∧ a' ≤ a + la ∧ E ++ L = Ea ++ e :: Eb ∧ sx [8, 9, 10, 48, 79, 80] [6, 26, 27, 28, 29, 30, 53, 54] τ0 τ' ∧ rvE τ' Ea e H dom m ∧ knd τ' (gn H + 2 * la))
section A
variable {β : Type} {F : Nat} {τ0 : zS} {lg : Nat → Bool} {lx : Nat → TE} {lo N : Nat} {Lp : Nat → zS → Nat → Option β} {x2 : Int32} {aE : Nat}
theorem ok_map {τ : zS} {H : SG} {dom : Nat → Prop} {m : Nat → Nat} {E : List EQ} {a f la : Nat} {L : List EQ} {P : List Nat} {Q Q' : zS → SG → (Nat → Prop) → (Nat → Nat) → Prop} (h : okO τ0 lg lx lo N Lp τ H dom m E a f la L P Q) (g : ∀ τ' H' dom' m', SV τ0 lg lx lo N τ' H' dom' m' (E ++ L) → xt H dom m H' dom' m' → (∀ l, l ∉ P → ga τ' 6 l = ga τ 6 l) → Q τ' H' dom' m' → Q' τ' H' dom' m') : okO τ0 lg lx lo N Lp τ H dom m E a f la L P Q' := by
  rcases h with ⟨τ', H', dom', m', a1, a2, a3, a4, a5, a6, a7⟩ | h
  · exact Or.inl ⟨τ', H', dom', m', a1, a2, a3, a4, a5, a6, g τ' H' dom' m' a2 a3 a6 a7⟩
  · exact Or.inr h
theorem ok_bind {τ : zS} {H : SG} {dom : Nat → Prop} {m : Nat → Nat} {E : List EQ} {a f la1 la2 : Nat} {L1 L2 : List EQ} {P1 P2 : List Nat} {Q1 Q2 : zS → SG → (Nat → Prop) → (Nat → Nat) → Prop} (h : okO τ0 lg lx lo N Lp τ H dom m E a f la1 L1 P1 Q1) (g : ∀ τ1 H1 dom1 m1, SV τ0 lg lx lo N τ1 H1 dom1 m1 (E ++ L1) → xt H dom m H1 dom1 m1 → gn H1 ≤ gn H + 2 * la1 → (∀ z, dom1 z → dom z ∨ z ∈ P1) → (∀ l, l ∉ P1 → ga τ1 6 l = ga τ 6 l) → Q1 τ1 H1 dom1 m1 → okO τ0 lg lx lo N Lp τ1 H1 dom1 m1 (E ++ L1) (a + la1) (f - la1) la2 L2 P2 Q2) : okO τ0 lg lx lo N Lp τ H dom m E a f (la1 + la2) (L1 ++ L2) (P1 ++ P2) Q2 := by
  rcases h with ⟨τ1, H1, dom1, m1, a1, a2, a3, a4, a5, a6, a7⟩ | ⟨τ', Ea, e, Eb, f', a', b1, b2, b3, b4, b5, b6, b7⟩
  · rcases g τ1 H1 dom1 m1 a2 a3 a4 a5 a6 a7 with ⟨τ', H', dom', m', c1, c2, c3, c4, c5, c6, c7⟩ | ⟨τ', Ea, e, Eb, f', a', b1, b2, b3, b4, b5, b6, b7⟩
    · refine Or.inl ⟨τ', H', dom', m', by rw [a1, c1, Nat.sub_sub, Nat.add_assoc], by rw [← List.append_assoc]; exact c2, xt_tr a3 c3, by omega, fun z hz => ?_, fun l hl => ?_, c7⟩
      · rcases c5 z hz with y | y
        · rcases a5 z y with w | w
          · exact Or.inl w
          · exact Or.inr (List.mem_append_left _ w)
        · exact Or.inr (List.mem_append_right _ y)
      · rw [c6 l (fun z => hl (List.mem_append_right _ z)), a6 l (fun z => hl (List.mem_append_left _ z))]
    · exact Or.inr ⟨τ', Ea, e, Eb, f', a', by rw [a1, b1], by omega, by omega, by rw [← List.append_assoc]; exact b4, b5, (by obtain ⟨Hf, df, mf, u1, u2⟩ := b6; exact ⟨Hf, df, mf, u1, xt_tr a3 u2⟩), knd_mo b7 (by omega)⟩
  · exact Or.inr ⟨τ', Ea, e, Eb ++ L2, f', a', b1, by omega, by omega, by rw [← List.append_assoc, b4]; simp, b5, b6, knd_mo b7 (by omega)⟩
theorem ok_nil {τ : zS} {H : SG} {dom : Nat → Prop} {m : Nat → Nat} {E : List EQ} {a f : Nat} {Q : zS → SG → (Nat → Prop) → (Nat → Nat) → Prop} (h : SV τ0 lg lx lo N τ H dom m E) (hq : Q τ H dom m) : okO τ0 lg lx lo N Lp τ H dom m E a f 0 [] [] Q :=
  Or.inl ⟨τ, H, dom, m, rfl, by rw [List.append_nil]; exact h, xt_rfl _ _ _, by omega, fun z hz => Or.inl hz, fun _ _ => rfl, hq⟩
/-- acts that only equate -/
theorem ok_eq (hLp : ∀ f τ a, gi τ 8 = 0 → sx [48] [6, 26, 27, 28, 29, 30, 53, 54] τ0 τ → a < aE → Lp (f + 1) τ a = bv (Md_doAct F τ (nI a) x2) (fun s => Lp f s (a + 1))) {τ : zS} {H : SG} {dom : Nat → Prop} {m : Nat → Nat} {E : List EQ} {a f : Nat} {e : EQ} (h : SV τ0 lg lx lo N τ H dom m E) (ha : a < aE) (hf : 0 < f) (hd : ∃ τ', Md_doAct F τ (nI a) x2 = some τ' ∧ ((sx [] [29, 30, 53, 54] τ τ' ∧ ∃ H', RV τ' H' dom m (E ++ [e]) ∧ xt H dom m H' dom m ∧ gn H' = gn H) ∨ (sx [8, 9, 10, 79, 80] [29, 30, 53, 54] τ τ' ∧ rvG τ' E e H dom m))) : okO τ0 lg lx lo N Lp τ H dom m E a f 1 [e] [] (fun _ _ _ _ => True) := by
  obtain ⟨f, rfl⟩ : ∃ f', f = f' + 1 := ⟨f - 1, by omega⟩
  obtain ⟨s1, s2, s3⟩ := h
  obtain ⟨τ', d1, d2⟩ := hd
  have e0 : Lp (f + 1) τ a = Lp f τ' (a + 1) := by rw [hLp f τ a s2.2.2.2.1 s1 ha, d1, bv_some]
  rcases d2 with ⟨c1, H', c2, c3, c4⟩ | ⟨c1, c2⟩
  · exact Or.inl ⟨τ', H', dom, m, e0, ⟨sx_tr s1 (sx_mono (by decide) (by decide) c1), c2, lkI_cg s3 (fun l _ => by rw [c1.2.1 6 (by decide)]) c3⟩, c3, by omega, fun z hz => Or.inl hz, fun l _ => by rw [c1.2.1 6 (by decide)], trivial⟩
  · exact Or.inr ⟨τ', E, e, [], f, a + 1, e0, by omega, by omega, rfl, sx_tr (sx_mono (by decide) (by decide) s1) (sx_mono (by decide) (by decide) c1), ⟨H, dom, m, c2, xt_rfl _ _ _⟩, gn H, (c1.1 48 (by decide)).trans s2.1.1, by omega⟩
theorem ok_app (hF : 20000 ≤ F) (hLp : ∀ f τ a, gi τ 8 = 0 → sx [48] [6, 26, 27, 28, 29, 30, 53, 54] τ0 τ → a < aE → Lp (f + 1) τ a = bv (Md_doAct F τ (nI a) x2) (fun s => Lp f s (a + 1))) (haE : aE ≤ 1600) (hlg : ∀ l, lg l = true → ga τ0 2 l = 0 ∨ ga τ0 2 l = 1) {τ : zS} {H : SG} {dom : Nat → Prop} {m : Nat → Nat} {E : List EQ} {a f n n1 n2 k1 k2 p : Nat} {e1 e2 : TE} (h : SV τ0 lg lx lo N τ H dom m E) (ha : a < aE) (hf : 0 < f) (hH : gn H + 2 ≤ 4000) (hn : ¬ dom n) (hn' : n < 1000) (hn1 : n1 < 1000) (hn2 : n2 < 1000) (h2 : ga τ0 2 n = 2) (h7 : ga τ0 7 a = 0) (h8 : ga τ0 8 a = nI n) (h9 : ga τ0 9 a = nI p) (h4 : ga τ0 4 n = nI n1) (h5 : ga τ0 5 n = nI n2) (k1' : ga τ 6 n1 = nI k1) (k2' : ga τ 6 n2 = nI k2) (r1 : rp H dom m k1 e1) (r2 : rp H dom m k2 e2) : okO τ0 lg lx lo N Lp τ H dom m E a f 1 [(e1, .op e2 (.var (n + 1)), p)] [n] (fun τ' H' dom' m' => ∃ k, ga τ' 6 n = nI k ∧ rp H' dom' m' k (.var (n + 1))) := by
  obtain ⟨f, rfl⟩ : ∃ f', f = f' + 1 := ⟨f - 1, by omega⟩
  obtain ⟨s1, s2, s3⟩ := h
  obtain ⟨τ', d1, d2⟩ := da_app (F := F) (a := a) (x2 := x2) hF s2 hH hn (by omega) hn' hn1 hn2 (by rw [s1.2.1 7 (by decide)]; exact h7) (by rw [s1.2.1 8 (by decide)]; exact h8) (by rw [s1.2.1 9 (by decide)]; exact h9) (by rw [s1.2.1 4 (by decide)]; exact h4) (by rw [s1.2.1 5 (by decide)]; exact h5) k1' k2' r1 r2
  have e0 : Lp (f + 1) τ a = Lp f τ' (a + 1) := by rw [hLp f τ a s2.2.2.2.1 s1 ha, d1, bv_some]
  rcases d2 with ⟨c1, H', dom', m', k, c2, c3, c4, c5, c6, c7⟩ | ⟨c1, c2, c9⟩
  · refine Or.inl ⟨τ', H', dom', m', e0, ⟨sx_tr s1 (sx_mono (by decide) (by decide) c1), c2, fun l l0 l1 => ?_⟩, c3, by omega, fun z hz => (c5 z hz).imp id (fun y => by rw [y]; exact List.mem_singleton.mpr rfl), fun l hl => by rw [c6, if_neg (fun y => hl (by rw [y]; exact List.mem_singleton.mpr rfl))], k, by rw [c6, if_pos rfl], c7⟩
    obtain ⟨b1, b2⟩ := s3 l l0 l1
    have hne : (ga τ0 2 l = 3 ∨ ga τ0 2 l = 4) ∨ lg l = true → l ≠ n := by
      intro z y
      subst y
      rcases z with (z | z) | z
      · rw [h2] at z; exact absurd z (by decide)
      · rw [h2] at z; exact absurd z (by decide)
      · rcases hlg l z with w | w <;> rw [h2] at w <;> exact absurd w (by decide)
    refine ⟨fun z => by rw [c6, if_neg (hne (Or.inl z))]; exact b1 z, fun z => ?_⟩
    obtain ⟨k', q1, q2⟩ := b2 z
    exact ⟨k', by rw [c6, if_neg (hne (Or.inr z))]; exact q1, c3 _ _ q2⟩
  · exact Or.inr ⟨τ', E, _, [], f, a + 1, e0, by omega, by omega, rfl, sx_tr (sx_mono (by decide) (by decide) s1) c1, c2, gn H + 2, c9, by omega⟩
variable {pr me : Int32} {ty sm : Int64 → TE}
/-- what becomes of a type -/
def acT {β : Type} (F : Nat) (τ0 : zS) (lg : Nat → Bool) (lx : Nat → TE) (lo N : Nat) (Lp : Nat → zS → Nat → Option β) (aE : Nat) (pr me : Int32) (ty sm : Int64 → TE) (t : TE) : Prop := ∀ (n : Nat) (As : List AE), nd τ0 pr me lo N t n As → (∀ c l, c ∈ lvs t → lo ≤ l → l < N → ga τ0 2 l = nI (lfB c) → gb τ0 3 l = lfN c → ga τ0 4 l = pr → ga τ0 5 l = me → lg l = true ∧ lx l = kE ty sm (.var c) l) → ∀ (τ : zS) (H : SG) (dom : Nat → Prop) (m : Nat → Nat) (E : List EQ) (a f : Nat), SV τ0 lg lx lo N τ H dom m E → acL τ0 a As → a + As.length ≤ aE → (apN τ0 t n).Nodup → (∀ x, x ∈ apN τ0 t n → ¬ dom x) → gn H + 2 * As.length ≤ 4000 → As.length ≤ f → okO τ0 lg lx lo N Lp τ H dom m E a f As.length (eqR τ0 ty sm t n) (apN τ0 t n) (fun τ' H' dom' m' => ∃ k, ga τ' 6 n = nI k ∧ rp H' dom' m' k (kE ty sm t n))
/-- a node's kind stays unless it is an application that is done -/
theorem nd_keep {τ : zS} : ∀ (t : TE) (n : Nat) (As : List AE), nd τ pr me lo N t n As → ga τ 2 n ≠ 2 ∨ n ∈ apN τ t n
  | .var c, n, As, h => Or.inl (by
    rw [h.2.2.1]
    intro z
    have hb : lfB c < 2 := by unfold lfB; omega
    have := (nI_eq (b := 2) (by omega) (by omega)).mp z
    omega)
  | .op (.op (.var 0) f) a, n, As, h => Or.inr (by rw [apN]; simp)
  | .op (.op (.var 1) l) r, n, As, h => Or.inl (by rw [h.2.2.1]; decide)
  | .op (.op (.var 2) (.var _)) t, n, As, h => Or.inl (by rw [h.2.2.1]; decide)
  | .op (.op (.var 3) (.var _)) t, n, As, h => nd_keep t n As h
theorem ac_all (hF : 20000 ≤ F) (hLp : ∀ f τ a, gi τ 8 = 0 → sx [48] [6, 26, 27, 28, 29, 30, 53, 54] τ0 τ → a < aE → Lp (f + 1) τ a = bv (Md_doAct F τ (nI a) x2) (fun s => Lp f s (a + 1))) (haE : aE ≤ 1600) (hlg : ∀ l, lg l = true → ga τ0 2 l = 0 ∨ ga τ0 2 l = 1) (hN : N ≤ 1000) : ∀ t, okT t → acT F τ0 lg lx lo N Lp aE pr me ty sm t := by
  apply tE_ind
  · intro c _ n As hnd hlf τ H dom m E a f hS hac haf hn1 hn2 hG hf
    obtain ⟨d1, d2, d3, d4, d5, d6, rfl⟩ := hnd
    refine ok_nil hS ?_
    obtain ⟨l1, l2⟩ := hlf c n (by rw [lvs]; exact List.mem_singleton.mpr rfl) d1 d2 d3 d4 d5 d6
    obtain ⟨k, k1, k2⟩ := (hS.2.2 n d1 d2).2 l1
    exact ⟨k, k1, by rw [← l2]; exact k2⟩
  · intro t1 t2 ot1 ot2 ih1 ih2 n As hnd hlf τ H dom m E a f hS hac haf hn1 hn2 hG hf
    have hap := (nd_ap hN _ n As hnd).2
    obtain ⟨d1, d2, d3, n1, n2, A1, A2, d4, d5, d6, d7, rfl⟩ := hnd
    have b1 := (nd_bd t1 n1 A1 d6).2
    have b2 := (nd_bd t2 n2 A2 d7).2
    have l1 : nL τ0 n = n1 := by unfold nL; rw [d4, nI_clamp (by omega)]
    have l2 : nR τ0 n = n2 := by unfold nR; rw [d5, nI_clamp (by omega)]
    have eap : apN τ0 (tO t1 t2) n = apN τ0 t1 n1 ++ (apN τ0 t2 n2 ++ [n]) := by
      show apN τ0 t1 (nL τ0 n) ++ apN τ0 t2 (nR τ0 n) ++ [n] = _
      rw [l1, l2, List.append_assoc]
    have eeq : eqR τ0 ty sm (tO t1 t2) n = eqR τ0 ty sm t1 n1 ++ (eqR τ0 ty sm t2 n2 ++ [(kE ty sm t1 n1, .op (kE ty sm t2 n2) (.var (n + 1)), plT t2)]) := by
      show eqR τ0 ty sm t1 (nL τ0 n) ++ eqR τ0 ty sm t2 (nR τ0 n) ++ [(kE ty sm t1 (nL τ0 n), .op (kE ty sm t2 (nR τ0 n)) (.var (n + 1)), plT t2)] = _
      rw [l1, l2, List.append_assoc]
    rw [eap] at hn1 hn2 hap ⊢
    rw [eeq]
    have hlen : (A1 ++ A2 ++ [(0, n, plT t2)]).length = A1.length + (A2.length + 1) := by simp [Nat.add_assoc]
    rw [List.append_assoc, acL_app, acL_app] at hac
    rw [hlen] at haf hG hf ⊢
    obtain ⟨hac1, hac2, ⟨q1, q2, q3⟩, _⟩ := hac
    obtain ⟨p1, p2, p3⟩ := List.nodup_append.mp hn1
    obtain ⟨p4, p5, p6⟩ := List.nodup_append.mp p2
    refine ok_bind (ih1 n1 A1 d6 (fun c l hc => hlf c l (List.mem_append_left _ hc)) τ H dom m E a f hS hac1 (by omega) p1 (fun x hx => hn2 x (List.mem_append_left _ hx)) (by omega) (by omega)) (fun τ1 H1 dom1 m1 S1 X1 G1 D1 K1 Q1 => ?_)
    obtain ⟨k1, u1, u2⟩ := Q1
    have nk1 : n1 ∉ apN τ0 t2 n2 := by
      intro z
      rcases nd_keep t1 n1 A1 d6 with w | w
      · exact w (hap n1 (by simp [z])).2
      · exact p3 n1 w n1 (by simp [z]) rfl
    refine ok_bind (Q1 := fun τ' H' dom' m' => (∃ k, ga τ' 6 n1 = nI k ∧ rp H' dom' m' k (kE ty sm t1 n1)) ∧ ∃ k, ga τ' 6 n2 = nI k ∧ rp H' dom' m' k (kE ty sm t2 n2)) (ok_map (ih2 n2 A2 d7 (fun c l hc => hlf c l (List.mem_append_right _ hc)) τ1 H1 dom1 m1 _ (a + A1.length) (f - A1.length) S1 hac2 (by omega) p4 (fun x hx z => by
        rcases D1 x z with y | y
        · exact hn2 x (by simp [hx]) y
        · exact p3 x y x (by simp [hx]) rfl) (by omega) (by omega)) (fun τ' H' dom' m' _ X2 K2 Q2 => ⟨⟨k1, by rw [K2 n1 nk1]; exact u1, X2 _ _ u2⟩, Q2⟩)) (fun τ2 H2 dom2 m2 S2 X2 G2 D2 K2 Q2 => ?_)
    obtain ⟨⟨k1', v1, v2⟩, k2, v3, v4⟩ := Q2
    exact ok_app hF hLp haE hlg S2 (by omega) (by omega) (by omega) (fun z => by
      rcases D2 n z with y | y
      · rcases D1 n y with w | w
        · exact hn2 n (by simp) w
        · exact p3 n w n (by simp) rfl
      · exact p6 n y n (by simp) rfl) (by omega) (by omega) (by omega) d3 q1 q2 q3 d4 d5 v1 v3 v2 v4
  · intro t1 t2 ot1 ot2 ih1 ih2 n As hnd hlf τ H dom m E a f hS hac haf hn1 hn2 hG hf
    have hap := (nd_ap hN _ n As hnd).2
    obtain ⟨d1, d2, d3, n1, n2, A1, A2, d4, d5, d6, d7, rfl⟩ := hnd
    have b1 := (nd_bd t1 n1 A1 d6).2
    have b2 := (nd_bd t2 n2 A2 d7).2
    have l1 : nL τ0 n = n1 := by unfold nL; rw [d4, nI_clamp (by omega)]
    have l2 : nR τ0 n = n2 := by unfold nR; rw [d5, nI_clamp (by omega)]
    have eap : apN τ0 (tR t1 t2) n = apN τ0 t1 n1 ++ ([] ++ (apN τ0 t2 n2 ++ [])) := by
      show apN τ0 t1 (nL τ0 n) ++ apN τ0 t2 (nR τ0 n) = _
      rw [l1, l2, List.nil_append, List.append_nil]
    have eeq : eqR τ0 ty sm (tR t1 t2) n = eqR τ0 ty sm t1 n1 ++ ([(kE ty sm t1 n1, .var 0, plT t1)] ++ (eqR τ0 ty sm t2 n2 ++ (if isR t2 = true then [] else [(kE ty sm t2 n2, .var 0, plT t2)]))) := by
      show eqR τ0 ty sm t1 (nL τ0 n) ++ [(kE ty sm t1 (nL τ0 n), .var 0, plT t1)] ++ eqR τ0 ty sm t2 (nR τ0 n) ++ (if isR t2 = true then [] else [(kE ty sm t2 (nR τ0 n), .var 0, plT t2)]) = _
      rw [l1, l2, List.append_assoc, List.append_assoc]
    rw [eap] at hn1 hn2 hap ⊢
    rw [eeq]
    have hlen : (A1 ++ [(1, n1, plT t1)] ++ A2 ++ (if isR t2 = true then [] else [(1, n2, plT t2)])).length = A1.length + (1 + (A2.length + (if isR t2 = true then 0 else 1))) := by
      split <;> simp <;> omega
    rw [List.append_assoc, List.append_assoc, acL_app, acL_app, acL_app] at hac
    rw [hlen] at haf hG hf ⊢
    obtain ⟨hac1, ⟨⟨q1, q2, q3⟩, _⟩, hac2, hac3⟩ := hac
    rw [List.length_singleton] at hac2 hac3
    obtain ⟨p1, p2, p3⟩ := List.nodup_append.mp hn1
    rw [List.nil_append, List.append_nil] at p2
    refine ok_map (ok_bind (ih1 n1 A1 d6 (fun c l hc => hlf c l (List.mem_append_left _ hc)) τ H dom m E a f hS hac1 (by omega) p1 (fun x hx => hn2 x (List.mem_append_left _ hx)) (by omega) (by omega)) (fun τ1 H1 dom1 m1 S1 X1 G1 D1 K1 Q1 => ?_)) (fun τ' H' dom' m' S' _ _ _ => ⟨0, (S'.2.2 n d1 d2).1 (Or.inr d3), S'.2.1.2.2.1⟩) (Q := fun _ _ _ _ => True)
    obtain ⟨k1, u1, u2⟩ := Q1
    refine ok_bind (ok_eq hLp S1 (by omega) (by omega) (da_star (a := a + A1.length) hF S1.2.1 (by omega) (by omega) (by rw [S1.1.2.1 7 (by decide)]; exact q1) (by rw [S1.1.2.1 8 (by decide)]; exact q2) (by rw [S1.1.2.1 9 (by decide)]; exact q3) u1 u2)) (fun τ2 H2 dom2 m2 S2 X2 G2 D2 K2 _ => ?_)
    refine ok_bind (ih2 n2 A2 d7 (fun c l hc => hlf c l (List.mem_append_right _ hc)) τ2 H2 dom2 m2 _ (a + A1.length + 1) (f - A1.length - 1) S2 hac2 (by omega) p2 (fun x hx z => by
        rcases D2 x z with y | y
        · rcases D1 x y with w | w
          · exact hn2 x (by simp [hx]) w
          · exact p3 x w x (by simp [hx]) rfl
        · cases y) (by omega) (by omega)) (fun τ3 H3 dom3 m3 S3 X3 G3 D3 K3 Q3 => ?_)
    obtain ⟨k2, v1, v2⟩ := Q3
    by_cases c : isR t2 = true
    · rw [if_pos c, if_pos c]
      exact ok_nil S3 trivial
    · rw [if_neg c] at hac3 haf hf
      rw [if_neg c, if_neg c]
      obtain ⟨⟨w1, w2, w3⟩, _⟩ := hac3
      exact ok_eq hLp S3 (by omega) (by omega) (da_star (a := a + A1.length + 1 + A2.length) hF S3.2.1 (by omega) (by omega) (by rw [S3.1.2.1 7 (by decide)]; exact w1) (by rw [S3.1.2.1 8 (by decide)]; exact w2) (by rw [S3.1.2.1 9 (by decide)]; exact w3) v1 v2)
  · intro p t1 ot1 ih1 n As hnd hlf τ H dom m E a f hS hac haf hn1 hn2 hG hf
    obtain ⟨d1, d2, d3, n1, A1, d4, d6, rfl⟩ := hnd
    have b1 := (nd_bd t1 n1 A1 d6).2
    have l1 : nL τ0 n = n1 := by unfold nL; rw [d4, nI_clamp (by omega)]
    have eap : apN τ0 (tI p t1) n = apN τ0 t1 n1 ++ [] := by
      show apN τ0 t1 (nL τ0 n) = _
      rw [l1, List.append_nil]
    have eeq : eqR τ0 ty sm (tI p t1) n = eqR τ0 ty sm t1 n1 ++ [(kE ty sm t1 n1, .var 0, plT t1)] := by
      show eqR τ0 ty sm t1 (nL τ0 n) ++ [(kE ty sm t1 (nL τ0 n), .var 0, plT t1)] = _
      rw [l1]
    rw [eap] at hn1 hn2 ⊢
    rw [eeq]
    have hlen : (A1 ++ [(1, n1, plT t1)]).length = A1.length + 1 := by simp
    rw [acL_app] at hac
    rw [hlen] at haf hG hf ⊢
    obtain ⟨hac1, ⟨q1, q2, q3⟩, _⟩ := hac
    rw [List.append_nil] at hn1 hn2
    refine ok_map (ok_bind (ih1 n1 A1 d6 hlf τ H dom m E a f hS hac1 (by omega) hn1 hn2 (by omega) (by omega)) (fun τ1 H1 dom1 m1 S1 X1 G1 D1 K1 Q1 => ?_)) (fun τ' H' dom' m' S' _ _ _ => ⟨0, (S'.2.2 n d1 d2).1 (Or.inl d3), S'.2.1.2.2.1⟩) (Q := fun _ _ _ _ => True)
    obtain ⟨k1, u1, u2⟩ := Q1
    exact ok_eq hLp S1 (by omega) (by omega) (da_star (a := a + A1.length) hF S1.2.1 (by omega) (by omega) (by rw [S1.1.2.1 7 (by decide)]; exact q1) (by rw [S1.1.2.1 8 (by decide)]; exact q2) (by rw [S1.1.2.1 9 (by decide)]; exact q3) u1 u2)
  · intro p t1 ot1 ih1 n As hnd hlf
    exact ih1 n As hnd hlf
end A
