/-! A text that has been read is as the solvers want it. Own text. -/
theorem nbA_mem {σ : zS} {D : Nat} : ∀ (M i o y : Nat), i < M → ga σ 43 i = 5 → ga σ 46 i = nI o → o < D → y < D → fTy σ (gb σ 44 i) D 0 = nI y → nbA σ D M o y = true := by
  intro M
  induction M with
  | zero => intro i o y h; omega
  | succ M ih =>
    intro i o y h1 h2 h3 h4 h5 h6
    rw [nbA]
    by_cases e : i = M
    · subst e
      simp [h2, h3, h4, h5, h6]
    · rw [ih i o y (by omega) h2 h3 h4 h5 h6]; rfl
theorem a0_inc {τ : zS} {N A : Nat} (hN : N ≤ 1000) (hAI : ∀ a, a < A → ga τ 7 a = 0 → ∃ x, ga τ 8 a = nI x ∧ x < N ∧ ∀ b, b < a → ga τ 7 b = 0 → ∃ y, ga τ 8 b = nI y ∧ y < x) : ∀ (L : List AE) (i : Nat), acL τ i L → i + L.length ≤ A → (∀ e, e ∈ L → e.2.1 < 1000) → (a0 L).Pairwise (· < ·) ∧ ∀ n, n ∈ a0 L → ∃ a, i ≤ a ∧ a < A ∧ ga τ 7 a = 0 ∧ ga τ 8 a = nI n ∧ n < 1000 := by
  intro L
  induction L with
  | nil => intro i _ _ _; exact ⟨List.Pairwise.nil, fun n hn => (by cases hn)⟩
  | cons e L ih =>
    intro i hac hlen hlt
    rw [List.length_cons] at hlen
    obtain ⟨⟨q1, q2, q3⟩, hac'⟩ := hac
    obtain ⟨p1, p2⟩ := ih (i + 1) hac' (by omega) (fun x hx => hlt x (List.mem_cons_of_mem _ hx))
    have he := hlt e List.mem_cons_self
    by_cases c : e.1 = 0
    · have e0 : a0 (e :: L) = e.2.1 :: a0 L := by simp [a0, c]
      rw [e0]
      have hs0 : ga τ 7 i = 0 := by rw [q1, c]; exact nI_0
      refine ⟨List.Pairwise.cons (fun n hn => ?_) p1, fun n hn => ?_⟩
      · obtain ⟨a, a1, a2, a3, a4, a5⟩ := p2 n hn
        obtain ⟨x, x1, x2, x3⟩ := hAI a a2 a3
        obtain ⟨y, y1, y2⟩ := x3 i (by omega) hs0
        have e1 : x = n := (nI_eq (by omega) (by omega)).mp (x1.symm.trans a4)
        have e2 : y = e.2.1 := (nI_eq (by omega) (by omega)).mp (y1.symm.trans q2)
        omega
      · rcases List.mem_cons.mp hn with z | z
        · rw [z]; exact ⟨i, Nat.le_refl _, by omega, hs0, q2, he⟩
        · obtain ⟨a, a1, a2, a3⟩ := p2 n z
          exact ⟨a, by omega, a2, a3⟩
    · have e0 : a0 (e :: L) = a0 L := by
        have : (e.1 == 0) = false := by simp [c]
        simp [a0, this]
      rw [e0]
      refine ⟨p1, fun n hn => ?_⟩
      obtain ⟨a, a1, a2, a3⟩ := p2 n hn
      exact ⟨a, by omega, a2, a3⟩
/-- all acts of a text -/
def aAll (τ : zS) : List TR → List AE
  | [] => []
  | (o, t, nn, As, _) :: l => As ++ [((if ga τ 33 o = 1 then 2 else 1), nn, plT t)] ++ aAll τ l
theorem nd_acts {τ : zS} {pr me : Int32} {lo hi : Nat} (hh : hi ≤ 1000) : ∀ (t : TE) (n : Nat) (As : List AE), nd τ pr me lo hi t n As → ∀ e, e ∈ As → e.2.1 < 1000
  | .var c, n, As, h => by rw [h.2.2.2.2.2.2]; intro e he; cases he
  | .op (.op (.var 0) f) a, n, As, h => by
    obtain ⟨a1, a2, a3, n1, n2, A1, A2, a4, a5, a6, a7, rfl⟩ := h
    intro e he
    rcases List.mem_append.mp he with z | z
    · rcases List.mem_append.mp z with y | y
      · exact nd_acts hh f n1 A1 a6 e y
      · exact nd_acts hh a n2 A2 a7 e y
    · rw [List.mem_singleton.mp z]; show n < 1000; omega
  | .op (.op (.var 1) l) r, n, As, h => by
    obtain ⟨a1, a2, a3, n1, n2, A1, A2, a4, a5, a6, a7, rfl⟩ := h
    have b1 := (nd_bd l n1 A1 a6).2
    have b2 := (nd_bd r n2 A2 a7).2
    intro e he
    rcases List.mem_append.mp he with z | z
    · rcases List.mem_append.mp z with y | y
      · rcases List.mem_append.mp y with x | x
        · exact nd_acts hh l n1 A1 a6 e x
        · rw [List.mem_singleton.mp x]; show n1 < 1000; omega
      · exact nd_acts hh r n2 A2 a7 e y
    · by_cases c : isR r = true
      · rw [if_pos c] at z; cases z
      · rw [if_neg c] at z
        rw [List.mem_singleton.mp z]; show n2 < 1000; omega
  | .op (.op (.var 2) (.var _)) t, n, As, h => by
    obtain ⟨a1, a2, a3, n1, A1, a4, a5, rfl⟩ := h
    have b1 := (nd_bd t n1 A1 a5).2
    intro e he
    rcases List.mem_append.mp he with z | z
    · exact nd_acts hh t n1 A1 a5 e z
    · rw [List.mem_singleton.mp z]; show n1 < 1000; omega
  | .op (.op (.var 3) (.var _)) t, n, As, h => nd_acts hh t n As h
theorem al_acts {τ : zS} {N : Nat} (hN : N ≤ 1000) : ∀ (l : List TR) (a mc : Nat), mTL τ N a mc l → alA τ l = a0 (aAll τ l) ∧ acL τ a (aAll τ l) ∧ (aAll τ l).length = actT l ∧ (∀ e, e ∈ aAll τ l → e.2.1 < 1000)
  | [], a, mc, _ => ⟨rfl, trivial, rfl, fun e he => (by cases he)⟩
  | (o, t, nn, As, me) :: l, a, mc, h => by
    obtain ⟨⟨m1, m2, m3, m4, m5⟩, m6⟩ := h
    obtain ⟨i1, i2, i3, i4⟩ := al_acts hN l _ _ m6
    have b1 := (nd_bd t nn As m1).2
    have e1 : a0 [((if ga τ 33 o = 1 then 2 else 1), nn, plT t)] = [] := by
      split <;> rfl
    refine ⟨?_, ?_, ?_, fun e he => ?_⟩
    · rw [alA, aAll, a0_app, a0_app, e1, List.append_nil, (nd_ap hN t nn As m1).1, i1]
    · rw [aAll, acL_app]
      refine ⟨m2, ?_⟩
      rw [List.length_append, List.length_singleton, ← Nat.add_assoc]
      exact i2
    · rw [aAll, actT, List.length_append, List.length_append, i3]; rfl
    · rw [aAll] at he
      rcases List.mem_append.mp he with z | z
      · rcases List.mem_append.mp z with y | y
        · exact nd_acts hN t nn As m1 e y
        · rw [List.mem_singleton.mp y]; show nn < 1000; omega
      · exact i4 e z
section T
variable {F : Nat} {B : Nat → Int32} {n c : Nat} {σ τ : zS} {M D S R : Nat} {TL : List TR}
theorem rl_5 {r : Int32} (h : rlM r = 5) : r = 5 := by
  unfold rlM at h
  split at h
  · exact absurd h (by decide)
  · split at h
    · exact absurd h (by decide)
    · split at h
      · exact absurd h (by decide)
      · exact h
theorem rl_6 {r : Int32} (h : rlM r = 6) : r = 6 := by
  unfold rlM at h
  split at h
  · exact absurd h (by decide)
  · split at h
    · exact absurd h (by decide)
    · split at h
      · exact absurd h (by decide)
      · exact h
theorem txt_nm (hT : tEnd B n c) (h : TXT B n c σ τ M D S R TL) : nmR σ τ D M true ∧ S ≤ 401 ∧ R ≤ S ∧ 1 ≤ R ∧ M ≤ 600 := by
  obtain ⟨σ0, τ0, k, s, N, a, ⟨⟨⟨⟨hC, hO, hme, hs, hN2, ha⟩, ⟨⟨h7, how⟩, hcT, hmT, hso⟩, es, ea, hWK, _, _⟩, ⟨hmB, hS3, hc4⟩, hDC⟩, hAB, _, _, hCL⟩, _⟩ := h
  have htp := tkP_le B n k
  have hn := hT.1.1
  have hM : M ≤ 600 := by have := hmB.1; omega
  exact ⟨⟨dcN_of hDC, hC.2.2.2.2.2.2.1, hO.2.2.2.1, hM, hme, fun _ => how, fun z => (by cases z)⟩, by omega, hWK.2.2.2.2.2.1, hWK.2.2.2.2.1, hM⟩
theorem ts_ok (hF : 1300 ≤ F) (hT : tEnd B n c) (h : TXT B n c σ τ M D S R TL) (hLI : LI 0 τ) (hAI : AI τ) (hDJ : DJ τ) (hg : ∀ i, i < M → Ch_isBadName F σ (nI i) = some (0, σ)) : ∃ N, TS σ τ D M N TL := by
  obtain ⟨hnm, hS, hRS, hR1, hM⟩ := txt_nm hT h
  obtain ⟨σ0, τ0, k, s, N, a, ⟨⟨⟨⟨hC, hO, hme, hs, hN2, ha⟩, ⟨⟨h7, how⟩, hcT, hmT, hso⟩, es, ea, hWK, _, _⟩, ⟨hmB, hS3, hc4⟩, hDC⟩, hAB, _, _, hCL⟩, _⟩ := h
  have htp := tkP_le B n k
  have hn := hT.1.1
  have hdc := dcN_of hDC
  have hD := hdc.2.2.1
  have h16 : gi τ 16 = nI N := hO.2.2.2.2.2.1
  have h23 : gi τ 23 = nI a := hO.2.2.2.2.2.2.1
  have hN400 : N ≤ 400 := by omega
  have hdO : dcO σ D := by
    refine ⟨hdc.1, hD, fun i hi => ?_⟩
    obtain ⟨so, q, c1, c2, c3, c4, c5, c6, c7, c8, c9⟩ := hdc.2.2.2 i hi
    refine ⟨so, q, c3, c1, c7, c2, fun z => ?_⟩
    have := hCL i hi (by rw [c3, z]; rfl)
    rw [c7] at this
    exact (nI_eq (b := 1) (by omega) (by omega)).mp this
  have hdP : dcP τ D := by
    refine ⟨hdc.2.1, hD, fun i hi => ?_⟩
    obtain ⟨so, q, c1, c2, c3, c4, c5, c6, c7, c8, c9⟩ := hdc.2.2.2 i hi
    refine ⟨so, q, c4, c1, c8, c2, fun z => ?_⟩
    have := hCL i hi (by rw [c3, z]; rfl)
    rw [c7] at this
    exact (nI_eq (b := 1) (by omega) (by omega)).mp this
  obtain ⟨NA, AA, w1, w2, w3, w4, w5⟩ := hAI
  have eNA : NA = N := (nI_eq (by omega) (by omega)).mp (w1.symm.trans h16)
  have eAA : AA = a := (nI_eq (by omega) (by omega)).mp (w2.symm.trans h23)
  obtain ⟨al1, al2, al3, al4⟩ := al_acts (τ := τ) (N := N) (by omega) TL 0 0 hmT
  obtain ⟨inc1, inc2⟩ := a0_inc (A := AA) w3 w5 (aAll τ TL) 0 al2 (by omega) al4
  refine ⟨N, ⟨hdc, hdO, hdP⟩, ⟨hC.2.2.2.2.2.2.1, hM⟩, ⟨hWK.1, by omega⟩, fun i hi hr => ?_, fun gp => ((td_16 (F := F) hF hnm hg M (Nat.le_refl _)).2), ⟨hcT, h7, by have := hC.2.2.2.2.2.1; rw [es] at this; exact this, by omega, by have := len_lenT TL; omega, hso, ?_⟩, ⟨hmT, hAB, by omega, ?_, ?_, h16, hN400⟩, ⟨fun i o y q1 q2 q3 q4 q5 q6 => nbA_mem M i o y q1 q2 q3 q4 q5 q6, fun i o q1 q2 q3 q4 q5 => ?_⟩, ⟨fTy_int (int_no (F := F) hnm hDJ hg), fun m hm hl => ?_⟩, hWK.2.2.2.1⟩
  · obtain ⟨g1, g2⟩ := good_4 (F := F) hF hnm hi (hg i hi) hr
    obtain ⟨v1, v2, _⟩ := hWK.2.2.2.2.2.2 i hi hr
    exact ⟨g1, v1, v2⟩
  · have : ∀ (l : List TR) (a mc lo : Nat), mTL τ N a mc l → soL D lo l → mMe σ mc l := by
      intro l
      induction l with
      | nil => intro a mc lo _ _; trivial
      | cons e l ih =>
        intro a mc lo hm hso
        obtain ⟨o, t, nn, As, me⟩ := e
        obtain ⟨⟨m1, m2, m3, m4, m5⟩, m6⟩ := hm
        obtain ⟨s1, s2, s3⟩ := hso
        obtain ⟨so, q, c1, c2, c3, c4, _⟩ := hdc.2.2.2 o s2
        have e33 : ga σ 29 o = ga τ 33 o := by rw [c3, c4]
        rw [mMe, e33]
        exact ⟨fun z => by rw [m4, if_pos z], ih _ _ _ m6 s3⟩
    exact this TL 0 0 0 hmT hso
  · rw [al1]
    exact inc1.imp (fun h => Nat.ne_of_lt h)
  · intro x hx
    rw [al1] at hx
    obtain ⟨_, _, _, _, _, z⟩ := inc2 x hx
    exact z
  · obtain ⟨so, q, c1, c2, c3, c4, c5⟩ := hdO.2.2 o q4
    have hq : qN σ o = q := by unfold qN; rw [c3, nI_clamp (by omega)]
    rw [hq]
    exact good_6 (F := F) hF hnm q1 (hg i q1) q2 q4 q3 c3 c4 q5
  · obtain ⟨NL, ML, l1, l2, l3, l4, l5⟩ := hLI
    have eNL : NL = N := (nI_eq (by omega) (by omega)).mp (l1.symm.trans h16)
    have eML : ML = M := (nI_eq (by omega) (by omega)).mp (l2.symm.trans hO.2.2.2.1)
    have hl2 : ga τ 2 m = 0 ∨ ga τ 2 m = 1 := by unfold isLf at hl; simpa using hl
    obtain ⟨i, i1, i2, i3, i4⟩ := l5 m (by omega) (by omega) hl2
    have hiM : i < M := by omega
    obtain ⟨m1, m2, m3, m4, m5⟩ := hme i hiM
    have hrole : (ga τ 2 m = 0 ∧ ga σ 43 i = 5) ∨ (ga τ 2 m = 1 ∧ ga σ 43 i = 6) := by
      rcases hl2 with z | z
      · rw [z] at i2
        exact Or.inl ⟨z, rl_5 (by rw [← m3, i2]; decide)⟩
      · rw [z] at i2
        exact Or.inr ⟨z, rl_6 (by rw [← m3, i2]; decide)⟩
    have hn4 : ga σ 43 i ≠ 4 := by rcases hrole with ⟨_, z⟩ | ⟨_, z⟩ <;> rw [z] <;> decide
    obtain ⟨o, o1, o2⟩ := how i hiM hn4
    have h13 : ga τ 13 i = nI o := by
      rcases m4 with w | ⟨w, _⟩
      · rw [w, o2]
      · rw [o2] at w; exact absurd w (nI_m1 o (by omega))
    refine ⟨o, o1, by rw [← i4, h13], fun z => ?_⟩
    have h5 : ga σ 43 i = 5 := by
      rcases hrole with ⟨_, y⟩ | ⟨y, _⟩
      · exact y
      · rw [z] at y; exact absurd y (by decide)
    rw [← i3, m1]
    rcases good_5 (F := F) hF hnm hiM (hg i hiM) h5 with w | w
    · exact Or.inl w
    · obtain ⟨y, y1, y2, y3, y4, y5⟩ := (fTy_rng σ (gb σ 44 i) D 0).resolve_left w
      exact Or.inr ⟨y, by omega, y3, nbA_mem M i o y hiM h5 o2 o1 (by omega) y3⟩
end T
