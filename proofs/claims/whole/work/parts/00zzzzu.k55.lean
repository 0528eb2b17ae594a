/-! The stores behind reading. Own text. -/
def iniG (n : Nat) (l r : Nat → Nat) : SG := (n, fun k => if k = 0 then 1 else 2, l, r, fun k => k)
theorem iniG_wf {n : Nat} {l r : Nat → Nat} (h : ∀ k, 1 ≤ k → k < n → l k < n ∧ r k < n) : wfG (iniG n l r) := by
  refine ⟨fun k hk => ⟨?_, hk, fun z => ?_⟩, fun k hk => ⟨0, k, ⟨rfl, rfl⟩, hk, Nat.zero_le _⟩⟩
  · show (if k = 0 then 1 else 2) ≤ 2
    split <;> omega
  · have z' : (if k = 0 then 1 else 2) = 2 := z
    by_cases c : k = 0
    · rw [if_pos c] at z'; cases z'
    · exact h k (by omega) hk
theorem iniG_no (n : Nat) (l r : Nat → Nat) : noO (iniG n l r) := by
  intro k hk _
  show (if k = 0 then 1 else 2) ≠ 0
  split <;> decide
theorem iniG_T {n : Nat} {l r : Nat → Nat} : gT (iniG n l r) 0 = iS ∧ ∀ k, k ≠ 0 → gT (iniG n l r) k = iA (gT (iniG n l r) (l k)) (gT (iniG n l r) (r k)) := by
  refine ⟨gT_1 (by rw [rt_self rfl]; rfl), fun k hk => ?_⟩
  have e : gso (iniG n l r) (rt (iniG n l r) k) = 2 := by
    rw [rt_self rfl]
    show (if k = 0 then 1 else 2) = 2
    rw [if_neg hk]
  rw [gT_2 e, rt_self rfl]
  rfl
section T
variable {σ τ : zS} {S R : Nat}
theorem ini_C (h : KI 1 σ) (h306 : gi σ 306 = nI S) (hS : S ≤ 401) : ∃ G, CS σ G ∧ noO G ∧ gn G = S ∧ ∀ (T : TE) (x : Nat), kdC σ 1 S T x → x < S ∧ ∀ α, ev α T = gT G x := by
  obtain ⟨S', a1, a2, a3, a4, a5, a6⟩ := h
  have e : S' = S := (nI_eq (by omega) (by omega)).mp (a1.symm.trans h306)
  subst e
  obtain ⟨l, hl⟩ : ∃ l : Nat → Nat, l = fun k => (ga σ 23 k).toNatClampNeg := ⟨_, rfl⟩
  obtain ⟨r, hr⟩ : ∃ r : Nat → Nat, r = fun k => (ga σ 24 k).toNatClampNeg := ⟨_, rfl⟩
  have hlr : ∀ k, 1 ≤ k → k < S' → ga σ 23 k = nI (l k) ∧ ga σ 24 k = nI (r k) ∧ l k < S' ∧ r k < S' ∧ ga σ 25 k = -1 := by
    intro k k1 k2
    obtain ⟨b1, ⟨x, x1, x2⟩, y, y1, y2⟩ := a6 k k1 k2
    have e1 : l k = x := by rw [hl]; show (ga σ 23 k).toNatClampNeg = x; rw [x2, nI_clamp (by omega)]
    have e2 : r k = y := by rw [hr]; show (ga σ 24 k).toNatClampNeg = y; rw [y2, nI_clamp (by omega)]
    exact ⟨by rw [e1]; exact x2, by rw [e2]; exact y2, by omega, by omega, b1⟩
  have hw : wfG (iniG S' l r) := iniG_wf (fun k k1 k2 => ⟨(hlr k k1 k2).2.2.1, (hlr k k1 k2).2.2.2.1⟩)
  refine ⟨iniG S' l r, ⟨h306, by show 1 ≤ S'; omega, by show S' ≤ 1713; omega, rfl, rfl, hw, fun k hk => ⟨fun _ => ?_, fun z => absurd rfl z, fun k0 => Or.inr ?_⟩⟩, iniG_no _ _ _, rfl, ?_⟩
  · by_cases c : k = 0
    · rw [c]; exact a5
    · exact (hlr k (by omega) hk).2.2.2.2
  · obtain ⟨q1, q2, _⟩ := hlr k (by omega) hk
    refine ⟨?_, q1, q2⟩
    show (if k = 0 then 1 else 2) = 2
    rw [if_neg k0]
  · intro T
    induction T with
    | var v =>
      intro x hx
      cases v with
      | zero =>
        have hx' : x = 0 := hx
        subst hx'
        exact ⟨by omega, fun α => iniG_T.1.symm⟩
      | succ v => exact absurd hx (by intro z; exact z)
    | op a b iha ihb =>
      intro x hx
      obtain ⟨b1, b2, b3, y, z, b4, b5, b6, b7⟩ := hx
      obtain ⟨q1, q2, q3, q4, _⟩ := hlr x b1 b2
      obtain ⟨u1, u2⟩ := iha y b6
      obtain ⟨v1, v2⟩ := ihb z b7
      have e1 : l x = y := (nI_eq (by omega) (by omega)).mp (q1.symm.trans b4)
      have e2 : r x = z := (nI_eq (by omega) (by omega)).mp (q2.symm.trans b5)
      refine ⟨b2, fun α => ?_⟩
      rw [ev, u2, v2, iniG_T.2 x (by omega), e1, e2]
theorem ini_M (h : KJ τ) (h48 : gi τ 48 = nI R) (hR : R ≤ 4000) : ∃ H, MS τ H ∧ noO H ∧ gn H = R ∧ (0 < gn H ∧ gT H 0 = iS) ∧ ∀ (T : TE) (x : Nat), kdM τ 1 R T x → x < R ∧ ∀ α, ev α T = gT H x := by
  obtain ⟨R', a1, a2, a3, a4, a5, a6, a7⟩ := h
  have e : R' = R := (nI_eq (by omega) (by omega)).mp (a1.symm.trans h48)
  subst e
  obtain ⟨l, hl⟩ : ∃ l : Nat → Nat, l = fun k => (ga τ 27 k).toNatClampNeg := ⟨_, rfl⟩
  obtain ⟨r, hr⟩ : ∃ r : Nat → Nat, r = fun k => (ga τ 28 k).toNatClampNeg := ⟨_, rfl⟩
  have hlr : ∀ k, 1 ≤ k → k < R' → ga τ 27 k = nI (l k) ∧ ga τ 28 k = nI (r k) ∧ l k < R' ∧ r k < R' := by
    intro k k1 k2
    obtain ⟨b1, b2, ⟨x, x1, x2⟩, y, y1, y2⟩ := a7 k k1 k2
    have e1 : l k = x := by rw [hl]; show (ga τ 27 k).toNatClampNeg = x; rw [x2, nI_clamp (by omega)]
    have e2 : r k = y := by rw [hr]; show (ga τ 28 k).toNatClampNeg = y; rw [y2, nI_clamp (by omega)]
    exact ⟨by rw [e1]; exact x2, by rw [e2]; exact y2, by omega, by omega⟩
  have hw : wfG (iniG R' l r) := iniG_wf (fun k k1 k2 => ⟨(hlr k k1 k2).2.2.1, (hlr k k1 k2).2.2.2⟩)
  refine ⟨iniG R' l r, ⟨h48, a2, a3, hw, fun k hk => ⟨?_, ?_, fun z => ?_⟩⟩, iniG_no _ _ _, rfl, ⟨a2, iniG_T.1⟩, ?_⟩
  · show ga τ 26 k = nI (if k = 0 then 1 else 2)
    by_cases c : k = 0
    · rw [if_pos c, c, a5]; rfl
    · rw [if_neg c, (a7 k (by omega) hk).1]; rfl
  · show ga τ 29 k = nI k
    by_cases c : k = 0
    · rw [c]; exact a6
    · exact (a7 k (by omega) hk).2.1
  · have z' : (if k = 0 then 1 else 2) = 2 := z
    by_cases c : k = 0
    · rw [if_pos c] at z'; cases z'
    · exact ⟨(hlr k (by omega) hk).1, (hlr k (by omega) hk).2.1⟩
  · intro T
    induction T with
    | var v =>
      intro x hx
      cases v with
      | zero =>
        have hx' : x = 0 := hx
        subst hx'
        exact ⟨by omega, fun α => iniG_T.1.symm⟩
      | succ v => exact absurd hx (by intro z; exact z)
    | op a b iha ihb =>
      intro x hx
      obtain ⟨b1, b2, b3, b3', y, z, b4, b5, b6, b7⟩ := hx
      obtain ⟨q1, q2, q3, q4⟩ := hlr x b1 b2
      obtain ⟨u1, u2⟩ := iha y b6
      obtain ⟨v1, v2⟩ := ihb z b7
      have e1 : l x = y := (nI_eq (by omega) (by omega)).mp (q1.symm.trans b4)
      have e2 : r x = z := (nI_eq (by omega) (by omega)).mp (q2.symm.trans b5)
      refine ⟨b2, fun α => ?_⟩
      rw [ev, u2, v2, iniG_T.2 x (by omega), e1, e2]
end T
/-- an expression that is a tree is finite -/
theorem ev_fin {T : TE} {t : IT} (h : ∀ α, ev α T = t) : ∃ d, dpt d t := by
  obtain ⟨d, hd⟩ := ev_dpt (α := fun _ => iS) (d := 0) (fun _ => dpt_S 0) T
  rw [h] at hd
  exact ⟨d, hd⟩
section G
variable {F : Nat} {B : Nat → Int32} {n c : Nat} {σ τ : zS} {M D S R : Nat} {TL : List TR}
theorem gk_0 (hF : 1300 ≤ F) (hT : tEnd B n c) (h : TXT B n c σ τ M D S R TL) (hLI : LI 0 τ) (hAI : AI τ) (hDJ : DJ τ) (hKI : KI 1 σ) (hKJ : KJ τ) (hg : ∀ i, i < M → Ch_isBadName F σ (nI i) = some (0, σ)) (h307 : gi σ 307 = 1) (h8 : gi τ 8 = 0) (Nn : Nat → Nat → Bool) : ∃ N G H, GK σ τ G H Nn D M N TL S R 0 := by
  obtain ⟨hnm, hS, hRS, hR1, hM⟩ := txt_nm hT h
  obtain ⟨N, hTS⟩ := ts_ok (F := F) hF hT h hLI hAI hDJ hg
  obtain ⟨σ0, τ0, k, s, N', a, ⟨⟨⟨⟨hC, hO, hme, hs, hN2, ha⟩, ⟨⟨h7, how⟩, hcT, hmT, hso⟩, es, ea, hWK, _, _⟩, ⟨hmB, hS3, hc4⟩, hDC⟩, hAB, _, _, hCL⟩, _⟩ := h
  obtain ⟨G, g1, g2, g3, g4⟩ := ini_C hKI hWK.2.1 hS
  obtain ⟨H, m1, m2, m3, m4, m5⟩ := ini_M hKJ hWK.2.2.1 (by omega)
  have dn0 : ∀ y, dnK Nn D 0 y = false := by
    intro y
    show (decide (y < D) && (none : Option Nat).isSome) = false
    simp
  refine ⟨N, G, H, hTS, g1, m1, g2, m2, ⟨1, h307, Nat.le_refl _, g1.2.1, fun z => by omega⟩, hC.2.2.2.2.2.2.2, h8, m4, fun y hy => ?_, fun y hy _ => ?_, fun i hi hr => ?_, by omega, by omega, hS, by omega, fun o t nn As me _ hd => by rw [dn0] at hd; cases hd⟩
  · rw [dn0] at hy; cases hy
  · obtain ⟨so, q, it, b1, b2, b3, b4, b5, b6, b7, b8, b9, b10, b11, b12, b13, b14⟩ := hDC.2.2.2 y hy
    exact b13
  · obtain ⟨v1, v2, T, x, z, v3, v4, v5, v6⟩ := hWK.2.2.2.2.2.2 i hi hr
    obtain ⟨p1, p2⟩ := g4 T x v5
    obtain ⟨q1, q2⟩ := m5 T z v6
    refine ⟨x, z, v3, v4, by omega, by omega, ?_, ?_⟩
    · rw [← p2 (fun _ => iS), ← q2 (fun _ => iS)]
    · exact ev_fin p2
end G
