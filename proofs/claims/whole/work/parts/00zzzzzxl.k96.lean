/-! Names shown byte by byte. Own text. -/
theorem dg_s (N b i : Nat) (hb : b < 256) : (N * 256 + b) / 2 ^ (8 * (i + 1)) % 256 = N / 2 ^ (8 * i) % 256 := by
  rw [show 8 * (i + 1) = 8 + 8 * i by omega, Nat.pow_add, ← Nat.div_div_eq_div_mul, show (2 : Nat) ^ 8 = 256 from rfl, show (N * 256 + b) / 256 = N by omega]
theorem nmD_s (N b : Nat) (hb : b < 256) (h0 : b ≠ 0) : ∀ i, nmD (N * 256 + b) (i + 1) = nmD N i ++ [nI b]
  | 0 => by
    rw [nmD, nmD, nmD]
    have : (N * 256 + b) / 2 ^ (8 * 0) % 256 = b := by
      rw [Nat.mul_zero, Nat.pow_zero, Nat.div_one]; omega
    rw [this, if_neg h0]
    rfl
  | i + 1 => by
    rw [nmD, nmD_s N b hb h0 i, dg_s N b i hb]
    show _ = nmD N (i + 1) ++ [nI b]
    rw [nmD, List.append_assoc]
theorem nmD_0 : ∀ i, nmD 0 i = []
  | 0 => rfl
  | i + 1 => by rw [nmD, nmD_0 i, Nat.zero_div, if_pos rfl]; rfl
theorem nmD_val : ∀ (l : List Nat) (a i : Nat), (∀ b, b ∈ l → b < 256 ∧ b ≠ 0) → nmD (valN l a) (i + l.length) = nmD a i ++ l.map nI
  | [], a, i, _ => by simp [valN]
  | b :: l, a, i, h => by
    obtain ⟨h1, h2⟩ := h b List.mem_cons_self
    rw [valN, List.length_cons, show i + (l.length + 1) = i + 1 + l.length by omega, nmD_val l _ (i + 1) (fun b hb => h b (List.mem_cons_of_mem _ hb)), nmD_s a b h1 h2, List.map_cons, List.append_assoc]
    rfl
theorem valN_lt : ∀ (l : List Nat) (a i : Nat), (∀ b, b ∈ l → b < 256) → a < 256 ^ i → valN l a < 256 ^ (i + l.length)
  | [], a, i, _, h => h
  | b :: l, a, i, h, ha => by
    have h1 := h b List.mem_cons_self
    rw [valN, List.length_cons, show i + (l.length + 1) = i + 1 + l.length by omega]
    refine valN_lt l _ (i + 1) (fun b hb => h b (List.mem_cons_of_mem _ hb)) ?_
    rw [Nat.pow_succ]
    omega
theorem valN_ok : ∀ (l : List Nat) (a i : Nat), (∀ b, b ∈ l → b < 128) → (∀ j, j < i → a / 2 ^ (8 * j) % 256 < 128) → ∀ j, j < i + l.length → valN l a / 2 ^ (8 * j) % 256 < 128
  | [], a, i, _, h => h
  | b :: l, a, i, h, ha => by
    have h1 := h b List.mem_cons_self
    rw [valN, List.length_cons, show i + (l.length + 1) = i + 1 + l.length by omega]
    refine valN_ok l _ (i + 1) (fun b hb => h b (List.mem_cons_of_mem _ hb)) (fun j hj => ?_)
    cases j with
    | zero => rw [Nat.mul_zero, Nat.pow_zero, Nat.div_one]; omega
    | succ j => rw [dg_s a b j (by omega)]; exact ha j (by omega)
theorem gdc_nm {c : Nat} (h : gdc c) : nmOk (lfN c) ∧ ∃ b l, nmS (lfN c) = (b :: l).map nI ∧ (∀ x, x ∈ b :: l → (48 ≤ x ∧ x ≤ 57) ∨ (65 ≤ x ∧ x ≤ 90) ∨ (97 ≤ x ∧ x ≤ 122)) ∧ (lfB c = 0 → 65 ≤ b ∧ b ≤ 90) ∧ (lfB c ≠ 0 → 97 ≤ b ∧ b ≤ 122) ∧ lfN c = lN (valN (b :: l) 0) := by
  obtain ⟨b, l, h1, h2, h3, h4, h5⟩ := h
  have hr : ∀ x, x ∈ b :: l → x < 128 ∧ x ≠ 0 := fun x hx => by rcases h2 x hx with z | z | z <;> omega
  have hlt : valN (b :: l) 0 < 2 ^ 64 := by
    have := valN_lt (b :: l) 0 0 (fun x hx => by have := hr x hx; omega) (by decide)
    rw [Nat.zero_add] at this
    have h8 : (256 : Nat) ^ (b :: l).length ≤ 256 ^ 8 := Nat.pow_le_pow_right (by decide) (by simp; omega)
    have e8 : (256 : Nat) ^ 8 = 2 ^ 64 := by decide
    omega
  have eN : nN (lfN c) = valN (b :: l) 0 := by
    unfold nN
    rw [h5, wb_tn hlt]
  refine ⟨fun i hi => ?_, b, l, ?_, h2, h3, h4, h5⟩
  · rw [eN]
    by_cases z : i < (b :: l).length
    · exact valN_ok (b :: l) 0 0 (fun x hx => (hr x hx).1) (fun j hj => by omega) i (by omega)
    · have := valN_ok (b :: l) 0 8 (fun x hx => (hr x hx).1) (fun j _ => by rw [Nat.zero_div]; decide) i (by omega)
      exact this
  · unfold nmS
    rw [eN]
    have := nmD_val (b :: l) 0 (8 - (b :: l).length) (fun x hx => by have := hr x hx; omega)
    have hl : (b :: l).length ≤ 8 := by simp; omega
    rw [show 8 - (b :: l).length + (b :: l).length = 8 by omega, nmD_0, List.nil_append] at this
    exact this
section R
variable {F : Nat} {τ : zS}
theorem com_loop2 {W : List Int32} (hW : W.length ≤ 5900) : ∀ (d f i : Nat) (τ : zS), lnM τ W → i + d = W.length → d < f → ∃ g, Md_commit_2 F f τ (nI i) = some (nI W.length, si (sA τ 56 g) 84 (nI W.length)) ∧ (∀ j, i ≤ j → j < W.length → g j = ga τ 55 j) ∧ (∀ j, j < i → g j = ga τ 56 j) := by
  intro d
  induction d with
  | zero =>
    intro f i τ h hi hf
    obtain ⟨f, rfl⟩ : ∃ f0, f = f0 + 1 := ⟨f - 1, by omega⟩
    refine ⟨ga τ 56, ?_, fun j j1 j2 => by omega, fun j _ => rfl⟩
    rw [Md_commit_2, Md_commit_b2, h.1, if_pos (nI_le (by omega) (by omega)), sA_self]
  | succ d ih =>
    intro f i τ h hi hf
    obtain ⟨f, rfl⟩ : ∃ f0, f = f0 + 1 := ⟨f - 1, by omega⟩
    have h' : lnM (sa τ 56 i (ga τ 55 i)) W := lnM_sx (I := []) (A := [56]) h (sx_sa (sx_rfl _ _ _) (by decide) _ _) (by decide) (by decide)
    obtain ⟨g, g1, g2, g3⟩ := ih f (i + 1) (sa τ 56 i (ga τ 55 i)) h' (by omega) (by omega)
    refine ⟨g, ?_, fun j j1 j2 => ?_, fun j hj => ?_⟩
    · rw [Md_commit_2, Md_commit_b2, h.1, if_neg (nI_ge (by omega) (by omega)), gd_t (inb_nI (by omega) (by omega)), nI_clamp (by omega), nI_1, g1]
      unfold sa
      rw [sA_sA]
    · rcases Nat.eq_or_lt_of_le j1 with w | w
      · subst w
        rw [g3 i (by omega)]
        simp [at_sa]
      · rw [g2 j (by omega) j2]; rfl
    · rw [g3 j (by omega)]
      have : j ≠ i := by omega
      simp [at_sa, this]
theorem commitM2 (hF : 20000 ≤ F) {W : List Int32} (hW : W.length ≤ 5900) (h : lnM τ W) : ∃ τ', Md_commit F τ = some (nI W.length, τ') ∧ sx [84] [56] τ τ' ∧ gi τ' 84 = nI W.length ∧ ∀ (i : Nat) (v : Int32), W[i]? = some v → ga τ' 56 i = v := by
  obtain ⟨g, g1, g2, g3⟩ := com_loop2 (F := F) hW W.length F 0 τ h (by omega) (by omega)
  refine ⟨_, by rw [Md_commit, ← nI_0]; exact g1, sx_si (sx_sA (sx_rfl _ _ _) (by decide) _) (by decide) _, by simp [zs], fun i v hv => ?_⟩
  have hi : i < W.length := by
    rcases Nat.lt_or_ge i W.length with z | z
    · exact z
    · rw [List.getElem?_eq_none z] at hv; cases hv
  have : ga (si (sA τ 56 g) 84 (nI W.length)) 56 = g := by simp [zs]
  rw [this, g2 i (by omega) hi, h.2 i v hv]
end R
