/-! Bytes and signs. Own text. -/
def b2i (b : Bool) : Int32 := if b = true then 1 else 0
theorem b2i_isB (b : Bool) : isB (b2i b) = true := by cases b <;> decide
theorem b2i_0 {b : Bool} : b2i b = 0 ↔ b = false := by cases b <;> decide
def upB (x : Int32) : Bool := !decide (x < 65) && !decide (90 < x)
def loB (x : Int32) : Bool := !decide (x < 97) && !decide (122 < x)
def dgB (x : Int32) : Bool := !decide (x < 48) && !decide (57 < x)
def nmB (x : Int32) : Bool := upB x || (loB x || dgB x)
section LX
variable {F : Nat} {σ : zS} {x : Int32}
theorem big_ok : Ta_isBigLetter F σ x = some (b2i (upB x), σ) := by
  unfold Ta_isBigLetter Ta_isBigLetter_16 Ta_isBigLetter_17 upB b2i
  by_cases h1 : x < 65 <;> by_cases h2 : 90 < x <;> simp [h1, h2, gd, isB]
theorem small_ok : Ta_isSmallLetter F σ x = some (b2i (loB x), σ) := by
  unfold Ta_isSmallLetter Ta_isSmallLetter_16 Ta_isSmallLetter_17 loB b2i
  by_cases h1 : x < 97 <;> by_cases h2 : 122 < x <;> simp [h1, h2, gd, isB]
theorem upper_ok : Md_isUpper F σ x = some (b2i (upB x), σ) := by
  unfold Md_isUpper Md_isUpper_16 Md_isUpper_17 upB b2i
  by_cases h1 : x < 65 <;> by_cases h2 : 90 < x <;> simp [h1, h2, gd, isB]
theorem lower_ok : Md_isLower F σ x = some (b2i (loB x), σ) := by
  unfold Md_isLower Md_isLower_16 Md_isLower_17 loB b2i
  by_cases h1 : x < 97 <;> by_cases h2 : 122 < x <;> simp [h1, h2, gd, isB]
theorem nameB_ok : Ta_isNameByte F σ x = some (b2i (nmB x), σ) := by
  unfold Ta_isNameByte Ta_isNameByte_26 Ta_isNameByte_30 Ta_isNameByte_31
  rw [big_ok, bi_some]
  unfold nmB
  cases hu : upB x
  · rw [if_pos (b2i_0.mpr rfl), small_ok, bi_some]
    cases hl : loB x
    · rw [if_pos (b2i_0.mpr rfl)]
      unfold dgB
      by_cases h1 : x < 48 <;> by_cases h2 : 57 < x <;> simp [h1, h2, gd, isB, b2i]
    · rw [if_neg (by decide)]
      simp [gd, isB, b2i]
  · rw [if_neg (by decide)]
    simp [gd, isB, b2i]
theorem isOf_ok : Md_isOf F σ x = some (b2i (nmB x), σ) := by
  unfold Md_isOf Md_isOf_26 Md_isOf_30 Md_isOf_31
  rw [upper_ok, bi_some]
  unfold nmB
  cases hu : upB x
  · rw [if_pos (b2i_0.mpr rfl), lower_ok, bi_some]
    cases hl : loB x
    · rw [if_pos (b2i_0.mpr rfl)]
      unfold dgB
      by_cases h1 : x < 48 <;> by_cases h2 : 57 < x <;> simp [h1, h2, gd, isB, b2i]
    · rw [if_neg (by decide)]
      simp [gd, isB, b2i]
  · rw [if_neg (by decide)]
    simp [gd, isB, b2i]
/-- byteAt: the byte, or -1 behind the end -/
theorem byteAt_in {n i : Nat} (h : gi σ 2 = nI n) (hn : n ≤ 1200) (hi : i < n) : Md_byteAt F σ (nI i) = some (ga σ 1 i, σ) := by
  rw [Md_byteAt, h, if_neg (nI_ge hi (by omega)), gd_t (inb_nI (by omega) (by omega)), nI_clamp (by omega), Md_byteAt_18]
theorem byteAt_out {n i : Nat} (h : gi σ 2 = nI n) (hi : n ≤ i) (hi2 : i < 2 ^ 31) : Md_byteAt F σ (nI i) = some (-1, σ) := by
  rw [Md_byteAt, h, if_pos (nI_le hi hi2), Md_byteAt_18]
def sgnB (x : Int32) : Bool := decide (x = 61) || decide (x = 124) || decide (x = 40) || decide (x = 41) || decide (x = 91) || decide (x = 93) || decide (x = 123) || decide (x = 125) || decide (x = 59) || decide (x = 44) || decide (x = 42)
theorem ixc_step {n k : Nat} {y : Int32} (hk : k < 11) : La_indexOfChar_7 F (n + 1) σ 11 y (nI k) = if sgB.getD k 0 = y then some (nI k, σ) else La_indexOfChar_7 F n σ 11 y (nI (k + 1)) := by
  show La_indexOfChar_b7 F (La_indexOfChar_7 F n) σ 11 y (nI k) = _
  rw [La_indexOfChar_b7, if_neg (show ¬ (11 : Int32) ≤ nI k from nI_ge (b := 11) hk (by decide)), gd_t (inb_nI hk (by omega)), nI_clamp (by omega), nI_1]
theorem ixc_ok {y : Int32} : ∀ (j n k : Nat), k + j = 11 → j < n → ∃ r, La_indexOfChar_7 F n σ 11 y (nI k) = some (r, σ) ∧ (r < 0 ↔ ∀ i, k ≤ i → i < 11 → sgB.getD i 0 ≠ y) := by
  intro j
  induction j with
  | zero =>
    intro n k hk hn
    obtain ⟨n, rfl⟩ : ∃ n', n = n' + 1 := ⟨n - 1, by omega⟩
    obtain rfl : k = 11 := by omega
    refine ⟨-1, ?_, ?_⟩
    · show La_indexOfChar_b7 F (La_indexOfChar_7 F n) σ 11 y (nI 11) = _
      rw [La_indexOfChar_b7, if_pos (by decide)]
    · exact ⟨fun _ i h1 h2 => by omega, fun _ => by decide⟩
  | succ j ih =>
    intro n k hk hn
    obtain ⟨n, rfl⟩ : ∃ n', n = n' + 1 := ⟨n - 1, by omega⟩
    rw [ixc_step (by omega)]
    by_cases h : sgB.getD k 0 = y
    · rw [if_pos h]
      refine ⟨nI k, rfl, ⟨fun g => absurd g (nI_pos (by omega)), fun g => absurd h (g k (Nat.le_refl _) (by omega))⟩⟩
    · rw [if_neg h]
      obtain ⟨r, e, g⟩ := ih n (k + 1) (by omega) (by omega)
      refine ⟨r, e, g.trans ⟨fun q i h1 h2 => ?_, fun q i h1 h2 => q i (by omega) h2⟩⟩
      rcases Nat.eq_or_lt_of_le h1 with rfl | h3
      · exact h
      · exact q i h3 h2
end LX
theorem sg_dec : ∀ c, c < 256 → ((∀ i, i < 11 → sgB.getD i 0 ≠ (Int32.toInt8 (nI c)).toInt32) ↔ sgnB (nI c) = false) := by decide +kernel
theorem i2c_dec : ∀ c, c < 256 → ((Int32.toUInt32 (nI c)) % 65536).toInt32 = nI c := by decide +kernel
theorem idx_ok {F : Nat} (hF : 12 ≤ F) {σ : zS} {c : Nat} (hc : c < 256) : ∃ r, St_indexOf F σ (nI c) = some (r, σ) ∧ (r < 0 ↔ sgnB (nI c) = false) := by
  have h1 : St_isLatin1 F σ = some (1, σ) := by
    simp [St_isLatin1, St_isLatin1_18, gd, isB]
  have h2 : St_length F σ = some (11, σ) := by
    have : St_coder F σ = some (0, σ) := by
      simp [St_coder, St_coder_14, gd, isB]
    rw [St_length, this, bi_some]
    rw [show (11 : Int32) >>> ((0 : Int32) &&& 31) = 11 from by decide]
  have h3 : La_canEncode F σ (nI c) = some (1, σ) := by
    have g1 : ¬ nI c < 0 := nI_pos (by omega)
    have g2 : ¬ (255 : Int32) < nI c := nI_nlt (a := 255) (b := c) (by omega) (by omega)
    simp [La_canEncode, La_canEncode_16, g1, g2, gd, isB]
  obtain ⟨r, e, g⟩ := ixc_ok (F := F) (σ := σ) (y := (Int32.toInt8 (nI c)).toInt32) 11 F 0 rfl (by omega)
  refine ⟨r, ?_, ?_⟩
  · rw [St_indexOf, St_indexOf2, h1, bi_some, if_neg (by decide), h2, bi_some, La_indexOf, h3, bi_some, if_neg (by decide)]
    simp only [show ¬ ((0 : Int32) < 0) from by decide, show ¬ ((11 : Int32) < 11) from by decide, if_false, show (0 : Int32) < 11 from by decide, if_true]
    rw [La_indexOfChar, show (0 : Int32) = nI 0 from by decide, e, bi_some, bi_some, St_indexOf2_36, bi_some]
  · rw [g]
    exact ⟨fun q => (sg_dec c hc).mp (fun i hi => q i (Nat.zero_le _) hi), fun q i _ hi => (sg_dec c hc).mpr q i hi⟩
