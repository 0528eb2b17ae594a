/-! Names as numbers. The rows wb_.. are pasted from the kit's laws/BITS.to-paste; the rest is own text. -/
theorem wb_tb (n : Nat) : (lN n).toBitVec = BitVec.ofNat 64 n := rfl
theorem wb_inj {a b : Int64} (h : a.toBitVec = b.toBitVec) : a = b := Int64.toBitVec_inj.mp h
theorem wb_tn {n : Nat} (h : n < 2 ^ 64) : (lN n).toBitVec.toNat = n := by rw [wb_tb, BitVec.toNat_ofNat, Nat.mod_eq_of_lt h]
theorem wb_c : ∀ k, k < 64 → ((nI k).toInt64 &&& 63) = lN k := by decide +kernel
theorem wb_sm : ∀ k, k < 64 → (BitVec.ofNat 64 k).smod 64 = BitVec.ofNat 64 k := by decide +kernel
theorem wb_shl (n : Nat) {k : Nat} (hk : k < 64) : lN n <<< ((nI k).toInt64 &&& 63) = lN (n * 2 ^ k) := by
  rw [wb_c k hk]
  apply wb_inj
  rw [Int64.toBitVec_shiftLeft, wb_tb, wb_tb, wb_tb, wb_sm k hk]
  apply BitVec.eq_of_toNat_eq
  rw [BitVec.shiftLeft_eq', BitVec.toNat_shiftLeft, BitVec.toNat_ofNat, BitVec.toNat_ofNat, BitVec.toNat_ofNat, Nat.mod_eq_of_lt (show k < 2 ^ 64 by omega), Nat.shiftLeft_eq, Nat.mul_mod, Nat.mod_mod, ← Nat.mul_mod]
theorem wb_or {a b : Nat} (ha : a < 2 ^ 64) (hb : b < 2 ^ 64) : lN a ||| lN b = lN (a ||| b) := by
  apply wb_inj
  rw [Int64.toBitVec_or, wb_tb, wb_tb, wb_tb]
  apply BitVec.eq_of_toNat_eq
  rw [BitVec.toNat_or, BitVec.toNat_ofNat, BitVec.toNat_ofNat, BitVec.toNat_ofNat, Nat.mod_eq_of_lt ha, Nat.mod_eq_of_lt hb, Nat.mod_eq_of_lt (Nat.or_lt_two_pow ha hb)]
def vN (B : Nat → Int32) (p : Nat) : Nat → Nat
  | 0 => 0
  | k + 1 => vN B p k * 256 + (B (p + k)).toInt.toNat
theorem byt_nm {B : Nat → Int32} {n i : Nat} (hB : byt B n) (hi : i < n) (h : nmB (B i) = true) : ∃ c, 0 < c ∧ c < 128 ∧ B i = nI c := by
  obtain ⟨c, hc, e⟩ := hB.2 i hi
  rw [e] at h
  have : ∀ c, c < 256 → nmB (nI c) = true → 0 < c ∧ c < 128 := by decide +kernel
  exact ⟨c, (this c hc h).1, (this c hc h).2, e⟩
theorem or_lo {b a : Nat} (ha : a < 256) (h : b * 256 + a < 2 ^ 64) : lN (b * 256) ||| lN a = lN (b * 256 + a) := by
  have q1 : b * 256 < 2 ^ 64 := Nat.lt_of_le_of_lt (Nat.le_add_right _ _) h
  have q2 : a < 2 ^ 64 := Nat.lt_trans ha (by decide)
  rw [wb_or q1 q2]
  have h1 : b * 2 ^ 8 ||| a = b * 2 ^ 8 + a := by rw [← Nat.shiftLeft_eq, Nat.shiftLeft_add_eq_or_of_lt ha]
  exact congrArg lN h1
/-- the value of a name of at most eight bytes, and its bounds -/
theorem nVal_vN {B : Nat → Int32} {n p : Nat} (hB : byt B n) : ∀ k, k ≤ 8 → p + k ≤ n → (∀ i, i < k → nmB (B (p + i)) = true) → nVal B p k = lN (vN B p k) ∧ vN B p k < 256 ^ k ∧ (0 < k → 256 ^ (k - 1) ≤ vN B p k) ∧ (0 < k → vN B p k < 128 * 256 ^ (k - 1)) := by
  intro k
  induction k with
  | zero => intro _ _ _; exact ⟨rfl, Nat.zero_lt_one, fun h => absurd h (by decide), fun h => absurd h (by decide)⟩
  | succ k ih =>
    intro hk hp hnm
    obtain ⟨e, h1, h2, h3⟩ := ih (by omega) (by omega) (fun i hi => hnm i (by omega))
    obtain ⟨c, hc0, hc, ec⟩ := byt_nm hB (show p + k < n by omega) (hnm k (by omega))
    have hv : vN B p (k + 1) = vN B p k * 256 + c := by
      rw [vN, ec, nI_toInt (by omega)]
      rfl
    have hpow : (256 : Nat) ^ (k + 1) = 256 ^ k * 256 := Nat.pow_succ ..
    have hle : (256 : Nat) ^ k ≤ 256 ^ 7 := Nat.pow_le_pow_right (by decide) (by omega)
    have h256 : (256 : Nat) ^ 7 = 72057594037927936 := by decide
    refine ⟨?_, ?_, fun _ => ?_, fun _ => ?_⟩
    · rw [nVal, e, hv, ec, show Int32.toInt64 (8 : Int32) = (nI 8).toInt64 from rfl, wb_shl _ (by decide), nI_l (by omega)]
      exact or_lo (by omega) (by omega)
    · rw [hv, hpow]
      omega
    · rw [hv, Nat.add_sub_cancel]
      cases k with
      | zero => simp; omega
      | succ k =>
        have := h2 (by omega)
        rw [Nat.add_sub_cancel] at this
        rw [Nat.pow_succ]
        omega
    · rw [hv, Nat.add_sub_cancel]
      cases k with
      | zero => rw [vN]; simp; omega
      | succ k =>
        have := h3 (by omega)
        rw [Nat.add_sub_cancel] at this
        rw [Nat.pow_succ]
        omega
