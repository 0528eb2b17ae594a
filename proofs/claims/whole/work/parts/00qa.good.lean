/-! Names of tokens may be written. Own text. -/
theorem nEnd_all (B : Nat → Int32) (n : Nat) : ∀ f p i, p ≤ i → i < nEnd B n f p → i < n ∧ nmB (B i) = true := by
  intro f
  induction f with
  | zero => intro p i h1 h2; rw [nEnd] at h2; omega
  | succ f ih =>
    intro p i h1 h2
    rw [nEnd] at h2
    by_cases c : p < n ∧ nmB (B p) = true
    · rw [if_pos c] at h2
      by_cases e : i = p
      · rw [e]; exact c
      · exact ih (p + 1) i (by omega) h2
    · rw [if_neg c] at h2; omega
def blN (B : Nat → Int32) (p : Nat) : Nat → List Nat
  | 0 => []
  | k + 1 => blN B p k ++ [(B (p + k)).toInt.toNat]
theorem valN_app : ∀ (l : List Nat) (a b : Nat), valN (l ++ [b]) a = valN l a * 256 + b
  | [], a, b => rfl
  | c :: l, a, b => by rw [List.cons_append, valN, valN, valN_app l]
theorem blN_val (B : Nat → Int32) (p : Nat) : ∀ k, valN (blN B p k) 0 = vN B p k
  | 0 => rfl
  | k + 1 => by rw [blN, valN_app, blN_val B p k, vN]
theorem blN_len (B : Nat → Int32) (p : Nat) : ∀ k, (blN B p k).length = k
  | 0 => rfl
  | k + 1 => by rw [blN, List.length_append, blN_len B p k]; rfl
theorem blN_hd (B : Nat → Int32) (p : Nat) : ∀ k, 0 < k → ∃ l, blN B p k = (B p).toInt.toNat :: l
  | 0, h => by omega
  | 1, _ => ⟨[], rfl⟩
  | k + 2, _ => by
    obtain ⟨l, e⟩ := blN_hd B p (k + 1) (by omega)
    exact ⟨l ++ [(B (p + (k + 1))).toInt.toNat], by rw [blN, e]; rfl⟩
theorem blN_mem (B : Nat → Int32) (p : Nat) : ∀ k b, b ∈ blN B p k → ∃ i, i < k ∧ b = (B (p + i)).toInt.toNat
  | 0, b, h => by cases h
  | k + 1, b, h => by
    rw [blN] at h
    rcases List.mem_append.mp h with z | z
    · obtain ⟨i, h1, h2⟩ := blN_mem B p k b z
      exact ⟨i, by omega, h2⟩
    · exact ⟨k, by omega, List.mem_singleton.mp z⟩
theorem tok_gd {B : Nat → Int32} {n k : Nat} (hB : byt B n) (hs : tkS B n k = 2 ∨ tkS B n k = 3) : gdc (lf (if tkS B n k = 2 then 0 else 1) (tkN B n k) (tkP B n k)) := by
  obtain ⟨p, hp⟩ : ∃ p, p = tkP B n k := ⟨_, rfl⟩
  have hpn : p < n := by
    by_cases c : tkP B n k < n
    · rw [hp]; exact c
    · unfold tkS at hs
      rw [if_neg c] at hs
      rcases hs with z | z <;> exact absurd z (by decide)
  have eS : tkS B n k = (tokS B n p).1 := by unfold tkS; rw [← hp, if_pos hpn]
  have eN : tkN B n k = (tokS B n p).2.1 := by unfold tkN; rw [← hp, if_pos hpn]
  obtain ⟨c0, hc0, ec0⟩ := hB.2 p hpn
  rw [eS] at hs
  have hsg : ∀ c, c < 256 → sgS (nI c) ≠ 2 ∧ sgS (nI c) ≠ 3 := by decide +kernel
  -- it is a name
  have hlet : (upB (B p) || loB (B p)) = true := by
    by_cases c : (upB (B p) || loB (B p)) = true
    · exact c
    · exfalso
      unfold tokS at hs
      rw [if_neg c] at hs
      by_cases d : (B p = 58 ∧ p + 1 < n ∧ B (p + 1) = 58) ∨ (B p = 45 ∧ p + 1 < n ∧ B (p + 1) = 62)
      · rw [if_pos d] at hs
        rcases d with ⟨z, _⟩ | ⟨z, _⟩
        · have hs' : B p = 2 ∨ B p = 3 := hs
          rw [z] at hs'
          rcases hs' with w | w <;> exact absurd w (by decide)
        · have hs' : B p = 2 ∨ B p = 3 := hs
          rw [z] at hs'
          rcases hs' with w | w <;> exact absurd w (by decide)
      · rw [if_neg d] at hs
        have hs' : sgS (B p) = 2 ∨ sgS (B p) = 3 := hs
        rw [ec0] at hs'
        rcases hs' with w | w
        · exact (hsg c0 hc0).1 w
        · exact (hsg c0 hc0).2 w
  have hlen : nmE B n p - p ≤ 8 := by
    by_cases c : nmE B n p - p ≤ 8
    · exact c
    · exfalso
      unfold tokS at hs
      rw [if_pos hlet, if_neg c] at hs
      have hs' : (0 : Int32) = 2 ∨ (0 : Int32) = 3 := hs
      rcases hs' with z | z <;> exact absurd z (by decide)
  have etok : tokS B n p = (if upB (B p) = true then 2 else smS (nVal B p (nmE B n p - p)), nVal B p (nmE B n p - p), nmE B n p) := by
    unfold tokS
    rw [if_pos hlet, if_pos hlen]
  have hupnm : ∀ c, c < 256 → (upB (nI c) || loB (nI c)) = true → nmB (nI c) = true := by decide +kernel
  have hnm0 : nmB (B p) = true := by rw [ec0] at hlet ⊢; exact hupnm c0 hc0 hlet
  have hall : ∀ i, p ≤ i → i < nmE B n p → i < n ∧ nmB (B i) = true := fun i h1 h2 => nEnd_all B n (n - p) p i h1 h2
  have hgt : p < nmE B n p := by
    rw [nmE_step hpn hnm0]
    exact Nat.lt_of_lt_of_le (Nat.lt_succ_self p) (nEnd_ge B n _ _)
  obtain ⟨K, hK⟩ : ∃ K, K = nmE B n p - p := ⟨_, rfl⟩
  rw [← hK] at etok hlen
  have hend : p + K ≤ n := by
    by_cases c : K = 0
    · omega
    · have := (hall (p + K - 1) (by omega) (by omega)).1
      omega
  have hnv := (nVal_vN (p := p) hB K hlen hend (fun i hi => (hall (p + i) (by omega) (by omega)).2)).1
  have e2 : (tokS B n p).1 = 2 ↔ upB (B p) = true := by
    rw [etok]
    by_cases c : upB (B p) = true
    · rw [if_pos c]; exact ⟨fun _ => c, fun _ => rfl⟩
    · rw [if_neg c]
      refine ⟨fun z => ?_, fun z => absurd z c⟩
      have z' : smS (nVal B p K) = 2 := z
      unfold smS at z'
      split at z'
      · exact absurd z' (by decide)
      · split at z'
        · exact absurd z' (by decide)
        · split at z'
          · exact absurd z' (by decide)
          · split at z'
            · exact absurd z' (by decide)
            · exact absurd z' (by decide)
  have hb2 : (if tkS B n k = 2 then 0 else 1) < 2 := by split <;> omega
  have hp2 : tkP B n k < 2048 := by rw [← hp]; have := hB.1; omega
  obtain ⟨l, el⟩ := blN_hd B p K (by omega)
  have hrng : ∀ c, c < 256 → nmB (nI c) = true → (48 ≤ c ∧ c ≤ 57) ∨ (65 ≤ c ∧ c ≤ 90) ∨ (97 ≤ c ∧ c ≤ 122) := by decide +kernel
  have hup : ∀ c, c < 256 → upB (nI c) = true → 65 ≤ c ∧ c ≤ 90 := by decide +kernel
  have hlo : ∀ c, c < 256 → ¬ upB (nI c) = true → (upB (nI c) || loB (nI c)) = true → 97 ≤ c ∧ c ≤ 122 := by decide +kernel
  have eh : (B p).toInt.toNat = c0 := by rw [ec0, nI_toInt (by omega)]; rfl
  refine ⟨(B p).toInt.toNat, l, ?_, fun b hb => ?_, fun z => ?_, fun z => ?_, ?_⟩
  · have := blN_len B p K
    rw [el, List.length_cons] at this
    omega
  · rw [← el] at hb
    obtain ⟨i, i1, i2⟩ := blN_mem B p K b hb
    obtain ⟨j1, j2⟩ := hall (p + i) (by omega) (by omega)
    obtain ⟨c, hc, ec⟩ := hB.2 (p + i) j1
    rw [ec] at j2
    rw [i2, ec, nI_toInt (by omega)]
    exact hrng c hc j2
  · rw [lf_B hb2] at z
    have : tkS B n k = 2 := by
      by_cases c : tkS B n k = 2
      · exact c
      · rw [if_neg c] at z; omega
    rw [eS] at this
    have := e2.mp this
    rw [ec0] at this
    rw [eh]; exact hup c0 hc0 this
  · rw [lf_B hb2] at z
    have : ¬ tkS B n k = 2 := fun c => by rw [if_pos c] at z; exact z rfl
    rw [eS] at this
    have h3 := fun q => this (e2.mpr q)
    rw [ec0] at h3 hlet
    rw [eh]; exact hlo c0 hc0 h3 hlet
  · rw [lf_N hb2 hp2, eN, etok, ← el, blN_val]
    exact hnv
