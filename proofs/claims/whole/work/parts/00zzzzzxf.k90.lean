/-! Names shown, types shown: what is shown. The rows wb_.., nx_and are pasted from the kit's laws/BITS.to-paste; the rest is own text. -/
theorem wb_of (x : Int64) : ∃ n, n < 2 ^ 64 ∧ x = lN n := ⟨x.toBitVec.toNat, x.toBitVec.isLt, wb_inj (by rw [wb_tb]; simp)⟩
theorem wb_cu : ∀ k, k < 64 → ((nI k).toInt64.toUInt64 &&& Int64.toUInt64 63) = UInt64.ofNat k := by decide +kernel
theorem wb_lt2 {a b : Nat} (h : a < b) : 2 ^ a < 2 ^ b := Nat.pow_lt_pow_right (by decide) h
theorem wb_shr {n k : Nat} (hn : n < 2 ^ 64) (hk : k < 64) : ((lN n).toUInt64 >>> ((nI k).toInt64.toUInt64 &&& Int64.toUInt64 63)).toInt64 = lN (n / 2 ^ k) := by
  rw [wb_cu k hk]
  apply wb_inj
  apply BitVec.eq_of_toNat_eq
  show ((lN n).toUInt64 >>> UInt64.ofNat k).toNat = (BitVec.ofNat 64 _).toNat
  have h1 : (UInt64.ofNat k).toNat = k := by
    show (BitVec.ofNat 64 k).toNat = k
    rw [BitVec.toNat_ofNat, Nat.mod_eq_of_lt (by omega)]
  have h2 : (lN n).toUInt64.toNat = n := wb_tn hn
  rw [UInt64.toNat_shiftRight, h1, h2, Nat.mod_eq_of_lt hk, Nat.shiftRight_eq_div_pow, BitVec.toNat_ofNat, Nat.mod_eq_of_lt (Nat.lt_of_le_of_lt (Nat.div_le_self _ _) hn)]
theorem wb_and {a b : Nat} (ha : a < 2 ^ 64) (hb : b < 2 ^ 64) : lN a &&& lN b = lN (a &&& b) := by
  apply wb_inj
  rw [Int64.toBitVec_and, wb_tb, wb_tb, wb_tb]
  apply BitVec.eq_of_toNat_eq
  rw [BitVec.toNat_and, BitVec.toNat_ofNat, BitVec.toNat_ofNat, BitVec.toNat_ofNat, Nat.mod_eq_of_lt ha, Nat.mod_eq_of_lt hb, Nat.mod_eq_of_lt (Nat.and_lt_two_pow _ hb)]
theorem wb_mask {n k : Nat} (hn : n < 2 ^ 64) (hk : k < 64) : lN n &&& lN (2 ^ k - 1) = lN (n % 2 ^ k) := by
  rw [wb_and hn (by have := wb_lt2 hk; omega), Nat.and_two_pow_sub_one_eq_mod]
theorem nx_and (a b : Nat) : nI a &&& nI b = nI (a &&& b) := by
  apply Int32.toBitVec_inj.1
  show BitVec.ofNat 32 a &&& BitVec.ofNat 32 b = BitVec.ofNat 32 (a &&& b)
  apply BitVec.eq_of_getLsbD_eq
  intro i hi
  simp [hi]
/-- the bytes of a number, i of them -/
def nmD (N : Nat) : Nat → List Int32
  | 0 => []
  | i + 1 => (if N / 2 ^ (8 * i) % 256 = 0 then [] else [nI (N / 2 ^ (8 * i) % 256)]) ++ nmD N i
theorem nmD_len (N : Nat) : ∀ i, (nmD N i).length ≤ i
  | 0 => Nat.le_refl _
  | i + 1 => by
    have := nmD_len N i
    rw [nmD, List.length_append]
    by_cases h : N / 2 ^ (8 * i) % 256 = 0
    · rw [if_pos h]; simp; omega
    · rw [if_neg h]; simp; omega
def nN (v : Int64) : Nat := v.toBitVec.toNat
theorem nN_lt (v : Int64) : nN v < 2 ^ 64 := v.toBitVec.isLt
theorem nN_l (v : Int64) : v = lN (nN v) := wb_inj (by rw [wb_tb]; unfold nN; simp)
def nmS (v : Int64) : List Int32 := nmD (nN v) 8
theorem byC {N s : Nat} (hN : N < 2 ^ 64) (hs : s < 64) : (Int64.toInt32 ((lN N).toUInt64 >>> ((Int32.toInt64 (nI s)).toUInt64 &&& Int64.toUInt64 63)).toInt64) &&& (255 : Int32) = nI (N / 2 ^ s % 256) := by
  rw [wb_shr hN hs, lN_i, show (255 : Int32) = nI 255 from rfl, nx_and]
  congr 1
  exact Nat.and_two_pow_sub_one_eq_mod _ 8
theorem byM {N s : Nat} (hN : N < 2 ^ 64) (hs : s < 64) : Int64.toInt32 (((lN N).toUInt64 >>> ((Int32.toInt64 (nI s)).toUInt64 &&& Int64.toUInt64 63)).toInt64 &&& (255 : Int64)) = nI (N / 2 ^ s % 256) := by
  rw [wb_shr hN hs, show (255 : Int64) = lN (2 ^ 8 - 1) from rfl, wb_mask (Nat.lt_of_le_of_lt (Nat.div_le_self _ _) hN) (by decide), lN_i]
section N
variable {F : Nat} {σ τ : zS}
/-- what showing leaves alone, in the class -/
def frW (x : Nat) (σ σ' : zS) : Prop := (∀ r, r ≠ 907 → gi σ' r = gi σ r) ∧ (∀ a, a ≠ 58 → a ≠ 59 → ga σ' a = ga σ a) ∧ (∀ a, gb σ' a = gb σ a) ∧ (∀ a, gl σ' a = gl σ a) ∧ (∀ a, gr σ' a = gr σ a) ∧ (∀ j, j ≠ 100 * x + 1 → mi σ' j = mi σ j) ∧ (∀ a, a ≠ lA x → ma σ' a = ma σ a) ∧ (∀ a, mb σ' a = mb σ a)
theorem frW_rfl (x : Nat) (σ : zS) : frW x σ σ := ⟨fun _ _ => rfl, fun _ _ _ => rfl, fun _ => rfl, fun _ => rfl, fun _ => rfl, fun _ _ => rfl, fun _ _ => rfl, fun _ => rfl⟩
theorem frW_tr {x : Nat} {σ σ1 σ2 : zS} (h : frW x σ σ1) (g : frW x σ1 σ2) : frW x σ σ2 := by
  obtain ⟨a1, a2, a3, a4, a5, a6, a7, a8⟩ := h
  obtain ⟨b1, b2, b3, b4, b5, b6, b7, b8⟩ := g
  exact ⟨fun r hr => (b1 r hr).trans (a1 r hr), fun r h1 h2 => (b2 r h1 h2).trans (a2 r h1 h2), fun r => (b3 r).trans (a3 r), fun r => (b4 r).trans (a4 r), fun r => (b5 r).trans (a5 r), fun r hr => (b6 r hr).trans (a6 r hr), fun r hr => (b7 r hr).trans (a7 r hr), fun r => (b8 r).trans (a8 r)⟩
/-- and only the line has changed -/
def frL (x : Nat) (σ σ' : zS) : Prop := (∀ r, gi σ' r = gi σ r) ∧ (∀ a, ga σ' a = ga σ a) ∧ (∀ a, gb σ' a = gb σ a) ∧ (∀ a, gl σ' a = gl σ a) ∧ (∀ a, gr σ' a = gr σ a) ∧ (∀ j, j ≠ 100 * x + 1 → mi σ' j = mi σ j) ∧ (∀ a, a ≠ lA x → ma σ' a = ma σ a) ∧ (∀ a, mb σ' a = mb σ a)
theorem frL_rfl (x : Nat) (σ : zS) : frL x σ σ := ⟨fun _ => rfl, fun _ => rfl, fun _ => rfl, fun _ => rfl, fun _ => rfl, fun _ _ => rfl, fun _ _ => rfl, fun _ => rfl⟩
theorem frL_tr {x : Nat} {σ σ1 σ2 : zS} (h : frL x σ σ1) (g : frL x σ1 σ2) : frL x σ σ2 := by
  obtain ⟨a1, a2, a3, a4, a5, a6, a7, a8⟩ := h
  obtain ⟨b1, b2, b3, b4, b5, b6, b7, b8⟩ := g
  exact ⟨fun r => (b1 r).trans (a1 r), fun r => (b2 r).trans (a2 r), fun r => (b3 r).trans (a3 r), fun r => (b4 r).trans (a4 r), fun r => (b5 r).trans (a5 r), fun r hr => (b6 r hr).trans (a6 r hr), fun r hr => (b7 r hr).trans (a7 r hr), fun r => (b8 r).trans (a8 r)⟩
theorem frL_W {x : Nat} {σ σ' : zS} (h : frL x σ σ') : frW x σ σ' := ⟨fun r _ => h.1 r, fun a _ _ => h.2.1 a, h.2.2⟩
theorem putL {x : Nat} {W : List Int32} (hx : isLine x = true) (h : lnC σ x W) (hW : W.length < 2300) {b : Int32} (hb : vp_nar .byte (Int32.toInt8 b).toInt32 = b) : ∃ σ', Li_put F σ x b = some σ' ∧ lnC σ' x (W ++ [b]) ∧ frL x σ σ' := by
  obtain ⟨σ', a1, a2, a3, a4, a5⟩ := putC (F := F) hx h hW hb
  obtain ⟨b1, b2, b3, b4, b5, b6, b7, b8⟩ := a3
  refine ⟨σ', a1, a2, fun r => ?_, fun a => ?_, b3, b4, b5, b6, b7, b8⟩
  · by_cases z : r = 309
    · rw [z]; exact a4
    · exact b1 r z
  · by_cases z : a = 28
    · rw [z]; exact a5
    · exact b2 a z
theorem byte_ok : ∀ b, b < 128 → vp_nar .byte (Int32.toInt8 (nI b)).toInt32 = nI b := by decide +kernel
theorem nameC_loop {x N : Nat} (hx : isLine x = true) (hN : N < 2 ^ 64) (hb : ∀ i, i < 8 → N / 2 ^ (8 * i) % 256 < 128) : ∀ (i f : Nat) (σ : zS) (W : List Int32), i ≤ 8 → i < f → lnC σ x W → W.length + i < 2300 → ∃ σ', Li_putName_3 F f σ x (lN N) (nI (8 * i) + (-8)) = some σ' ∧ lnC σ' x (W ++ nmD N i) ∧ frL x σ σ' := by
  intro i
  induction i with
  | zero =>
    intro f σ W _ hf hl _
    obtain ⟨f, rfl⟩ : ∃ f', f = f' + 1 := ⟨f - 1, by omega⟩
    refine ⟨σ, ?_, by rw [nmD, List.append_nil]; exact hl, frL_rfl _ _⟩
    rw [Li_putName_3, Li_putName_b3, if_pos (by decide)]
  | succ i ih =>
    intro f σ W hi hf hl hW
    obtain ⟨f, rfl⟩ : ∃ f', f = f' + 1 := ⟨f - 1, by omega⟩
    have e8 : nI (8 * (i + 1)) + (-8) = nI (8 * i) := by
      rw [show 8 * (i + 1) = 8 * i + 8 by omega, ← Int32.sub_eq_add_neg]
      exact nI_sb (8 * i) 8
    have st : ∀ s, Li_putName_28 F (Li_putName_3 F f) s x (lN N) (nI (8 * i)) = Li_putName_3 F f s x (lN N) (nI (8 * i) + (-8)) := fun s => rfl
    rw [e8, Li_putName_3, Li_putName_b3, if_neg (nI_pos (by omega)), byC hN (show 8 * i < 64 by omega), nmD]
    by_cases c : N / 2 ^ (8 * i) % 256 = 0
    · rw [if_pos (show nI (N / 2 ^ (8 * i) % 256) = 0 by rw [c]; rfl), if_pos c, st, List.nil_append]
      exact ih f σ W (by omega) (by omega) hl (by omega)
    · have hc := hb i (by omega)
      rw [if_neg (show ¬ nI (N / 2 ^ (8 * i) % 256) = 0 from fun z => c ((nI_eq (b := 0) (by omega) (by omega)).mp z)), if_neg c, gd_t hx]
      obtain ⟨σ1, a1, a2, a3⟩ := putL (F := F) hx hl (by omega) (byte_ok _ hc)
      obtain ⟨σ', b1, b2, b3⟩ := ih f σ1 _ (by omega) (by omega) a2 (by simp; omega)
      refine ⟨σ', by rw [a1, bv_some, st, b1], by rw [← List.append_assoc]; exact b2, frL_tr a3 b3⟩
theorem nameC (hF : 20000 ≤ F) {x : Nat} {v : Int64} {W : List Int32} (hx : isLine x = true) (hb : ∀ i, i < 8 → nN v / 2 ^ (8 * i) % 256 < 128) (hl : lnC σ x W) (hW : W.length + 8 < 2300) : ∃ σ', Li_putName F σ x v = some σ' ∧ lnC σ' x (W ++ nmS v) ∧ frL x σ σ' := by
  have := nameC_loop (F := F) hx (nN_lt v) hb 8 F σ W (by omega) (by omega) hl hW
  rw [← nN_l v] at this
  exact this
theorem nameM_loop {n N : Nat} (hn : n < 1000) (hN : N < 2 ^ 64) (hb : ∀ i, i < 8 → N / 2 ^ (8 * i) % 256 < 128) : ∀ (i f : Nat) (τ : zS) (W : List Int32), i ≤ 8 → i < f → gb τ 3 n = lN N → lnM τ W → W.length + i < 5900 → ∃ τ', Md_putName_3 F f τ (nI n) (nI (8 * i) + (-8)) = some τ' ∧ lnM τ' (W ++ nmD N i) ∧ sx [82] [55] τ τ' := by
  intro i
  induction i with
  | zero =>
    intro f τ W _ hf _ hl _
    obtain ⟨f, rfl⟩ : ∃ f', f = f' + 1 := ⟨f - 1, by omega⟩
    refine ⟨τ, ?_, by rw [nmD, List.append_nil]; exact hl, sx_rfl _ _ _⟩
    rw [Md_putName_3, Md_putName_b3, if_pos (by decide)]
  | succ i ih =>
    intro f τ W hi hf hg hl hW
    obtain ⟨f, rfl⟩ : ∃ f', f = f' + 1 := ⟨f - 1, by omega⟩
    have e8 : nI (8 * (i + 1)) + (-8) = nI (8 * i) := by
      rw [show 8 * (i + 1) = 8 * i + 8 by omega, ← Int32.sub_eq_add_neg]
      exact nI_sb (8 * i) 8
    have st : ∀ s, Md_putName_30 F (Md_putName_3 F f) s (nI n) (nI (8 * i)) = Md_putName_3 F f s (nI n) (nI (8 * i) + (-8)) := fun s => rfl
    rw [e8, Md_putName_3, Md_putName_b3, if_neg (nI_pos (by omega)), gd_t (inb_nI (by omega) (by omega)), nI_clamp (by omega), hg, byM hN (show 8 * i < 64 by omega), nmD]
    by_cases c : N / 2 ^ (8 * i) % 256 = 0
    · rw [if_pos (show nI (N / 2 ^ (8 * i) % 256) ≤ 0 by rw [c]; decide), if_pos c, st, List.nil_append]
      exact ih f τ W (by omega) (by omega) hg hl (by omega)
    · have hc := hb i (by omega)
      rw [if_neg (nI_nle (Nat.pos_of_ne_zero c) (by omega)), if_neg c]
      obtain ⟨τ1, a1, a2, a3⟩ := putM (F := F) hl (by omega) (nI (N / 2 ^ (8 * i) % 256))
      obtain ⟨τ', b1, b2, b3⟩ := ih f τ1 _ (by omega) (by omega) (by rw [sx_gb a3]; exact hg) a2 (by simp; omega)
      refine ⟨τ', by rw [a1, bv_some, st, b1], by rw [← List.append_assoc]; exact b2, sx_tr a3 b3⟩
theorem nameM (hF : 20000 ≤ F) {n : Nat} {v : Int64} {W : List Int32} (hn : n < 1000) (hb : ∀ i, i < 8 → nN v / 2 ^ (8 * i) % 256 < 128) (hg : gb τ 3 n = v) (hl : lnM τ W) (hW : W.length + 8 < 5900) : ∃ τ', Md_putName F τ (nI n) = some τ' ∧ lnM τ' (W ++ nmS v) ∧ sx [82] [55] τ τ' :=
  nameM_loop (F := F) hn (nN_lt v) hb 8 F τ W (by omega) (by omega) (by rw [← nN_l v]; exact hg) hl hW
end N
/-- a type as it is shown; s: where it stands -/
def prS : TE → Nat → List Int32
  | .var c, _ => nmS (lfN c)
  | .op (.op (.var 0) f) a, s => (if s = 2 then [40] else []) ++ ((prS f 3 ++ (32 :: prS a 2)) ++ (if s = 2 then [41] else []))
  | .op (.op (.var 1) l) r, s => (if 0 < s then [40] else []) ++ ((prS l 1 ++ (45 :: 62 :: prS r 0)) ++ (if 0 < s then [41] else []))
  | .op (.op (.var 2) (.var _)) t, _ => 91 :: (prS t 0 ++ [93])
  | _, _ => []
theorem prS_len : ∀ (t : TE) (s : Nat), sp t → (prS t s).length + 1 ≤ 11 * (blk t).length ∧ (s = 0 ∨ (s = 3 ∧ isR t = false) → (prS t s).length + 3 ≤ 11 * (blk t).length)
  | .var c, s, _ => by
    have := nmD_len (nN (lfN c)) 8
    rw [prS, nmS, blk, List.length_singleton]
    omega
  | .op (.op (.var 0) f) a, s, h => by
    obtain ⟨⟨h1, h2⟩, h3, h4⟩ := h
    have i1 := (prS_len f 3 h3).2 (Or.inr ⟨rfl, h1⟩)
    have i2 := (prS_len a 2 h4).1
    rw [prS, blk]
    simp only [List.length_append, List.length_cons, bmp_len]
    by_cases c : s = 2
    · simp only [if_pos c, List.length_cons, List.length_nil]; omega
    · simp only [if_neg c, List.length_nil]; omega
  | .op (.op (.var 1) l) r, s, h => by
    obtain ⟨h3, h4⟩ := h
    have i1 := (prS_len l 1 h3).1
    have i2 := (prS_len r 0 h4).2 (Or.inl rfl)
    rw [prS, blk]
    simp only [List.length_append, List.length_cons]
    by_cases c : 0 < s
    · simp only [if_pos c, List.length_cons, List.length_nil]; omega
    · simp only [if_neg c, List.length_nil]; omega
  | .op (.op (.var 2) (.var p)) t, s, h => by
    have i2 := (prS_len t 0 h).2 (Or.inl rfl)
    rw [prS, blk]
    simp only [List.length_append, List.length_cons, List.length_nil]
    omega
