/-! Kinds in letters: what is shown; the class's lines. Own text. -/
theorem nI_tn (n : Nat) : (nI n).toBitVec.toNat = n % 4294967296 := by
  unfold nI
  simp
theorem sh_l (r : Nat) : nI r <<< ((1 : Int32) &&& 31) = nI (2 * r) := by
  apply Int32.toBitVec_inj.mp
  apply BitVec.eq_of_toNat_eq
  rw [Int32.toBitVec_shiftLeft, show (((1 : Int32) &&& 31).toBitVec.smod 32) = 1#32 from by decide]
  rw [BitVec.shiftLeft_eq', BitVec.toNat_shiftLeft, nI_tn, nI_tn]
  simp [Nat.shiftLeft_eq]
  omega
theorem sh_r (n : Nat) (hn : n < 1000000) : nI n >>> ((1 : Int32) &&& 31) = nI (n / 2) := by
  apply Int32.toBitVec_inj.mp
  apply BitVec.eq_of_toNat_eq
  have hmsb : (nI n).toBitVec.msb = false := by
    rw [BitVec.msb_eq_decide, nI_tn]
    simp
    omega
  rw [Int32.toBitVec_shiftRight, show (((1 : Int32) &&& 31).toBitVec.smod 32) = 1#32 from by decide, BitVec.sshiftRight', BitVec.sshiftRight_eq_of_msb_false hmsb, BitVec.toNat_ushiftRight, nI_tn, nI_tn]
  simp [Nat.shiftRight_eq_div_pow]
  omega
theorem an_1 (n : Nat) : nI n &&& (1 : Int32) = nI (n % 2) := by
  apply Int32.toBitVec_inj.mp
  apply BitVec.eq_of_toNat_eq
  rw [Int32.toBitVec_and, BitVec.toNat_and, nI_tn, nI_tn, show (1 : Int32).toBitVec.toNat = 1 from rfl, Nat.and_one_is_mod]
  omega
theorem or_1 (r : Nat) : nI (2 * r) ||| (1 : Int32) = nI (2 * r + 1) := by
  apply Int32.toBitVec_inj.mp
  apply BitVec.eq_of_toNat_eq
  rw [Int32.toBitVec_or, BitVec.toNat_or, nI_tn, nI_tn, show (1 : Int32).toBitVec.toNat = 1 from rfl]
  have key : ∀ m : Nat, m % 2 = 0 → m ||| 1 = m + 1 := by
    intro m hm
    apply Nat.eq_of_testBit_eq
    intro j
    cases j with
    | zero =>
      rw [Nat.testBit_or]
      simp [Nat.testBit_zero]
      omega
    | succ j =>
      rw [Nat.testBit_or, Nat.testBit_succ, Nat.testBit_succ, Nat.testBit_succ, show (m + 1) / 2 = m / 2 by omega]
      simp
  rw [key _ (by omega)]
  omega
/-- a kind in letters -/
def prT (lt : Nat → Int32) : Nat → IT → List Int32
  | 0, t => [if t [] ≤ 1 then 42 else lt (t [] - 2)]
  | d + 1, t => if t [] = 1 then (if t [false] = 1 then 40 :: (prT lt d (dw t false) ++ [41]) else prT lt d (dw t false)) ++ (45 :: 62 :: prT lt d (dw t true)) else [if t [] = 0 then 42 else lt (t [] - 2)]
theorem prT_pos (lt : Nat → Int32) : ∀ (d : Nat) (t : IT), 1 ≤ (prT lt d t).length
  | 0, t => by simp [prT]
  | d + 1, t => by
    rw [prT]
    split
    · simp; omega
    · simp
/-- a line holds W -/
def lnC (σ : zS) (x : Nat) (W : List Int32) : Prop := mi σ (100 * x + 1) = nI W.length ∧ ∀ (i : Nat) (v : Int32), W[i]? = some v → ma σ (lA x) i = v
def shF (x : Nat) (σ σ' : zS) : Prop := (∀ r, r ≠ 309 → gi σ' r = gi σ r) ∧ (∀ a, a ≠ 28 → ga σ' a = ga σ a) ∧ (∀ a, gb σ' a = gb σ a) ∧ (∀ a, gl σ' a = gl σ a) ∧ (∀ a, gr σ' a = gr σ a) ∧ (∀ j, j ≠ 100 * x + 1 → mi σ' j = mi σ j) ∧ (∀ a, a ≠ lA x → ma σ' a = ma σ a) ∧ (∀ a, mb σ' a = mb σ a)
theorem shF_rfl (x : Nat) (σ : zS) : shF x σ σ := ⟨fun _ _ => rfl, fun _ _ => rfl, fun _ => rfl, fun _ => rfl, fun _ => rfl, fun _ _ => rfl, fun _ _ => rfl, fun _ => rfl⟩
theorem shF_tr {x : Nat} {σ σ1 σ2 : zS} (h : shF x σ σ1) (g : shF x σ1 σ2) : shF x σ σ2 := by
  obtain ⟨a1, a2, a3, a4, a5, a6, a7, a8⟩ := h
  obtain ⟨b1, b2, b3, b4, b5, b6, b7, b8⟩ := g
  exact ⟨fun r hr => (b1 r hr).trans (a1 r hr), fun r hr => (b2 r hr).trans (a2 r hr), fun r => (b3 r).trans (a3 r), fun r => (b4 r).trans (a4 r), fun r => (b5 r).trans (a5 r), fun r hr => (b6 r hr).trans (a6 r hr), fun r hr => (b7 r hr).trans (a7 r hr), fun r => (b8 r).trans (a8 r)⟩
theorem shF_sx {x : Nat} {σ σ' : zS} (h : sx [309] [28] σ σ') : shF x σ σ' :=
  ⟨fun r hr => h.1 r (by simp [hr]), fun a ha => h.2.1 a (by simp [ha]), fun a => sx_gb h a, fun a => sx_gl h a, fun a => sx_gr h a, fun j _ => by rw [sx_mi h], fun a _ => by rw [sx_ma h], fun a => sx_mb h a⟩
section K
variable {F : Nat} {σ : zS} {G : SG} {x : Nat} {W : List Int32}
theorem lnC_sx {I A : List Nat} {σ' : zS} (h : lnC σ x W) (hs : sx I A σ σ') : lnC σ' x W := by
  refine ⟨by rw [sx_mi hs]; exact h.1, fun i v hv => by rw [sx_ma hs]; exact h.2 i v hv⟩
theorem putC (hx : isLine x = true) (h : lnC σ x W) (hW : W.length < 2300) {b : Int32} (hb : vp_nar .byte (Int32.toInt8 b).toInt32 = b) : ∃ σ', Li_put F σ x b = some σ' ∧ lnC σ' x (W ++ [b]) ∧ shF x σ σ' ∧ gi σ' 309 = gi σ 309 ∧ ga σ' 28 = ga σ 28 := by
  refine ⟨ti (ta σ (lA x) W.length b) (100 * x + 1) (nI (W.length + 1)), ?_, ⟨by simp [zs], fun i v hv => ?_⟩, ⟨fun r _ => by simp [zs], fun a _ => by simp [zs], fun a => by simp [zs], fun a => by simp [zs], fun a => by simp [zs], fun j hj => by simp [zs, hj], fun a ha => by simp [zs, ha], fun a => by simp [zs]⟩, by simp [zs], by simp [zs]⟩
  · rw [Li_put, gd_t hx, h.1, if_neg (show ¬ (2400 : Int32) ≤ nI W.length from nI_ge (b := 2400) (by omega) (by omega)), gd_t (inb_nI (by omega) (by omega)), nI_clamp (by omega), hb, nI_1]
    rfl
  · have e : ma (ti (ta σ (lA x) W.length b) (100 * x + 1) (nI (W.length + 1))) (lA x) i = if i = W.length then b else ma σ (lA x) i := by simp [zs, up_at]
    rw [e]
    by_cases c : i = W.length
    · rw [if_pos c]
      rw [c, List.getElem?_append_right (Nat.le_refl _), Nat.sub_self] at hv
      exact Option.some.inj hv
    · rw [if_neg c]
      have hil : i < W.length := by
        rcases Nat.lt_or_ge i (W ++ [b]).length with z | z
        · simp at z; omega
        · rw [List.getElem?_eq_none z] at hv; cases hv
      rw [List.getElem?_append_left hil] at hv
      exact h.2 i v hv
theorem CS_shF {σ' : zS} (h : CS σ G) (hs : shF x σ σ') : CS σ' G := CS_cg (hs.1 306 (by decide)) (fun k _ => by rw [hs.2.1 23 (by decide), hs.2.1 24 (by decide), hs.2.1 25 (by decide)]; exact ⟨rfl, rfl, rfl⟩) h
theorem stC_put {σ' : zS} {L : List Nat} (h : stC σ L) (h1 : gi σ' 309 = gi σ 309) (h2 : ga σ' 28 = ga σ 28) : stC σ' L := ⟨h1.trans h.1, stL_cg L (fun i _ => by rw [h2]) h.2⟩
end K
