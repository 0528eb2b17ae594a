/-! feed. Own text. -/
theorem fu_fu {α : Type} (f : Nat → α) (k : Nat) (v w : α) : fu (fu f k v) k w = fu f k w := by
  funext j
  unfold fu
  split <;> rfl
theorem si_si (σ : zS) (k : Nat) (v w : Int32) : si (si σ k v) k w = si σ k w := by
  unfold si
  rw [fu_fu]
theorem sA_sA (σ : zS) (k : Nat) (f g : Nat → Int32) : sA (sA σ k f) k g = sA σ k g := by
  unfold sA
  rw [fu_fu]
theorem sA_si (σ : zS) (k j : Nat) (f : Nat → Int32) (v : Int32) : sA (si σ j v) k f = si (sA σ k f) j v := rfl
theorem sa_sA (σ : zS) (k i : Nat) (v : Int32) : sa σ k i v = sA σ k (upd (ga σ k) i v) := rfl
def bt (x y : Int32) : Int32 := (x.toUInt32 >>> (Int32.toUInt32 y &&& Int32.toUInt32 31)).toInt32 &&& (255 : Int32)
theorem bt_rng (x y : Int32) : 0 ≤ (bt x y).toInt ∧ (bt x y).toInt < 256 := by
  obtain ⟨j, hj, e⟩ := pk_andE ((x.toUInt32 >>> (Int32.toUInt32 y &&& Int32.toUInt32 31)).toInt32) (m := 255) 8 (by decide)
  unfold bt
  rw [e, nI_toInt (by omega)]
  omega
theorem app_step {F n : Nat} {σ : zS} {m : Nat} {x y : Int32} (h : gi σ 101 = nI m) (hm : m < 1200) (hy : ¬ y < 0) : Ta_append_3 F (n + 1) σ x y = Ta_append_3 F n (si (sA σ 19 (upd (ga σ 19) m (bt x y))) 101 (nI (m + 1))) x (y + (-8)) := by
  show Ta_append_b3 F (Ta_append_3 F n) σ x y = _
  have h1 : ¬ (1200 : Int32) ≤ nI m := by
    rw [show (1200 : Int32) = nI 1200 from by decide]
    exact nI_ge (by omega) (by omega)
  rw [Ta_append_b3, if_neg hy, h, if_neg h1, gd_t (inb_nI hm (by omega)), nI_clamp (by omega), nI_1]
  rfl
theorem app_ok {F : Nat} (hF : 5 ≤ F) {σ : zS} {m : Nat} {x : Int32} (h : gi σ 101 = nI m) (hm : m + 4 ≤ 1200) : Ta_append F σ x = some (si (sA σ 19 (upd (upd (upd (upd (ga σ 19) m (bt x 24)) (m + 1) (bt x 16)) (m + 2) (bt x 8)) (m + 3) (bt x 0))) 101 (nI (m + 4))) := by
  obtain ⟨n, rfl⟩ : ∃ n, F = n + 5 := ⟨F - 5, by omega⟩
  unfold Ta_append
  rw [app_step h (by omega) (by decide), show (24 : Int32) + (-8) = 16 from by decide]
  rw [app_step (m := m + 1) (by simp only [zs, if_true]) (by omega) (by decide), show (16 : Int32) + (-8) = 8 from by decide]
  rw [app_step (m := m + 2) (by simp only [zs, if_true]) (by omega) (by decide), show (8 : Int32) + (-8) = 0 from by decide]
  rw [app_step (m := m + 3) (by simp only [zs, if_true]) (by omega) (by decide), show (0 : Int32) + (-8) = -8 from by decide]
  show Ta_append_b3 (n + 5) _ _ x (-8) = _
  rw [Ta_append_b3, if_pos (by decide), Ta_append_49]
  simp only [zs, if_true, sA_si, si_si, sA_sA]
/-- the twenty bytes of five numbers -/
def b20 (a b c d e : Int32) (i : Nat) : Int32 := bt (if i < 4 then a else if i < 8 then b else if i < 12 then c else if i < 16 then d else e) (nI (24 - 8 * (i % 4)))
/-- the first j of them written from place m on -/
def w20 (f : Nat → Int32) (m : Nat) (g : Nat → Int32) : Nat → Nat → Int32
  | 0 => f
  | j + 1 => upd (w20 f m g j) (m + j) (g j)
theorem w20_at (f : Nat → Int32) (m : Nat) (g : Nat → Int32) : ∀ (j i : Nat), w20 f m g j i = if m ≤ i ∧ i < m + j then g (i - m) else f i := by
  intro j
  induction j with
  | zero => intro i; rw [w20, if_neg (by omega)]
  | succ j ih =>
    intro i
    rw [w20, up_at, ih]
    by_cases h : i = m + j
    · rw [if_pos h, if_pos (by omega), h, Nat.add_sub_cancel_left]
    · rw [if_neg h]
      by_cases h2 : m ≤ i ∧ i < m + j
      · rw [if_pos h2, if_pos (by omega)]
      · rw [if_neg h2, if_neg (by omega)]
theorem feedC {F : Nat} (hF : 5 ≤ F) {σ : zS} {m : Nat} {a b c d e : Int32} (h : gi σ 101 = nI m) (hm : m + 20 ≤ 1200) : Q_feed F σ a b c d e = some (nI (m + 20), si (sA σ 19 (w20 (ga σ 19) m (b20 a b c d e) 20)) 101 (nI (m + 20))) := by
  have hr : Ta_hasRoom F σ = some (1, σ) := by
    have h1 : ¬ (1200 : Int32) < nI m + 20 := by
      rw [show (20 : Int32) = nI 20 from by decide, nI_add, show (1200 : Int32) = nI 1200 from by decide]
      exact nI_nlt (by omega) (by omega)
    rw [Ta_hasRoom, h, if_neg h1, Ta_hasRoom_18, gd_t isB_1]
  rw [Q_feed, hr, bi_some, if_neg (by decide)]
  rw [app_ok hF h (by omega), bv_some, app_ok hF (m := m + 4) (by simp only [zs, if_true]) (by omega), bv_some, app_ok hF (m := m + 8) (by simp only [zs, if_true]) (by omega), bv_some, app_ok hF (m := m + 12) (by simp only [zs, if_true]) (by omega), bv_some, app_ok hF (m := m + 16) (by simp only [zs, if_true]) (by omega), bv_some]
  simp only [zs, if_true, sA_si, si_si, sA_sA]
  rfl
