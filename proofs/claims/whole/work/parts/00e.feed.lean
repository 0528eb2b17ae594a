/-! feed. Own text. -/
theorem fu_fu {α : Type} (f : Nat → α) (k : Nat) (v w : α) : fu (fu f k v) k w = fu f k w := by
  funext j
  unfold fu
  split <;> rfl
theorem fu_self {α : Type} (f : Nat → α) (k : Nat) : fu f k (f k) = f := by
  funext j
  unfold fu
  split
  · rename_i h; rw [h]
  · rfl
theorem si_si (σ : zS) (k : Nat) (v w : Int32) : si (si σ k v) k w = si σ k w := by
  unfold si
  rw [fu_fu]
theorem sA_sA (σ : zS) (k : Nat) (f g : Nat → Int32) : sA (sA σ k f) k g = sA σ k g := by
  unfold sA
  rw [fu_fu]
theorem sA_si (σ : zS) (k j : Nat) (f : Nat → Int32) (v : Int32) : sA (si σ j v) k f = si (sA σ k f) j v := rfl
theorem sa_sA (σ : zS) (k i : Nat) (v : Int32) : sa σ k i v = sA σ k (upd (ga σ k) i v) := rfl
def bt (x y : Int32) : Int32 := (x.toUInt32 >>> (Int32.toUInt32 y &&& Int32.toUInt32 31)).toInt32 &&& (255 : Int32)
theorem bt_rng (x y : Int32) : 0 ≤ (bt x y).toInt ∧ (bt x y).toInt < 256 := by
  obtain ⟨j, hj, e⟩ := pk_andE ((x.toUInt32 >>> (Int32.toUInt32 y &&& Int32.toUInt32 31)).toInt32) (m := 255) 8 (by decide)
  unfold bt
  rw [e, nI_toInt (by omega)]
  omega
theorem app_step {F n : Nat} {σ : zS} {m : Nat} {x y : Int32} (h : gi σ 101 = nI m) (hm : m < 1200) (hy : ¬ y < 0) : Ta_append_3 F (n + 1) σ x y = Ta_append_3 F n (si (sA σ 19 (upd (ga σ 19) m (bt x y))) 101 (nI (m + 1))) x (y + (-8)) := by
  show Ta_append_b3 F (Ta_append_3 F n) σ x y = _
  have h1 : ¬ (1200 : Int32) ≤ nI m := by
    rw [show (1200 : Int32) = nI 1200 from by decide]
    exact nI_ge (by omega) (by omega)
  rw [Ta_append_b3, if_neg hy, h, if_neg h1, gd_t (inb_nI hm (by omega)), nI_clamp (by omega), nI_1]
  rfl
theorem app_ok {F : Nat} (hF : 5 ≤ F) {σ : zS} {m : Nat} {x : Int32} (h : gi σ 101 = nI m) (hm : m + 4 ≤ 1200) : Ta_append F σ x = some (si (sA σ 19 (upd (upd (upd (upd (ga σ 19) m (bt x 24)) (m + 1) (bt x 16)) (m + 2) (bt x 8)) (m + 3) (bt x 0))) 101 (nI (m + 4))) := by
  obtain ⟨n, rfl⟩ : ∃ n, F = n + 5 := ⟨F - 5, by omega⟩
  unfold Ta_append
  rw [app_step h (by omega) (by decide), show (24 : Int32) + (-8) = 16 from by decide]
  rw [app_step (m := m + 1) (by simp only [zs, if_true]) (by omega) (by decide), show (16 : Int32) + (-8) = 8 from by decide]
  rw [app_step (m := m + 2) (by simp only [zs, if_true]) (by omega) (by decide), show (8 : Int32) + (-8) = 0 from by decide]
  rw [app_step (m := m + 3) (by simp only [zs, if_true]) (by omega) (by decide), show (0 : Int32) + (-8) = -8 from by decide]
  show Ta_append_b3 (n + 5) _ _ x (-8) = _
  rw [Ta_append_b3, if_pos (by decide), Ta_append_49]
  simp only [zs, if_true, sA_si, si_si, sA_sA]
/-- the twenty bytes of five numbers -/
def b20 (a b c d e : Int32) (i : Nat) : Int32 := bt (if i < 4 then a else if i < 8 then b else if i < 12 then c else if i < 16 then d else e) (nI (24 - 8 * (i % 4)))
/-- the first j of them written from place m on -/
def w20 (f : Nat → Int32) (m : Nat) (g : Nat → Int32) : Nat → Nat → Int32
  | 0 => f
  | j + 1 => upd (w20 f m g j) (m + j) (g j)
theorem w20_at (f : Nat → Int32) (m : Nat) (g : Nat → Int32) : ∀ (j i : Nat), w20 f m g j i = if m ≤ i ∧ i < m + j then g (i - m) else f i := by
  intro j
  induction j with
  | zero => intro i; rw [w20, if_neg (by omega)]
  | succ j ih =>
    intro i
    rw [w20, up_at, ih]
    by_cases h : i = m + j
    · rw [if_pos h, if_pos (by omega), h, Nat.add_sub_cancel_left]
    · rw [if_neg h]
      by_cases h2 : m ≤ i ∧ i < m + j
      · rw [if_pos h2, if_pos (by omega)]
      · rw [if_neg h2, if_neg (by omega)]
theorem feedC {F : Nat} (hF : 5 ≤ F) {σ : zS} {m : Nat} {a b c d e : Int32} (h : gi σ 101 = nI m) (hm : m + 20 ≤ 1200) : Q_feed F σ a b c d e = some (nI (m + 20), si (sA σ 19 (w20 (ga σ 19) m (b20 a b c d e) 20)) 101 (nI (m + 20))) := by
  have hr : Ta_hasRoom F σ = some (1, σ) := by
    have h1 : ¬ (1200 : Int32) < nI m + 20 := by
      rw [show (20 : Int32) = nI 20 from by decide, nI_add, show (1200 : Int32) = nI 1200 from by decide]
      exact nI_nlt (by omega) (by omega)
    rw [Ta_hasRoom, h, if_neg h1, Ta_hasRoom_18, gd_t isB_1]
  rw [Q_feed, hr, bi_some, if_neg (by decide)]
  rw [app_ok hF h (by omega), bv_some, app_ok hF (m := m + 4) (by simp only [zs, if_true]) (by omega), bv_some, app_ok hF (m := m + 8) (by simp only [zs, if_true]) (by omega), bv_some, app_ok hF (m := m + 12) (by simp only [zs, if_true]) (by omega), bv_some, app_ok hF (m := m + 16) (by simp only [zs, if_true]) (by omega), bv_some]
  simp only [zs, if_true, sA_si, si_si, sA_sA]
  rfl
theorem le_lit {k n : Nat} (hk : k < 2 ^ 31) (hn : n < 2 ^ 31) : (nI n ≤ nI k) ↔ n ≤ k := nI_leI hn hk
theorem feedM_sh {k : Nat} (hk : k < 20) : (24 : Int32) - (8 : Int32) * (nI k - nI k / (4 : Int32) * (4 : Int32)) = nI (24 - 8 * (k % 4)) := by
  rw [show (4 : Int32) = nI 4 from by decide, pk_rem (by omega) (by omega) (by omega), show (8 : Int32) = nI 8 from by decide, pk_mul, show (24 : Int32) = nI 24 from by decide, pk_sub (by omega)]
theorem feedM_put {F : Nat} {rc : zS → Int32 → Int32 → Int32 → Int32 → Int32 → Int32 → Option (Int32 × zS)} {τ : zS} {m k : Nat} {a b c d e s : Int32} (h : gi τ 2 = nI (m + k)) (hm : m + k < 1200) (hk : k < 20) : Md_feed_72 F rc τ a b c d e (nI k) s = rc (si (sA τ 1 (upd (ga τ 1) (m + k) (bt s (nI (24 - 8 * (k % 4)))))) 2 (nI (m + k + 1))) a b c d e (nI (k + 1)) := by
  rw [Md_feed_72, h, gd_t (inb_nI hm (by omega)), nI_clamp (by omega), nI_1, nI_1, feedM_sh hk]
  rfl
theorem feedM_step {F n : Nat} {τ : zS} {m k : Nat} {a b c d e : Int32} (h : gi τ 2 = nI (m + k)) (hm : m + k < 1200) (hk : k < 20) : Md_feed_19 F (n + 1) τ a b c d e (nI k) = Md_feed_19 F n (si (sA τ 1 (upd (ga τ 1) (m + k) (b20 a b c d e k))) 2 (nI (m + k + 1))) a b c d e (nI (k + 1)) := by
  show Md_feed_b19 F (Md_feed_19 F n) τ a b c d e (nI k) = _
  have q20 : ((20 : Int32) ≤ nI k) ↔ 20 ≤ k := le_lit (n := 20) (by omega) (by decide)
  have q4 : ((4 : Int32) ≤ nI k) ↔ 4 ≤ k := le_lit (n := 4) (by omega) (by decide)
  have q8 : ((8 : Int32) ≤ nI k) ↔ 8 ≤ k := le_lit (n := 8) (by omega) (by decide)
  have q12 : ((12 : Int32) ≤ nI k) ↔ 12 ≤ k := le_lit (n := 12) (by omega) (by decide)
  have q16 : ((16 : Int32) ≤ nI k) ↔ 16 ≤ k := le_lit (n := 16) (by omega) (by decide)
  rw [Md_feed_b19]
  simp only [q20, q4, q8, q12, q16, feedM_put h hm hk]
  rw [if_neg (show ¬ 20 ≤ k by omega)]
  unfold b20
  by_cases c1 : k < 4
  · rw [if_neg (show ¬ 4 ≤ k by omega), if_pos c1]
  · rw [if_pos (show 4 ≤ k by omega), if_neg c1]
    by_cases c2 : k < 8
    · rw [if_neg (show ¬ 8 ≤ k by omega), if_pos c2]
    · rw [if_pos (show 8 ≤ k by omega), if_neg c2]
      by_cases c3 : k < 12
      · rw [if_neg (show ¬ 12 ≤ k by omega), if_pos c3]
      · rw [if_pos (show 12 ≤ k by omega), if_neg c3]
        by_cases c4 : k < 16
        · rw [if_neg (show ¬ 16 ≤ k by omega), if_pos c4]
        · rw [if_pos (show 16 ≤ k by omega), if_neg c4]
theorem feedM_loop {F : Nat} {τ : zS} {m : Nat} {a b c d e : Int32} (hm : m + 20 ≤ 1200) : ∀ (j n k : Nat), k + j = 20 → j < n → ∀ (f : Nat → Int32), f = w20 (ga τ 1) m (b20 a b c d e) k → Md_feed_19 F n (si (sA τ 1 f) 2 (nI (m + k))) a b c d e (nI k) = some (nI (m + 20), si (sA τ 1 (w20 (ga τ 1) m (b20 a b c d e) 20)) 2 (nI (m + 20))) := by
  intro j
  induction j with
  | zero =>
    intro n k hk hn f hf
    obtain ⟨n, rfl⟩ : ∃ n', n = n' + 1 := ⟨n - 1, by omega⟩
    obtain rfl : k = 20 := by omega
    subst hf
    show Md_feed_b19 F (Md_feed_19 F n) _ a b c d e (nI 20) = _
    rw [Md_feed_b19, if_pos (by decide)]
    simp only [zs, if_true]
  | succ j ih =>
    intro n k hk hn f hf
    obtain ⟨n, rfl⟩ : ∃ n', n = n' + 1 := ⟨n - 1, by omega⟩
    rw [feedM_step (m := m) (by simp only [zs, if_true]) (by omega) (by omega)]
    simp only [zs, if_true, sA_si, si_si, sA_sA]
    exact ih n (k + 1) (by omega) (by omega) _ (by rw [hf]; rfl)
theorem feedM {F : Nat} (hF : 21 ≤ F) {τ : zS} {m : Nat} {a b c d e : Int32} (h : gi τ 2 = nI m) (hm : m + 20 ≤ 1200) : Md_feed F τ a b c d e = some (nI (m + 20), si (sA τ 1 (w20 (ga τ 1) m (b20 a b c d e) 20)) 2 (nI (m + 20))) := by
  have h1 : nI m + (20 : Int32) ≤ (1200 : Int32) := by
    rw [show (20 : Int32) = nI 20 from by decide, nI_add, show (1200 : Int32) = nI 1200 from by decide]
    exact nI_le (by omega) (by omega)
  rw [Md_feed, h, if_pos h1]
  have he : τ = si (sA τ 1 (ga τ 1)) 2 (nI (m + 0)) := by
    rw [Nat.add_zero, ← h]
    obtain ⟨t1, t2, t3⟩ := τ
    show (t1, t2, t3) = (fu t1 2 (t1 2), fu t2 1 (t2 1), t3)
    rw [fu_self, fu_self]
  have := feedM_loop (F := F) (τ := τ) (a := a) (b := b) (c := c) (d := d) (e := e) hm 20 F 0 rfl (by omega) (ga τ 1) rfl
  rw [← he] at this
  exact this
theorem feed_ok {F : Nat} (hF : 21 ≤ F) {σ τ : zS} (h : rTape σ τ) (a b c d e : Int32) : ∃ r σ' τ', Q_feed F σ a b c d e = some (r, σ') ∧ Md_feed F τ a b c d e = some (r, τ') ∧ rTape σ' τ' := by
  obtain ⟨n, hn, h1, h2, h3⟩ := h
  by_cases c1 : n + 20 ≤ 1200
  · refine ⟨_, _, _, feedC (by omega) h1 c1, feedM hF h2 c1, n + 20, c1, by simp only [zs, if_true], by simp only [zs, if_true], ?_⟩
    intro i hi
    simp only [zs, if_true]
    rw [w20_at, w20_at]
    by_cases c2 : n ≤ i ∧ i < n + 20
    · rw [if_pos c2, if_pos c2]
      exact ⟨rfl, bt_rng _ _⟩
    · rw [if_neg c2, if_neg c2]
      exact h3 i (by omega)
  · have g1 : (1200 : Int32) < nI n + 20 := by
      rw [show (20 : Int32) = nI 20 from by decide, nI_add, show (1200 : Int32) = nI 1200 from by decide]
      exact nI_lt (by omega) (by omega)
    have g2 : ¬ nI n + (20 : Int32) ≤ (1200 : Int32) := by
      rw [show (20 : Int32) = nI 20 from by decide, nI_add, show (1200 : Int32) = nI 1200 from by decide]
      exact nI_ge (by omega) (by omega)
    refine ⟨-4, σ, τ, ?_, ?_, n, hn, h1, h2, h3⟩
    · rw [Q_feed, Ta_hasRoom, h1, if_pos g1, Ta_hasRoom_18, gd_t isB_0, bi_some, if_pos rfl]
    · rw [Md_feed, h2, if_neg g2]
