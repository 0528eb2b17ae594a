/-! The class's scan: its loop. Own text. -/
theorem nm_of_letter {x : Int32} (h : (upB x || loB x) = true) : nmB x = true := by
  unfold nmB
  cases hu : upB x
  · rw [hu] at h
    have : loB x = true := h
    rw [this]
    rfl
  · rfl
theorem tokS_gt {B : Nat → Int32} {n p : Nat} (hp : p < n) : p < (tokS B n p).2.2 ∧ (tokS B n p).2.2 ≤ n := by
  unfold tokS
  by_cases c : (upB (B p) || loB (B p)) = true
  · have h1 : p < nmE B n p := by
      rw [nmE_step hp (nm_of_letter c)]
      exact nEnd_ge B n (n - (p + 1)) (p + 1)
    have h2 : nmE B n p ≤ n := nEnd_le _ _ _ _ (by omega)
    rw [if_pos c]
    split
    · exact ⟨h1, h2⟩
    · exact ⟨h1, h2⟩
  · rw [if_neg c]
    split
    · rename_i d
      have : p + 1 < n := d.elim (fun z => z.2.1) (fun z => z.2.1)
      exact ⟨by show p < p + 2; omega, by show p + 2 ≤ n; omega⟩
    · exact ⟨by show p < p + 1; omega, by show p + 1 ≤ n; omega⟩
theorem skF_ge (B : Nat → Int32) (n : Nat) : ∀ f p, p ≤ skF B n f p := by
  intro f
  induction f with
  | zero => intro p; exact Nat.le_refl _
  | succ f ih =>
    intro p
    rw [skF]
    split
    · exact Nat.le_trans (Nat.le_succ p) (ih (p + 1))
    · exact Nat.le_refl _
theorem skF_le (B : Nat → Int32) (n : Nat) : ∀ f p, p ≤ n → skF B n f p ≤ n := by
  intro f
  induction f with
  | zero => intro p h; exact h
  | succ f ih =>
    intro p h
    rw [skF]
    split
    · rename_i c
      exact ih (p + 1) c.1
    · exact h
theorem sk_ge (B : Nat → Int32) (n p : Nat) : p ≤ sk B n p := skF_ge _ _ _ _
theorem sk_le {B : Nat → Int32} {n p : Nat} (h : p ≤ n) : sk B n p ≤ n := skF_le _ _ _ _ h
theorem lxE_le (B : Nat → Int32) (n : Nat) : ∀ k, lxE B n k ≤ n := by
  intro k
  induction k with
  | zero => exact Nat.zero_le _
  | succ k ih =>
    rw [lxE]
    split
    · rename_i c
      exact (tokS_gt c).2
    · exact sk_le ih
theorem tkP_le (B : Nat → Int32) (n k : Nat) : tkP B n k ≤ n := sk_le (lxE_le B n k)
/-- the rows of tokens hold the first j of them -/
def tkOk (B : Nat → Int32) (n j : Nat) (f : Nat → Int32) (g : Nat → Int64) (h : Nat → Int32) : Prop := ∀ k, k < j → f k = tkS B n k ∧ g k = tkN B n k ∧ h k = nI (tkP B n k)
theorem tkOk_add {B : Nat → Int32} {n j : Nat} {f : Nat → Int32} {g : Nat → Int64} {h : Nat → Int32} (H : tkOk B n j f g h) {s : Int32} {v : Int64} {p : Nat} (h1 : s = tkS B n j) (h2 : v = tkN B n j) (h3 : p = tkP B n j) : tkOk B n (j + 1) (upd f j s) (vp_updL g j v) (upd h j (nI p)) := by
  intro k hk
  rw [up_at, up_at, upL_at]
  by_cases c : k = j
  · rw [if_pos c, if_pos c, if_pos c, c]
    exact ⟨h1, h2, by rw [h3]⟩
  · rw [if_neg c, if_neg c, if_neg c]
    exact H k (by omega)
theorem scan_loop {F : Nat} {σ : zS} {n : Nat} (hB : byt (ga σ 19) n) (hl : gi σ 101 = nI n) (hF : 1300 ≤ F) : ∀ (d m a t j : Nat) (f : Nat → Int32) (g : Nat → Int64) (h : Nat → Int32), n - a = d → d < m → a ≤ n → t ≤ a → j ≤ a → sk (ga σ 19) n a = tkP (ga σ 19) n j → tkOk (ga σ 19) n j f g h → (∀ k, k < j → tkP (ga σ 19) n k < n) →
    ∃ c f' g' h', Ta_scan_14 F m (tkSt σ j f g h) (nI a) (nI t) = some (tkSt σ (c + 1) f' g' h') ∧ c ≤ n ∧ tkP (ga σ 19) n c = n ∧ tkOk (ga σ 19) n (c + 1) f' g' h' ∧ ∀ k, k < c → tkP (ga σ 19) n k < n := by
  have hn := hB.1
  intro d
  induction d using Nat.strongRecOn with
  | _ d ih =>
    intro m a t j f g h hd hm ha ht hj hs hok hlt
    obtain ⟨m, rfl⟩ : ∃ m', m = m' + 1 := ⟨m - 1, by omega⟩
    obtain ⟨e1, e2, e3, e4, e5, e6⟩ := tkSt_zs σ j f g h
    have b19 : ga (tkSt σ j f g h) 19 = ga σ 19 := e6 19 (by decide) (by decide)
    have l101 : gi (tkSt σ j f g h) 101 = nI n := (e2 101 (by decide)).trans hl
    have fin : a = n → ∃ c f' g' h', Ta_scan_89 F (tkSt σ j f g h) = some (tkSt σ (c + 1) f' g' h') ∧ c ≤ n ∧ tkP (ga σ 19) n c = n ∧ tkOk (ga σ 19) n (c + 1) f' g' h' ∧ ∀ k, k < c → tkP (ga σ 19) n k < n := by
      intro han
      have hP : tkP (ga σ 19) n j = n := by rw [← hs, han]; exact sk_stop (by omega)
      refine ⟨j, _, _, _, by rw [Ta_scan_89, l101, addTok (by omega), bv_some], by omega, hP, tkOk_add hok ?_ ?_ hP.symm, hlt⟩
      · unfold tkS; rw [if_neg (by omega)]
      · unfold tkN; rw [if_neg (by omega)]
    show ∃ c f' g' h', Ta_scan_b14 F (Ta_scan_14 F m) (tkSt σ j f g h) (nI a) (nI t) = _ ∧ _
    rw [Ta_scan_b14, l101, b19]
    by_cases c1 : (1200 : Int32) ≤ nI t
    · rw [if_pos c1]
      have : 1200 ≤ t := (nI_leI (a := 1200) (b := t) (by decide) (by omega)).mp c1
      exact fin (by omega)
    · rw [if_neg c1]
      by_cases c2 : n ≤ a
      · rw [if_pos (nI_le c2 (by omega))]
        exact fin (by omega)
      · rw [if_neg (nI_ge (by omega) (by omega)), gd_t (inb_nI (by omega) (by omega)), nI_clamp (by omega)]
        have blank : blB (ga σ 19 a) = true → ∃ c f' g' h', Ta_scan_48 F (Ta_scan_14 F m) (tkSt σ j f g h) (nI a) (nI t) = some (tkSt σ (c + 1) f' g' h') ∧ c ≤ n ∧ tkP (ga σ 19) n c = n ∧ tkOk (ga σ 19) n (c + 1) f' g' h' ∧ ∀ k, k < c → tkP (ga σ 19) n k < n := by
          intro hb
          rw [Ta_scan_48, Ta_scan_83, nI_1, nI_1]
          exact ih (n - (a + 1)) (by omega) m (a + 1) (t + 1) j f g h rfl (by omega) (by omega) (by omega) (by omega) ((sk_step (by omega) hb).symm.trans hs) hok hlt
        by_cases c3 : ga σ 19 a = 32
        · rw [if_pos c3]
          exact blank (by unfold blB; rw [c3]; decide)
        · rw [if_neg c3]
          by_cases c4 : ga σ 19 a = 10
          · rw [if_pos c4]
            exact blank (by unfold blB; rw [c4]; decide)
          · rw [if_neg c4]
            have hnb : blB (ga σ 19 a) = false := by unfold blB; simp [c3, c4]
            have ha2 : tkP (ga σ 19) n j = a := by rw [← hs]; exact sk_stop (by rw [hnb]; simp)
            have hgt := tokS_gt (B := ga σ 19) (show a < n by omega)
            have next : ∀ q s v, q = (tokS (ga σ 19) n a).2.2 → s = (tokS (ga σ 19) n a).1 → v = (tokS (ga σ 19) n a).2.1 → ∃ c f' g' h', Ta_scan_83 F (Ta_scan_14 F m) (tkSt σ (j + 1) (upd f j s) (vp_updL g j v) (upd h j (nI a))) (nI q) (nI t) = some (tkSt σ (c + 1) f' g' h') ∧ c ≤ n ∧ tkP (ga σ 19) n c = n ∧ tkOk (ga σ 19) n (c + 1) f' g' h' ∧ ∀ k, k < c → tkP (ga σ 19) n k < n := by
              intro q s v hq hs1 hv
              rw [Ta_scan_83, nI_1]
              have hx : lxE (ga σ 19) n (j + 1) = q := by
                rw [lxE]
                have : sk (ga σ 19) n (lxE (ga σ 19) n j) = a := ha2
                rw [this, if_pos (by omega), hq]
              refine ih (n - q) (by omega) m q (t + 1) (j + 1) _ _ _ rfl (by omega) (by omega) (by omega) (by omega) ?_ (tkOk_add hok ?_ ?_ ha2.symm) ?_
              · show _ = sk (ga σ 19) n (lxE (ga σ 19) n (j + 1))
                rw [hx]
              · unfold tkS; rw [ha2, if_pos (by omega), hs1]
              · unfold tkN; rw [ha2, if_pos (by omega), hv]
              · intro k hk
                rcases Nat.lt_or_ge k j with g1 | g1
                · exact hlt k g1
                · obtain rfl : k = j := by omega
                  omega
            rw [big_ok, bi_some]
            cases hu : upB (ga σ 19 a)
            · rw [if_pos (b2i_0.mpr rfl), small_ok, bi_some]
              cases hlo : loB (ga σ 19 a)
              · rw [if_pos (b2i_0.mpr rfl), scanSign_ok hB hl (by omega) (by omega) (by omega) (by rw [hu, hlo]; rfl), bi_some]
                exact next _ _ _ rfl rfl rfl
              · rw [if_neg (by decide), Ta_scan_68, scanName_ok hB hl (by omega) (by omega) (by omega) (by rw [hu, hlo]; rfl), bi_some]
                exact next _ _ _ rfl rfl rfl
            · rw [if_neg (by decide), Ta_scan_68, scanName_ok hB hl (by omega) (by omega) (by omega) (by rw [hu]; rfl), bi_some]
              exact next _ _ _ rfl rfl rfl
