/-! The reference shows a type. Own text. -/
theorem nI_dv {a b : Nat} (ha : a < 2 ^ 31) (hb0 : 0 < b) (hb : b < 2 ^ 31) : nI a / nI b = nI (a / b) := by
  apply Int32.toInt_inj.mp
  have hd : a / b ≤ a := Nat.div_le_self a b
  rw [Int32.toInt_div, nI_toInt ha, nI_toInt hb, nI_toInt (by omega), ← Int.ofNat_tdiv]
  generalize a / b = d at hd ⊢
  exact Int.bmod_eq_of_le (by omega) (by omega)
theorem st_dv {i s : Nat} (hs : s < 4) (hi : i < 2000) : nI (4 * i + s) / (4 : Int32) = nI i := by
  rw [show (4 : Int32) = nI 4 from rfl, nI_dv (by omega) (by omega) (by omega)]
  congr 1
  omega
theorem st_md {i s : Nat} (hs : s < 4) (hi : i < 2000) : nI (4 * i + s) - nI (4 * i + s) / (4 : Int32) * (4 : Int32) = nI s := by
  rw [st_dv hs hi, show (4 : Int32) = nI 4 from rfl]
  have : nI i * nI 4 = nI (i * 4) := (Int32.ofNat_mul i 4).symm
  rw [this, show 4 * i + s = s + i * 4 by omega]
  exact nI_sb s (i * 4)
theorem fo_ap {l l2 : List BE} {m j : Nat} (hl : l ≠ []) (h : fo l m) (g : fo l2 j) : fo (bmp l j ++ l2) m := by
  cases l with
  | nil => exact absurd rfl hl
  | cons b l =>
    obtain ⟨h1, h2⟩ := h
    refine ⟨h1, ?_⟩
    have := fo_app l l2 _ j h2 g
    show fo (l ++ l2) (m - 1 + (b.1 + j) + fx b.2)
    rw [show m - 1 + (b.1 + j) + fx b.2 = m - 1 + b.1 + fx b.2 + j by omega]
    exact this
theorem sp_fo : ∀ t : TE, sp t → fo (blk t) 1 ∧ blk t ≠ [] ∧ ∀ b, b ∈ blk t → okx b
  | .var c, _ => ⟨⟨by omega, by rw [fx_lf]; rfl⟩, by simp [blk], fun b hb => by rw [List.mem_singleton.mp hb]; exact Or.inr (Or.inr (by show 10 ≤ 10 + c; omega))⟩
  | .op (.op (.var 0) f) a, h => by
    obtain ⟨_, h3, h4⟩ := h
    obtain ⟨a1, a2, a3⟩ := sp_fo f h3
    obtain ⟨b1, b2, b3⟩ := sp_fo a h4
    rw [blk]
    refine ⟨fo_ap a2 a1 b1, fun z => bmp_ne a2 1 (List.append_eq_nil_iff.mp z).1, fun b hb => ?_⟩
    rcases List.mem_append.mp hb with z | z
    · obtain ⟨b', w1, w2⟩ := mem_bmp z
      have := a3 b' w1
      unfold okx at this ⊢
      rw [← w2]; exact this
    · exact b3 b z
  | .op (.op (.var 1) l) r, h => by
    obtain ⟨h3, h4⟩ := h
    obtain ⟨a1, a2, a3⟩ := sp_fo l h3
    obtain ⟨b1, b2, b3⟩ := sp_fo r h4
    rw [blk]
    refine ⟨⟨by omega, fo_app _ _ 1 1 a1 b1⟩, by simp, fun b hb => ?_⟩
    rcases List.mem_cons.mp hb with z | z
    · rw [z]; exact Or.inr (Or.inl rfl)
    · rcases List.mem_append.mp z with w | w
      · exact a3 b w
      · exact b3 b w
  | .op (.op (.var 2) (.var p)) t, h => by
    obtain ⟨a1, a2, a3⟩ := sp_fo t h
    rw [blk]
    refine ⟨⟨by omega, a1⟩, by simp, fun b hb => ?_⟩
    rcases List.mem_cons.mp hb with z | z
    · rw [z]; exact Or.inl rfl
    · exact a3 b z
theorem sp_ind {P : TE → Prop} (h0 : ∀ c, P (.var c)) (h1 : ∀ f a, (isR f = false ∧ isI f = false) → sp f → sp a → P f → P a → P (tO f a)) (h2 : ∀ l r, sp l → sp r → P l → P r → P (tR l r)) (h3 : ∀ p t, sp t → P t → P (tI p t)) : ∀ t, sp t → P t
  | .var c, _ => h0 c
  | .op (.op (.var 0) f) a, h => h1 f a h.1 h.2.1 h.2.2 (sp_ind h0 h1 h2 h3 f h.2.1) (sp_ind h0 h1 h2 h3 a h.2.2)
  | .op (.op (.var 1) l) r, h => h2 l r h.1 h.2 (sp_ind h0 h1 h2 h3 l h.1) (sp_ind h0 h1 h2 h3 r h.2)
  | .op (.op (.var 2) (.var p)) t, h => h3 p t h (sp_ind h0 h1 h2 h3 t h)
/-- names whose bytes may be shown -/
def nmOk (v : Int64) : Prop := ∀ i, i < 8 → nN v / 2 ^ (8 * i) % 256 < 128
theorem it_sO (f a : TE) (h : sp f) : it (blk (tO f a)) = 0 :: (it (blk f) ++ it (blk a)) := by
  show it (bmp (blk f) 1 ++ blk a) = _
  rw [it_app, it_bmp (sp_fo f h).2.1]
  rfl
section M
variable {F : Nat}
/-- a byte on the stack -/
theorem ro_byte {τ : zS} {n : Nat} {W : List Int32} {b : Nat} (hb : 0 < b) (hb2 : b < 128) (hn : n < 15000) (h : ga τ 53 n = -(nI b)) (hl : lnM τ W) (hW : W.length + 2 < 5900) : ∃ τ', (∀ f, Md_layRowOut_14 F (f + 1) τ (nI (n + 1)) = Md_layRowOut_14 F f τ' (nI n)) ∧ lnM τ' (W ++ (if b = 45 then [45, 62] else [nI b])) ∧ sx [82] [55] τ τ' := by
  have hneg : ∀ b, b < 128 → 0 < b → ¬ (0 : Int32) ≤ -(nI b) ∧ -(-(nI b)) = nI b ∧ (-(nI b) = -45 ↔ b = 45) := by decide +kernel
  obtain ⟨h1, h2, h3⟩ := hneg b hb2 hb
  have st : ∀ f, Md_layRowOut_14 F (f + 1) τ (nI (n + 1)) = bv (Md_put F τ (nI b)) (fun σ7 => if b = 45 then bv (Md_put F σ7 62) (fun σ10 => Md_layRowOut_14 F f σ10 (nI n)) else Md_layRowOut_14 F f σ7 (nI n)) := fun f => by
    rw [Md_layRowOut_14, Md_layRowOut_b14, if_neg (nI_nle (by omega) (by omega)), nI_prd, gd_t (inb_nI (by omega) (by omega)), nI_clamp (by omega), h, if_neg h1, h2]
    congr 1
    funext s
    by_cases c : b = 45
    · rw [if_pos (h3.mpr c), if_pos c]; rfl
    · rw [if_neg (fun z => c (h3.mp z)), if_neg c]; rfl
  obtain ⟨τ1, a1, a2, a3⟩ := putM (F := F) hl (by omega) (nI b)
  by_cases c : b = 45
  · obtain ⟨τ2, b1, b2, b3⟩ := putM (F := F) a2 (by simp; omega) 62
    refine ⟨τ2, fun f => by rw [st, a1, bv_some, if_pos c, b1, bv_some], ?_, sx_tr a3 b3⟩
    rw [if_pos c]
    rw [c, List.append_assoc] at b2
    exact b2
  · refine ⟨τ1, fun f => by rw [st, a1, bv_some, if_neg c], ?_, a3⟩
    rw [if_neg c]; exact a2
/-- an item on the stack: the head of the step -/
theorem ro_item {τ : zS} {n i s : Nat} (hs : s < 4) (hi : i < 1200) (hn : n < 15000) (h : ga τ 53 n = nI (4 * i + s)) (f : Nat) : Md_layRowOut_14 F (f + 1) τ (nI (n + 1)) = bi (Md_layItem F τ (nI i) (nI s) (nI n)) (fun r5 σ4 => Md_layRowOut_14 F f σ4 r5) := by
  rw [Md_layRowOut_14, Md_layRowOut_b14, if_neg (nI_nle (by omega) (by omega)), nI_prd, gd_t (inb_nI (by omega) (by omega)), nI_clamp (by omega), h, if_pos (nI_pos' (by omega)), st_md hs (by omega), st_dv hs (by omega)]
  rfl
/-- two sides are put on the stack -/
theorem it_two (hF : 20000 ≤ F) {τ : zS} {i n v : Nat} {l : List BE} (hv : v = 0 ∨ v = 2) (h : ga τ 59 i = nI v) (hl : fo l 1) (hok : ∀ b, b ∈ l → okx b) (hr : mRw τ 59 (i + 1) (it l)) (hi : i + 1 + (it l).length ≤ 1200) (hn : n < 15000) : Md_layItem_125 F τ (nI i) (nI n) = some (nI (n + 3), sa (sa (sa τ 53 n (nI (4 * (i + 1 + (it l).length) + (if v = 0 then 2 else 0)))) 53 (n + 1) (if v = 0 then -32 else -45)) 53 (n + 2) (nI (4 * (i + 1) + (if v = 0 then 3 else 1)))) := by
  have e4 : ∀ m, (4 : Int32) * nI m = nI (4 * m) := fun m => by
    rw [show (4 : Int32) = nI 4 from rfl]; exact (Int32.ofNat_mul 4 m).symm
  have hne1 : ¬ nI v = 1 := by rcases hv with z | z <;> rw [z] <;> decide
  have g59 : ∀ (s : zS) (a : Nat) (w : Int32), ga (sa s 53 a w) 59 i = ga s 59 i := fun s a w => by simp [zs]
  rw [Md_layItem_125, gd_t (inb_nI (by omega) (by omega)), nI_clamp (by omega), h, if_neg hne1, nI_1, endM hF hl hok hr hi, bi_some, h, e4]
  have a2 : ∀ m, nI m + (2 : Int32) = nI (m + 2) := fun m => nI_add m 2
  have a3 : ∀ m, nI m + (3 : Int32) = nI (m + 3) := fun m => nI_add m 3
  have a0 : ∀ m, nI m + (0 : Int32) = nI (m + 0) := fun m => nI_add m 0
  rcases hv with z | z
  · subst z
    rw [if_pos nI_0, Md_layItem_181, gd_t (inb_nI (by omega) (by omega)), gd_t (inb_nI (by omega) (by omega)), nI_clamp (by omega), nI_clamp (by omega), a2, h, if_pos nI_0, nI_1, Md_layItem_207, gd_t (inb_nI (by omega) (by omega)), gd_t (inb_nI (by omega) (by omega)), nI_clamp (by omega), nI_clamp (by omega), g59, h, if_pos nI_0, Md_layItem_235, nI_1, e4, a2, gd_t (inb_nI (by omega) (by omega)), nI_clamp (by omega), a3, a3]
    rfl
  · subst z
    have n2 : ¬ nI 2 = 0 := by decide
    rw [if_neg n2, Md_layItem_181, gd_t (inb_nI (by omega) (by omega)), gd_t (inb_nI (by omega) (by omega)), nI_clamp (by omega), nI_clamp (by omega), a0, h, if_neg n2, nI_1, Md_layItem_207, gd_t (inb_nI (by omega) (by omega)), gd_t (inb_nI (by omega) (by omega)), nI_clamp (by omega), nI_clamp (by omega), g59, h, if_neg n2, Md_layItem_235, nI_1, e4, a2, gd_t (inb_nI (by omega) (by omega)), nI_clamp (by omega), a3, nI_1]
    rfl
def roP (F : Nat) (t : TE) : Prop := ∀ (s i n : Nat) (τ : zS) (W : List Int32), s < 4 → mRw τ 59 i (it (blk t)) → i + (it (blk t)).length ≤ 1200 → ga τ 53 n = nI (4 * i + s) → n + 4 * (it (blk t)).length < 15000 → lnM τ W → W.length + 14 * (blk t).length + 10 < 5900 → ∃ k τ', k ≤ 4 * (it (blk t)).length ∧ (∀ f, Md_layRowOut_14 F (f + k) τ (nI (n + 1)) = Md_layRowOut_14 F f τ' (nI n)) ∧ lnM τ' (W ++ prS t s) ∧ sx [82] [53, 55] τ τ' ∧ ∀ j, j < n → ga τ' 53 j = ga τ 53 j
theorem rowOut (hF : 20000 ≤ F) : ∀ t : TE, sp t → (∀ c, c ∈ lvs t → nmOk (lfN c)) → roP F t := by
  have two : ∀ (v : Nat) (l r : TE) (s1 s2 : Nat), (v = 0 ∧ s1 = 3 ∧ s2 = 2) ∨ (v = 2 ∧ s1 = 1 ∧ s2 = 0) → sp l → sp r → roP F l → roP F r → ∀ (i n : Nat) (τ : zS) (W : List Int32), mRw τ 59 i (v :: (it (blk l) ++ it (blk r))) → i + (v :: (it (blk l) ++ it (blk r))).length ≤ 1200 → n + 4 * ((it (blk l)).length + (it (blk r)).length) + 3 < 15000 → lnM τ W → W.length + 14 * ((blk l).length + (blk r).length) + 9 < 5900 → ∃ k τ' τ0, Md_layItem_125 F τ (nI i) (nI n) = some (nI (n + 3), τ0) ∧ k ≤ 4 * ((it (blk l)).length + (it (blk r)).length) + 1 ∧ (∀ f, Md_layRowOut_14 F (f + k) τ0 (nI (n + 3)) = Md_layRowOut_14 F f τ' (nI n)) ∧ lnM τ' (W ++ (prS l s1 ++ ((if v = 0 then [32] else [45, 62]) ++ prS r s2))) ∧ sx [82] [53, 55] τ τ' ∧ ∀ j, j < n → ga τ' 53 j = ga τ 53 j := by
    intro v l r s1 s2 hv hl hr pl pr i n τ W hm hi hn hW hWl
    simp only [List.length_cons, List.length_append] at hi
    have fn1 := List.length_pos_iff.mpr (sp_fo l hl).2.1
    have fn2 := List.length_pos_iff.mpr (sp_fo r hr).2.1
    obtain ⟨m1, m2⟩ := hm
    rw [mRw_app] at m2
    obtain ⟨fl, fn, fok⟩ := sp_fo l hl
    have hvv : v = 0 ∨ v = 2 := by omega
    have hiv : ga τ 59 i = nI v := by
      rcases m1 with ⟨_, z⟩ | ⟨z, _⟩
      · exact z
      · omega
    have e125 := it_two (F := F) (τ := τ) (i := i) (n := n) (v := v) hF hvv hiv fl fok m2.1 (by omega) (by omega)
    obtain ⟨τ0, hτ0⟩ : ∃ z, z = sa (sa (sa τ 53 n (nI (4 * (i + 1 + (it (blk l)).length) + (if v = 0 then 2 else 0)))) 53 (n + 1) (if v = 0 then -32 else -45)) 53 (n + 2) (nI (4 * (i + 1) + (if v = 0 then 3 else 1))) := ⟨_, rfl⟩
    rw [← hτ0] at e125
    have s00 : sx [] [53] τ τ0 := by rw [hτ0]; exact sx_sa (sx_sa (sx_sa (sx_rfl _ _ _) (by simp) _ _) (by simp) _ _) (by simp) _ _
    have s0 : sx [82] [53, 55] τ τ0 := by rw [hτ0]; exact sx_sa (sx_sa (sx_sa (sx_rfl _ _ _) (by simp) _ _) (by simp) _ _) (by simp) _ _
    have t2 : ga τ0 53 (n + 2) = nI (4 * (i + 1) + s1) := by
      rw [hτ0]; simp only [zs, if_true, up_at]
      rcases hv with ⟨z, w, _⟩ | ⟨z, w, _⟩ <;> subst z <;> subst w <;> rfl
    have t1 : ga τ0 53 (n + 1) = -(nI (if v = 0 then 32 else 45)) := by
      rw [hτ0]; simp only [zs, if_true, up_at]
      rw [if_neg (by omega)]
      rcases hvv with z | z <;> subst z <;> rfl
    have t0 : ga τ0 53 n = nI (4 * (i + 1 + (it (blk l)).length) + s2) := by
      rw [hτ0]; simp only [zs, if_true, up_at]
      rw [if_neg (by omega), if_neg (by omega)]
      rcases hv with ⟨z, _, w⟩ | ⟨z, _, w⟩ <;> subst z <;> subst w <;> rfl
    have tl : ∀ j, j < n → ga τ0 53 j = ga τ 53 j := fun j hj => by
      rw [hτ0]; simp only [zs, if_true, up_at]
      rw [if_neg (by omega), if_neg (by omega), if_neg (by omega)]
    have mfr : ∀ (τ' : zS), sx [82] [53, 55] τ τ' → ∀ (j : Nat) (I : List Nat), mRw τ 59 j I → mRw τ' 59 j I := fun τ' hs j I h => mRw_fr (hs.2.1 2 (by simp)) (sx_gb hs 3) I j j (fun k _ => by rw [hs.2.1 59 (by simp)]) h
    obtain ⟨k1, τ1, a1, a2, a3, a4, a5⟩ := pl s1 (i + 1) (n + 2) τ0 W (by omega) (mfr τ0 s0 _ _ m2.1) (by omega) t2 (by omega) (lnM_sx hW s00 (by simp) (by simp)) (by omega)
    have hp1 := (prS_len l s1 hl).1
    obtain ⟨τ2, b1, b2, b3⟩ := ro_byte (F := F) (τ := τ1) (n := n + 1) (b := if v = 0 then 32 else 45) (by split <;> omega) (by split <;> omega) (by omega) (by rw [a5 (n + 1) (by omega)]; exact t1) a3 (by rw [List.length_append]; omega)
    have s1' : sx [82] [53, 55] τ τ2 := sx_tr (sx_tr s0 a4) (sx_mono (by simp) (by simp) b3)
    have hsep : (if (if v = 0 then 32 else 45 : Nat) = 45 then [45, 62] else [nI (if v = 0 then 32 else 45)]) = (if v = 0 then [32] else [45, 62] : List Int32) := by
      rcases hvv with z | z <;> subst z <;> rfl
    rw [hsep] at b2
    obtain ⟨k2, τ3, c1, c2, c3, c4, c5⟩ := pr s2 (i + 1 + (it (blk l)).length) n τ2 _ (by omega) (mfr τ2 s1' _ _ m2.2) (by omega) (by rw [b3.2.1 53 (by simp), a5 n (by omega)]; exact t0) (by omega) b2 (by
      rw [List.length_append, List.length_append]
      have : (if v = 0 then [32] else [45, 62] : List Int32).length ≤ 2 := by split <;> simp
      omega)
    refine ⟨k2 + 1 + k1, τ3, τ0, e125, by omega, fun f => ?_, ?_, sx_tr s1' c4, fun j hj => ?_⟩
    · rw [show f + (k2 + 1 + k1) = f + k2 + 1 + k1 by omega]
      rw [a2 (f + k2 + 1), b1 (f + k2), c2 f]
    · simp only [List.append_assoc] at c3 ⊢
      exact c3
    · rw [c5 j hj, b3.2.1 53 (by simp), a5 j (by omega), tl j hj]
  -- with brackets or without
  have par : ∀ (op cl : Nat) (x5 : Int32), (op = 40 ∧ cl = 41 ∧ x5 = 1) ∨ (op = 91 ∧ cl = 93 ∧ x5 = 0) → ∀ (i n : Nat) (τ : zS) (W : List Int32), n < 15000 → lnM τ W → W.length < 5890 → ∃ τ1, Md_layItem_87 F τ (nI i) (nI n) x5 = Md_layItem_125 F τ1 (nI i) (nI (n + 1)) ∧ lnM τ1 (W ++ [nI op]) ∧ ga τ1 53 n = -(nI cl) ∧ sx [82] [53, 55] τ τ1 ∧ ∀ j, j < n → ga τ1 53 j = ga τ 53 j := by
    intro op cl x5 ho i n τ W hn hW hWl
    obtain ⟨τ1, a1, a2, a3⟩ := putM (F := F) hW (by omega) (nI op)
    refine ⟨sa τ1 53 n (-(nI cl)), ?_, ⟨by simp only [zs]; exact a2.1, fun j v hj => by simp only [zs, if_neg (show ¬ (55 : Nat) = 53 by decide)]; exact a2.2 j v hj⟩, by simp only [zs, if_true, up_at], sx_sa (sx_mono (by simp) (by simp) a3) (by simp) _ _, fun j hj => ?_⟩
    · rcases ho with ⟨z1, z2, z3⟩ | ⟨z1, z2, z3⟩
      · subst z1; subst z2; subst z3
        rw [Md_layItem_87, if_neg (by decide), Md_layItem_100, show (40 : Int32) = nI 40 from rfl, a1, bv_some, if_neg (by decide), Md_layItem_121, gd_t (inb_nI (by omega) (by omega)), nI_clamp (by omega), nI_1]
        rfl
      · subst z1; subst z2; subst z3
        rw [Md_layItem_87, if_pos rfl, Md_layItem_100, show (91 : Int32) = nI 91 from rfl, a1, bv_some, if_pos rfl, Md_layItem_121, gd_t (inb_nI (by omega) (by omega)), nI_clamp (by omega), nI_1]
        rfl
    · simp only [zs, if_true, up_at]
      rw [if_neg (by omega), a3.2.1 53 (by simp)]
  -- a closing bracket
  have clo : ∀ (cl : Nat), cl = 41 ∨ cl = 93 → ∀ (n : Nat) (τ : zS) (W : List Int32), n < 15000 → ga τ 53 n = -(nI cl) → lnM τ W → W.length + 2 < 5900 → ∃ τ', (∀ f, Md_layRowOut_14 F (f + 1) τ (nI (n + 1)) = Md_layRowOut_14 F f τ' (nI n)) ∧ lnM τ' (W ++ [nI cl]) ∧ sx [82] [55] τ τ' := by
    intro cl hc n τ W hn h hl hW
    obtain ⟨τ', a1, a2, a3⟩ := ro_byte (F := F) (b := cl) (by omega) (by omega) hn h hl hW
    rw [if_neg (by omega)] at a2
    exact ⟨τ', a1, a2, a3⟩
  -- a type of two sides
  have bin : ∀ (v : Nat) (l r : TE) (s1 s2 : Nat), (v = 0 ∧ s1 = 3 ∧ s2 = 2) ∨ (v = 2 ∧ s1 = 1 ∧ s2 = 0) → sp l → sp r → roP F l → roP F r → ∀ (cl : Bool) (s i n : Nat) (τ : zS) (W : List Int32), (cl = true ↔ (v = 0 ∧ s = 2) ∨ (v = 2 ∧ 0 < s)) → s < 4 → mRw τ 59 i (v :: (it (blk l) ++ it (blk r))) → i + (v :: (it (blk l) ++ it (blk r))).length ≤ 1200 → ga τ 53 n = nI (4 * i + s) → n + 4 * (v :: (it (blk l) ++ it (blk r))).length < 15000 → lnM τ W → W.length + 14 * ((blk l).length + (blk r).length) + 10 < 5900 → ∃ k τ', k ≤ 4 * (v :: (it (blk l) ++ it (blk r))).length ∧ (∀ f, Md_layRowOut_14 F (f + k) τ (nI (n + 1)) = Md_layRowOut_14 F f τ' (nI n)) ∧ lnM τ' (W ++ ((if cl = true then [40] else []) ++ ((prS l s1 ++ ((if v = 0 then [32] else [45, 62]) ++ prS r s2)) ++ (if cl = true then [41] else [])))) ∧ sx [82] [53, 55] τ τ' ∧ ∀ j, j < n → ga τ' 53 j = ga τ 53 j := by
    intro v l r s1 s2 hv hl hr pl pr cl s i n τ W hcl hs hm hi hg hn hW hWl
    have hvv : v = 0 ∨ v = 2 := by omega
    have hiv : ga τ 59 i = nI v := by
      rcases hm.1 with ⟨_, z⟩ | ⟨z, _⟩
      · exact z
      · omega
    simp only [List.length_cons, List.length_append] at hi hn
    obtain ⟨fn1, fn2⟩ : 0 < (blk l).length ∧ 0 < (blk r).length := ⟨List.length_pos_iff.mpr (sp_fo l hl).2.1, List.length_pos_iff.mpr (sp_fo r hr).2.1⟩
    have hp1 := (prS_len l s1 hl).1
    have hp2 := (prS_len r s2 hr).1
    have item : Md_layItem F τ (nI i) (nI s) (nI n) = if cl = true then Md_layItem_87 F τ (nI i) (nI n) 1 else Md_layItem_125 F τ (nI i) (nI n) := by
      have n70 : Md_layItem_70 F τ (nI i) (nI n) 0 = Md_layItem_125 F τ (nI i) (nI n) := by
        rw [Md_layItem_70, if_pos rfl, gd_t (inb_nI (by omega) (by omega)), nI_clamp (by omega), hiv, if_neg (by rcases hvv with z | z <;> rw [z] <;> decide)]
      have c70 : Md_layItem_70 F τ (nI i) (nI n) 1 = Md_layItem_87 F τ (nI i) (nI n) 1 := by
        rw [Md_layItem_70, if_neg (by decide)]
      rw [Md_layItem, gd_t (inb_nI (by omega) (by omega)), nI_clamp (by omega), hiv]
      rcases hvv with z | z
      · rw [z, if_pos (by decide), if_pos nI_0]
        by_cases w : s = 2
        · rw [if_pos (by rw [w]; rfl), c70, if_pos (hcl.mpr (Or.inl ⟨z, w⟩))]
        · rw [if_neg (show ¬ nI s = (2 : Int32) from fun u => w ((nI_eq (a := s) (b := 2) (by omega) (by omega)).mp u)), n70, if_neg (fun u => by rcases hcl.mp u with ⟨_, y⟩ | ⟨y, _⟩ <;> omega)]
      · rw [z, if_pos (by decide), if_neg (by decide), if_pos (by decide)]
        by_cases w : 0 < s
        · rw [if_neg (nI_nle w (by omega)), c70, if_pos (hcl.mpr (Or.inr ⟨z, w⟩))]
        · rw [if_pos (by rw [show s = 0 by omega]; decide), Md_layItem_69, n70, if_neg (fun u => by rcases hcl.mp u with ⟨y, _⟩ | ⟨_, y⟩ <;> omega)]
    have hstep := fun f => ro_item (F := F) (τ := τ) (n := n) (i := i) (s := s) hs (by omega) (by omega) hg f
    cases cl with
    | true =>
      rw [if_pos rfl] at item
      obtain ⟨τ1, a1, a2, a3, a4, a5⟩ := par 40 41 1 (Or.inl ⟨rfl, rfl, rfl⟩) i n τ W (by omega) hW (by omega)
      obtain ⟨k, τ2, τ0, b0, b1, b2, b3, b4, b5⟩ := two v l r s1 s2 hv hl hr pl pr i (n + 1) τ1 _ (mRw_fr (a4.2.1 2 (by simp)) (sx_gb a4 3) _ i i (fun j _ => by rw [a4.2.1 59 (by simp)]) hm) (by simp; omega) (by omega) a2 (by simp; omega)
      have hsl : (if v = 0 then [32] else [45, 62] : List Int32).length ≤ 2 := by split <;> simp
      obtain ⟨τ3, c1, c2, c3⟩ := clo 41 (Or.inl rfl) n τ2 _ (by omega) (by rw [b5 n (by omega)]; exact a3) b3 (by simp only [List.length_append, List.length_cons, List.length_nil]; omega)
      refine ⟨1 + k + 1, τ3, by simp; omega, fun f => ?_, ?_, sx_tr (sx_tr a4 b4) (sx_mono (by simp) (by simp) c3), fun j hj => by rw [c3.2.1 53 (by simp), b5 j (by omega), a5 j hj]⟩
      · rw [show f + (1 + k + 1) = f + 1 + k + 1 by omega, hstep, item, a1, b0, bi_some, b2 (f + 1), c1 f]
      · simp only [List.append_assoc] at c2 ⊢
        exact c2
    | false =>
      rw [if_neg (by decide)] at item
      obtain ⟨k, τ2, τ0, b0, b1, b2, b3, b4, b5⟩ := two v l r s1 s2 hv hl hr pl pr i n τ W hm (by simp; omega) (by omega) hW (by omega)
      refine ⟨k + 1, τ2, by simp; omega, fun f => ?_, ?_, b4, b5⟩
      · rw [show f + (k + 1) = f + k + 1 by omega, hstep, item, b0, bi_some, b2 f]
      · simp only [if_neg (show ¬ false = true by decide), List.nil_append, List.append_nil]
        exact b3
  have leaf : ∀ c, nmOk (lfN c) → roP F (.var c) := by
    intro c hc s i n τ W hs hm hi hg hn hW hWl
    have e1 : it (blk (.var c)) = [10 + c] := rfl
    have e2 : (blk (.var c)).length = 1 := rfl
    rw [e1] at hm hi hn ⊢
    rw [e2] at hWl
    simp only [List.length_cons, List.length_nil] at hi hn
    rcases hm.1 with ⟨z, _⟩ | ⟨_, m, h2, h3, h4, h5⟩
    · omega
    · rw [Nat.add_sub_cancel_left] at h5
      obtain ⟨τ1, a1, a2, a3⟩ := nameM (F := F) hF h2 hc h5 hW (by omega)
      have e10 : nI (10 + m) - (10 : Int32) = nI m := by
        rw [Nat.add_comm]
        exact nI_sb m 10
      refine ⟨1, τ1, by simp, fun f => ?_, a2, sx_mono (by simp) (by simp) a3, fun j _ => by rw [a3.2.1 53 (by simp)]⟩
      rw [ro_item (F := F) hs (by omega) (by omega) hg f, Md_layItem, gd_t (inb_nI (by omega) (by omega)), nI_clamp (by omega), h3, if_neg (nI_lt10 m h2), e10, a1, bv_some, bi_some]
  have list : ∀ p t, sp t → roP F t → roP F (tI p t) := by
    intro p t ht pt s i n τ W hs hm hi hg hn hW hWl
    have e1 : it (blk (tI p t)) = 1 :: it (blk t) := rfl
    have e2 : (blk (tI p t)).length = (blk t).length + 1 := rfl
    rw [e1] at hm hi hn ⊢
    rw [e2] at hWl
    simp only [List.length_cons] at hi hn
    have hiv : ga τ 59 i = 1 := by
      rcases hm.1 with ⟨_, z⟩ | ⟨z, _⟩
      · exact z
      · omega
    have hp := (prS_len t 0 ht).1
    obtain ⟨τ1, a1, a2, a3, a4, a5⟩ := par 91 93 0 (Or.inr ⟨rfl, rfl, rfl⟩) i n τ W (by omega) hW (by omega)
    have g59 : ga τ1 59 i = 1 := by rw [a4.2.1 59 (by simp)]; exact hiv
    have s2 : sx [82] [53, 55] τ (sa τ1 53 (n + 1) (nI (4 * (i + 1) + 0))) := sx_sa a4 (by simp) _ _
    obtain ⟨k, τ2, b1, b2, b3, b4, b5⟩ := pt 0 (i + 1) (n + 1) (sa τ1 53 (n + 1) (nI (4 * (i + 1) + 0))) _ (by omega) (mRw_fr (s2.2.1 2 (by simp)) (sx_gb s2 3) _ (i + 1) (i + 1) (fun j _ => by rw [s2.2.1 59 (by simp)]) hm.2) (by omega) (by simp only [zs, if_true, up_at]) (by omega) (lnM_sx a2 (sx_sa (I := []) (A := [53]) (sx_rfl _ _ _) (by simp) _ _) (by simp) (by simp)) (by simp; omega)
    obtain ⟨τ3, c1, c2, c3⟩ := clo 93 (Or.inr rfl) n τ2 _ (by omega) (by rw [b5 n (by omega)]; simp only [zs, if_true, up_at]; rw [if_neg (by omega)]; exact a3) b3 (by simp; omega)
    refine ⟨1 + k + 1, τ3, by simp; omega, fun f => ?_, ?_, sx_tr (sx_tr s2 b4) (sx_mono (by simp) (by simp) c3), fun j hj => ?_⟩
    · have e125 : Md_layItem_125 F τ1 (nI i) (nI (n + 1)) = some (nI (n + 1 + 1), sa τ1 53 (n + 1) (nI (4 * (i + 1) + 0))) := by
        rw [Md_layItem_125, gd_t (inb_nI (by omega) (by omega)), nI_clamp (by omega), g59, if_pos rfl, gd_t (inb_nI (by omega) (by omega)), nI_clamp (by omega), nI_1, nI_1, show (4 : Int32) * nI (i + 1) = nI (4 * (i + 1)) from (Int32.ofNat_mul 4 (i + 1)).symm]
        rfl
      rw [show f + (1 + k + 1) = f + 1 + k + 1 by omega, ro_item (F := F) hs (by omega) (by omega) hg, Md_layItem, gd_t (inb_nI (by omega) (by omega)), nI_clamp (by omega), hiv, if_pos (by decide), if_neg (by decide), if_neg (by decide), Md_layItem_69, Md_layItem_70, if_pos rfl, gd_t (inb_nI (by omega) (by omega)), nI_clamp (by omega), hiv, if_pos rfl, a1, e125, bi_some, b2 (f + 1), c1 f]
    · show lnM τ3 (W ++ (91 :: (prS t 0 ++ [93])))
      simp only [List.append_assoc] at c2
      exact c2
    · rw [c3.2.1 53 (by simp), b5 j (by omega)]
      simp only [zs, if_true, up_at]
      rw [if_neg (by omega)]
      exact a5 j hj
  have app : ∀ f a, sp f → sp a → roP F f → roP F a → roP F (tO f a) := by
    intro f a hf ha pf pa s i n τ W hs hm hi hg hn hW hWl
    rw [it_sO f a hf] at hm hi hn ⊢
    have e2 : (blk (tO f a)).length = (blk f).length + (blk a).length := by
      show (bmp (blk f) 1 ++ blk a).length = _
      rw [List.length_append, bmp_len]
    rw [e2] at hWl
    by_cases c : s = 2
    · have := bin 0 f a 3 2 (Or.inl ⟨rfl, rfl, rfl⟩) hf ha pf pa true s i n τ W ⟨fun _ => Or.inl ⟨rfl, c⟩, fun _ => rfl⟩ hs hm hi hg hn hW hWl
      rw [show prS (tO f a) s = (if s = 2 then [40] else []) ++ ((prS f 3 ++ (32 :: prS a 2)) ++ (if s = 2 then [41] else [])) from rfl, if_pos c, if_pos c]
      exact this
    · have := bin 0 f a 3 2 (Or.inl ⟨rfl, rfl, rfl⟩) hf ha pf pa false s i n τ W ⟨fun z => (by cases z), fun z => by rcases z with ⟨_, z⟩ | ⟨z, _⟩ <;> omega⟩ hs hm hi hg hn hW hWl
      rw [show prS (tO f a) s = (if s = 2 then [40] else []) ++ ((prS f 3 ++ (32 :: prS a 2)) ++ (if s = 2 then [41] else [])) from rfl, if_neg c, if_neg c]
      exact this
  have arw : ∀ l r, sp l → sp r → roP F l → roP F r → roP F (tR l r) := by
    intro l r hl hr pl pr s i n τ W hs hm hi hg hn hW hWl
    have e1 : it (blk (tR l r)) = 2 :: (it (blk l) ++ it (blk r)) := by
      show it ((0, 2) :: (blk l ++ blk r)) = _
      rw [it, it_app]; rfl
    rw [e1] at hm hi hn ⊢
    have e2 : (blk (tR l r)).length = (blk l).length + (blk r).length + 1 := by
      show ((0, 2) :: (blk l ++ blk r)).length = _
      simp
    rw [e2] at hWl
    by_cases c : 0 < s
    · have := bin 2 l r 1 0 (Or.inr ⟨rfl, rfl, rfl⟩) hl hr pl pr true s i n τ W ⟨fun _ => Or.inr ⟨rfl, c⟩, fun _ => rfl⟩ hs hm hi hg hn hW (by omega)
      rw [show prS (tR l r) s = (if 0 < s then [40] else []) ++ ((prS l 1 ++ (45 :: 62 :: prS r 0)) ++ (if 0 < s then [41] else [])) from rfl, if_pos c, if_pos c]
      exact this
    · have := bin 2 l r 1 0 (Or.inr ⟨rfl, rfl, rfl⟩) hl hr pl pr false s i n τ W ⟨fun z => (by cases z), fun z => by rcases z with ⟨z, _⟩ | ⟨_, z⟩ <;> omega⟩ hs hm hi hg hn hW (by omega)
      rw [show prS (tR l r) s = (if 0 < s then [40] else []) ++ ((prS l 1 ++ (45 :: 62 :: prS r 0)) ++ (if 0 < s then [41] else [])) from rfl, if_neg c, if_neg c]
      exact this
  exact sp_ind (P := fun t => (∀ c, c ∈ lvs t → nmOk (lfN c)) → roP F t) (fun c h => leaf c (h c (List.mem_singleton.mpr rfl))) (fun f a _ hf ha pf pa h => app f a hf ha (pf (fun c hc => h c (List.mem_append_left _ hc))) (pa (fun c hc => h c (List.mem_append_right _ hc)))) (fun l r hl hr pl pr h => arw l r hl hr (pl (fun c hc => h c (List.mem_append_left _ hc))) (pr (fun c hc => h c (List.mem_append_right _ hc)))) (fun p t ht pt h => list p t ht (pt h))
/-- the whole row shown -/
theorem layRowOut (hF : 20000 ≤ F) {τ : zS} {t : TE} (ht : sp t) (hn : ∀ c, c ∈ lvs t → nmOk (lfN c)) (hm : mRw τ 59 0 (it (blk t))) (hl : (blk t).length ≤ 200) : ∃ τ', Md_layRowOut F τ = some τ' ∧ lnM τ' (prS t 0) ∧ sx [82] [53, 55] τ τ' := by
  have hfo := (fo_len _ _ (sp_fo t ht).1).1
  have s1 : sx [82] [53, 55] τ (sa (si τ 82 0) 53 0 (nI (4 * 0 + 0))) := sx_sa (sx_si (sx_rfl _ _ _) (by simp) _) (by simp) _ _
  obtain ⟨k, τ', a1, a2, a3, a4, a5⟩ := rowOut (F := F) hF t ht hn 0 0 0 (sa (si τ 82 0) 53 0 (nI (4 * 0 + 0))) [] (by omega) (mRw_fr (s1.2.1 2 (by simp)) (sx_gb s1 3) _ 0 0 (fun j _ => by rw [s1.2.1 59 (by simp)]) hm) (by omega) (by simp only [zs, if_true, up_at]) (by omega) ⟨by simp [zs]; rfl, fun i v h => by simp at h⟩ (by simp; omega)
  obtain ⟨F', hF'⟩ : ∃ F', F = F' + 1 + k := ⟨F - 1 - k, by omega⟩
  refine ⟨τ', ?_, a3, sx_tr s1 a4⟩
  rw [Md_layRowOut, gd_t (by decide), show Md_layRowOut_14 F F = Md_layRowOut_14 F (F' + 1 + k) by rw [← hF']]
  show Md_layRowOut_14 F (F' + 1 + k) (sa (si τ 82 0) 53 0 (nI (4 * 0 + 0))) (nI (0 + 1)) = _
  rw [a2 (F' + 1), Md_layRowOut_14, Md_layRowOut_b14, if_pos (by decide)]
end M
