/-! The class shows both sides. Own text. -/
def lnR (σ : zS) (x : Nat) (P : List Int32) : Prop := (lnC σ x P ∧ P.length ≤ 2000) ∨ (∃ z, mi σ (100 * x + 1) = nI z ∧ 2000 < z ∧ z < 2300 ∧ 2000 < P.length)
section K
variable {F : Nat} {σ : zS} {G : SG} {x : Nat} {x3 : Int32} {lt : Nat → Int32}
theorem showC (hF : 20000 ≤ F) (hx : isLine x = true) (hlt : hlC σ G x3 lt) (hC : CS σ G) {d k : Nat} (hk : k < gn G) (hd : dpt d (gT G k)) (hl : lnC σ x []) : ∃ σ', Ki_show F σ (nI k) x x3 = some σ' ∧ CS σ' G ∧ shF x σ σ' ∧ lnR σ' x (prT lt d (gT G k)) := by
  have hw := hC.2.2.2.2.2.1
  have s0 : sx [309] [28] σ (si σ 309 0) := sx_si (sx_rfl _ _ _) (by decide) _
  have hC0 : CS (si σ 309 0) G := CS_sx s0 (by decide) (by decide) (by decide) (by decide) hC
  have st0 : stC (si σ 309 0) [] := ⟨by simp [zs]; exact nI_0.symm, trivial⟩
  obtain ⟨σ1, a1, a2, a3⟩ := pushC (F := F) st0 (by simp) (2 * rt G k)
  have hsh : shF x σ σ1 := shF_tr (shF_sx s0) (shF_sx a3)
  have hT := gT_rt hw hk
  have key := sh_all (F := F) (x3 := x3) hF hx hlt hw d (rt G k) σ1 0 [] [] (rt_lt hw hk) (rt_root hw hk) (by rw [← hT]; exact hd) (CS_sx a3 (by decide) (by decide) (by decide) (by decide) hC0) hsh a2 (lnC_sx (lnC_sx hl s0) a3) (by simp) (by simp) (by simp)
  rw [← hT] at key
  have e0 : Ki_show F σ (nI k) x x3 = Ki_show_19 F F σ1 x x3 (nI 0) := by
    rw [Ki_show, findC hF hC0 hk, bi_some]
    show bv (Ki_push F (si σ 309 0) (nI (rt G k) <<< ((1 : Int32) &&& 31))) _ = _
    rw [sh_l, a1, bv_some, nI_0]
  rcases key with ⟨n, σ', b1, b2, b3, b4, b5, b6, b7⟩ | ⟨n, σ', z, b1, b2, b3, b4, b5, b6, b7, b8⟩
  · refine ⟨σ', ?_, b2, b3, Or.inl ⟨by simpa using b5, by simpa using b7⟩⟩
    have hn : n ≤ 2000 := by simp at b7; omega
    obtain ⟨f, hf⟩ : ∃ f, F = (f + 1) + n := ⟨F - n - 1, by omega⟩
    have e1 := b1 (f + 1)
    rw [← hf] at e1
    rw [e0, e1, Ki_show_19, Ki_show_b19, if_neg (show ¬ (1000000 : Int32) ≤ nI (0 + n) from nI_ge (b := 1000000) (by omega) (by omega)), show gi σ' 309 = nI 0 from b4.1, if_pos (by rw [nI_0]; decide)]
    rfl
  · refine ⟨σ', ?_, b2, b3, Or.inr ⟨z, b4, b5, b6, by simpa using b7⟩⟩
    have hn : n ≤ 2005 := by
      have : (if gso G (rt G k) = 2 then 2005 else 2004) ≤ 2005 := by split <;> omega
      omega
    obtain ⟨f, hf⟩ : ∃ f, F = f + n + 1 := ⟨F - n - 1, by omega⟩
    have e1 := b1 f
    rw [← hf] at e1
    rw [e0, e1]
/-- the letter of place i -/
def ltI (i : Nat) : Int32 := nI (97 + (if i < 25 then i else 25))
theorem ltI_b (i : Nat) : vp_nar .byte (Int32.toInt8 (ltI i)).toInt32 = ltI i := by
  have : ∀ j : Fin 26, vp_nar .byte (Int32.toInt8 (nI (97 + j.val))).toInt32 = nI (97 + j.val) := by decide
  unfold ltI
  split
  · exact this ⟨i, by omega⟩
  · exact this ⟨25, by omega⟩
/-- letters by the place in V -/
def ltV (V : List Nat) (r : Nat) : Int32 := ltI (V.idxOf r)
theorem idx_of {V : List Nat} (hn : V.Nodup) {i r : Nat} (h : V[i]? = some r) : V.idxOf r = i := by
  have hi : i < V.length := by
    rcases Nat.lt_or_ge i V.length with z | z
    · exact z
    · rw [List.getElem?_eq_none z] at h; cases h
  rw [List.getElem?_eq_getElem hi] at h
  cases h
  exact List.Nodup.idxOf_getElem hn i hi
theorem ddp_nd : ∀ (L V : List Nat), V.Nodup → (ddp V L).Nodup
  | [], V, h => h
  | r :: L, V, h => by
    rw [ddp]
    by_cases c : r ∈ V
    · rw [if_pos c]; exact ddp_nd L V h
    · rw [if_neg c]
      refine ddp_nd L (V ++ [r]) (List.nodup_append.mpr ⟨h, by simp, fun a ha b hb e => ?_⟩)
      rw [List.mem_singleton.mp hb] at e
      subst e
      exact c ha
/-- marks of places make letters -/
theorem hl_mk {V : List Nat} {vis : Nat → Bool} (hm : mkV σ G V vis) (hn : V.Nodup) (hlen : V.length ≤ 2000) {t : Nat → Prop} (hv : ∀ r, r < gn G → gso G r = 0 → t r → vis r = true) : ∀ r, r < gn G → gso G r = 0 → t r → ((97 : Int32) + (if (26 : Int32) < (ga σ 26 r) then (26 : Int32) else (ga σ 26 r))) - (1 : Int32) = ltV V r ∧ vp_nar .byte (Int32.toInt8 (ltV V r)).toInt32 = ltV V r := by
  intro r hr h0 ht
  obtain ⟨i, i1, i2⟩ := (hm r hr).2.2 (hv r hr h0 ht) h0
  refine ⟨?_, ltI_b _⟩
  have hi : i < V.length := by
    rcases Nat.lt_or_ge i V.length with z | z
    · exact z
    · rw [List.getElem?_eq_none z] at i1; cases i1
  unfold ltV
  rw [idx_of hn i1, i2]
  unfold ltI
  by_cases c : i < 25
  · rw [if_pos c, if_neg (show ¬ (26 : Int32) < nI (i + 1) from nI_nlt (b := i + 1) (a := 26) (by omega) (by omega)), show (97 : Int32) = nI 97 from rfl, nI_add, show 97 + (i + 1) = (97 + i) + 1 by omega, nI_s1]
  · rw [if_neg c]
    by_cases c2 : i = 25
    · subst c2
      rw [if_neg (by decide)]
      decide
    · rw [if_pos (show (26 : Int32) < nI (i + 1) from nI_lt (a := 26) (by omega) (by omega))]
      decide
end K
