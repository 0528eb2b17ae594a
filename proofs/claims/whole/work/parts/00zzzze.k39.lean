/-! Whether something is open, in both. Own text. -/
section D
variable {St : Type} {G : SG} {Lp : Nat → St → Option (Int32 × zS)} {R : St → List Nat → (Nat → Bool) → Prop} {Q : zS → Prop}
def cpN (G : SG) (vis : Nat → Bool) (X : List Nat) : Prop := ∀ r, vis r = true → r ∉ X → ∀ p, gT G r p ≤ 1
theorem dfsH (hw : wfG G) (hskip : ∀ s k L vis, R s (k :: L) vis → k < gn G → vis (rt G k) = true → gso G (rt G k) ≠ 0 → ∃ s', (∀ f, Lp (f + 1) s = Lp f s') ∧ R s' L vis) (hopen : ∀ s k L vis, R s (k :: L) vis → k < gn G → gso G (rt G k) = 0 → ∃ s', (∀ f, Lp (f + 1) s = some (1, s')) ∧ Q s') (hstar : ∀ s k L vis, R s (k :: L) vis → k < gn G → vis (rt G k) = false → gso G (rt G k) = 1 → ∃ s', (∀ f, Lp (f + 1) s = Lp f s') ∧ R s' L (vs vis (rt G k))) (harr : ∀ s k L vis, R s (k :: L) vis → k < gn G → vis (rt G k) = false → gso G (rt G k) = 2 → ∃ s', (∀ f, Lp (f + 1) s = Lp f s') ∧ R s' (gle G (rt G k) :: gri G (rt G k) :: L) (vs vis (rt G k))) : ∀ (d k : Nat) (L : List Nat) (vis : Nat → Bool) (X : List Nat) (s : St), k < gn G → dpt d (gT G k) → R s (k :: L) vis → cpN G vis X → (∀ r, r ∈ X → ¬ dpt d (gT G r)) → (∃ n s', (∀ f, Lp (f + n) s = some (1, s')) ∧ Q s' ∧ (∃ p v, gT G k p = v + 2) ∧ n ≤ 1 + 2 * unv vis (gn G)) ∨ (∃ n s' vis', (∀ f, Lp (f + n) s = Lp f s') ∧ R s' L vis' ∧ cpN G vis' X ∧ n + 2 * unv vis' (gn G) ≤ 1 + 2 * unv vis (gn G) ∧ (∀ r, vis r = true → vis' r = true) ∧ ∀ p, gT G k p ≤ 1) := by
  intro d
  induction d with
  | zero =>
    intro k L vis X s hk hd hR hc hX
    have hr := rt_lt hw hk
    have hT := gT_rt hw hk
    rcases so3 hw hr with z | z | z
    · obtain ⟨s', a1, a2⟩ := hopen s k L vis hR hk z
      exact Or.inl ⟨1, s', a1, a2, ⟨[], rt G k, by rw [gT_0 z]; rfl⟩, by omega⟩
    · have ek : gT G k = iS := gT_1 z
      cases hv : vis (rt G k) with
      | true =>
        obtain ⟨s', a1, a2⟩ := hskip s k L vis hR hk hv (by rw [z]; decide)
        exact Or.inr ⟨1, s', vis, a1, a2, hc, by omega, fun r y => y, fun p => by rw [ek]; exact Nat.zero_le 1⟩
      | false =>
        have hu := unv_s hr hv
        obtain ⟨s', a1, a2⟩ := hstar s k L vis hR hk hv z
        refine Or.inr ⟨1, s', _, a1, a2, fun r hr' hx p => ?_, by omega, fun r y => by unfold vs; simp [y], fun p => by rw [ek]; exact Nat.zero_le 1⟩
        by_cases e : r = rt G k
        · subst e; rw [← hT, ek]; exact Nat.zero_le 1
        · have : vis r = true := by unfold vs at hr'; simpa [e] using hr'
          exact hc r this hx p
    · exact absurd (by rw [gT_2 z]; rfl) (hd [] (Nat.le_refl _))
  | succ d ih =>
    intro k L vis X s hk hd hR hc hX
    by_cases hd' : dpt d (gT G k)
    · exact ih k L vis X s hk hd' hR hc (fun r hr' z => hX r hr' (dpt_mono (by omega) z))
    have hr := rt_lt hw hk
    have hT := gT_rt hw hk
    rcases so3 hw hr with z | z | z
    · exfalso; apply hd'; rw [gT_0 z]; exact dpt_V _ _
    · exfalso; apply hd'; rw [gT_1 z]; exact dpt_S _
    · cases hv : vis (rt G k) with
      | true =>
        obtain ⟨s', a1, a2⟩ := hskip s k L vis hR hk hv (by rw [z]; decide)
        exact Or.inr ⟨1, s', vis, a1, a2, hc, by omega, fun r y => y, fun p => by rw [hT]; exact hc _ hv (fun y => hX _ y (by rw [← hT]; exact hd)) p⟩
      | false =>
        have hu := unv_s hr hv
        obtain ⟨s1, a1, a2⟩ := harr s k L vis hR hk hv z
        have ek : gT G k = iA (gT G (gle G (rt G k))) (gT G (gri G (rt G k))) := gT_2 z
        obtain ⟨dl, dr⟩ := (hw.1 _ hr).2.2 z
        have hdl : dpt d (gT G (gle G (rt G k))) := by have := dpt_dw hd false; rw [ek] at this; exact this
        have hdr : dpt d (gT G (gri G (rt G k))) := by have := dpt_dw hd true; rw [ek] at this; exact this
        have hc1 : cpN G (vs vis (rt G k)) (rt G k :: X) := by
          intro r hr' hx p
          have hne : r ≠ rt G k := fun e => hx (by rw [e]; exact List.mem_cons_self)
          have : vis r = true := by unfold vs at hr'; simpa [hne] using hr'
          exact hc r this (fun y => hx (List.mem_cons_of_mem _ y)) p
        have hX1 : ∀ r, r ∈ rt G k :: X → ¬ dpt d (gT G r) := by
          intro r hr' y
          rcases List.mem_cons.mp hr' with e | e
          · subst e; rw [← hT] at y; exact hd' y
          · exact hX r e (dpt_mono (by omega) y)
        rcases ih _ _ _ (rt G k :: X) s1 dl hdl a2 hc1 hX1 with ⟨n, s', b1, b2, ⟨p, v, b3⟩, b4⟩ | ⟨n1, s2, v2, b1, b2, b3, b4, b5, b6⟩
        · exact Or.inl ⟨n + 1, s', fun f => by rw [← Nat.add_assoc, a1, b1], b2, ⟨false :: p, v, by rw [ek]; exact b3⟩, by omega⟩
        · rcases ih _ _ v2 (rt G k :: X) s2 dr hdr b2 b3 hX1 with ⟨n, s', c1, c2, ⟨p, v, c3⟩, c4⟩ | ⟨n2, s3, v3, c1, c2, c3, c4, c5, c6⟩
          · exact Or.inl ⟨n + n1 + 1, s', fun f => by rw [show f + (n + n1 + 1) = (f + n + n1) + 1 by omega, a1, b1, c1], c2, ⟨true :: p, v, by rw [ek]; exact c3⟩, by omega⟩
          · have hk1 : ∀ p, gT G k p ≤ 1 := by
              intro p
              rw [ek]
              cases p with
              | nil => exact Nat.le_refl 1
              | cons b q =>
                cases b
                · exact b6 q
                · exact c6 q
            refine Or.inr ⟨n2 + n1 + 1, s3, v3, fun f => by rw [show f + (n2 + n1 + 1) = (f + n2 + n1) + 1 by omega, a1, b1, c1], c2, fun r hr' hx p => ?_, by omega, fun r y => c5 r (b5 r (by unfold vs; simp [y])), hk1⟩
            by_cases e : r = rt G k
            · subst e; rw [← hT]; exact hk1 p
            · exact c3 r hr' (fun y => by
                rcases List.mem_cons.mp y with w | w
                · exact e w
                · exact hx w) p
end D
section K
variable {F : Nat} {σ τ : zS} {G H : SG}
theorem ddp_len : ∀ (L V : List Nat), V.length ≤ (ddp V L).length
  | [], V => Nat.le_refl _
  | r :: L, V => by
    rw [ddp]
    by_cases h : r ∈ V
    · rw [if_pos h]; exact ddp_len L V
    · rw [if_neg h]
      have := ddp_len L (V ++ [r])
      simp at this
      omega
theorem unv_0 (n : Nat) : unv (fun _ => false) n ≤ n := cN_le _ _
theorem hasOpC (hF : 20000 ≤ F) (hC : CS σ G) {d k : Nat} (hk : k < gn G) (hd : dpt d (gT G k)) : ∃ r σ', Ki_hasOpen F σ (nI k) = some (r, σ') ∧ sx [309, 310] [26, 28] σ σ' ∧ CS σ' G ∧ ((r = 1 ∧ ∃ p v, gT G k p = v + 2) ∨ (r = 0 ∧ ∀ p, gT G k p ≤ 1)) := by
  have hw := hC.2.2.2.2.2.1
  have hn := hC.2.2.1
  obtain ⟨σ1, a1, a2, a3⟩ := clrC (F := F) hF hC
  have s2 : sx [309, 310] [26, 28] σ (si σ1 310 0) := sx_si (sx_mono (by decide) (by decide) a2) (by decide) _
  have hm : mkV (si σ1 310 0) G [] (fun _ => false) := by
    intro r hr
    have : ga (si σ1 310 0) 26 r = 0 := by simp only [zs]; exact a3 r hr
    rw [this]
    exact ⟨fun _ => rfl, fun z => (by cases z), fun z => (by cases z)⟩
  obtain ⟨σ', vis', b1, b2, b3, b4, b5, b6, b7⟩ := letterC (F := F) (V := []) (vis := fun _ => false) hF (CS_sx s2 (by decide) (by decide) (by decide) (by decide) hC) hk hd hm (by simp [zs]; exact nI_0.symm) (by simp; exact unv_0 _) ⟨fun r z => (by cases z), fun r z => (by cases z)⟩
  rw [List.length_nil, nI_0, Int32.sub_zero] at b1
  have hlen : (ddp [] (oc d (gT G k))).length ≤ gn G := by omega
  have e0 : Ki_hasOpen F σ (nI k) = if nI (ddp [] (oc d (gT G k))).length ≤ 0 then Ki_hasOpen_22 F σ' 0 else Ki_hasOpen_22 F σ' 1 := by
    rw [Ki_hasOpen, a1, bv_some, b1, bi_some]
  by_cases c : (ddp [] (oc d (gT G k))).length = 0
  · refine ⟨0, σ', by rw [e0, c, if_pos (by rw [nI_0]; decide)]; rfl, sx_tr s2 b2, b3, Or.inr ⟨rfl, fun p => ?_⟩⟩
    rcases Nat.lt_or_ge 1 (gT G k p) with z | z
    · have : gT G k p - 2 ∈ oc d (gT G k) := (oc_mem d _ (gT_wfT hw hk) hd _).mpr ⟨p, by omega⟩
      have h2 : gT G k p - 2 ∈ ddp [] (oc d (gT G k)) := (ddp_mem _ _ _).mpr (Or.inr this)
      rw [List.eq_nil_of_length_eq_zero c] at h2
      cases h2
    · exact z
  · refine ⟨1, σ', by rw [e0, if_neg (nI_nle (by omega) (by omega))]; rfl, sx_tr s2 b2, b3, Or.inl ⟨rfl, ?_⟩⟩
    have h2 : ∃ x, x ∈ ddp [] (oc d (gT G k)) := by
      cases h : ddp [] (oc d (gT G k)) with
      | nil => rw [h] at c; exact absurd rfl c
      | cons a l => exact ⟨a, List.mem_cons_self⟩
    obtain ⟨x, hx⟩ := h2
    rcases (ddp_mem _ _ _).mp hx with z | z
    · cases z
    · obtain ⟨p, hp⟩ := (oc_mem d _ (gT_wfT hw hk) hd x).mp z
      exact ⟨p, x, hp⟩
/-- the reference's search -/
def RH (τ0 : zS) (H : SG) (s : zS × Nat) (L : List Nat) (vis : Nat → Bool) : Prop := MS s.1 H ∧ sx [] [53, 54] τ0 s.1 ∧ s.2 = L.length ∧ stL s.1 53 L ∧ (∀ k, k ∈ L → k < gn H) ∧ (∀ r, r < gn H → ga s.1 54 r = if vis r = true then 1 else 0) ∧ L.length + unv vis (gn H) ≤ 9000
theorem stL_push {τ : zS} {a x y : Nat} {L : List Nat} (h : stL τ a L) (ha : a = 53) : stL (sa (sa τ 53 L.length (nI x)) 53 (L.length + 1) (nI y)) 53 (y :: x :: L) := by
  subst ha
  refine ⟨?_, ?_, stL_cg L (fun i hi => ?_) h⟩
  · simp [zs, up_at]
  · simp [zs, up_at]
  · simp [zs, up_at, show ¬ i = L.length + 1 by omega, show ¬ i = L.length by omega]
theorem ho_pop (hF : 20000 ≤ F) {τ0 : zS} {s : zS × Nat} {k : Nat} {L : List Nat} {vis : Nat → Bool} (h : RH τ0 H s (k :: L) vis) (f : Nat) : Md_hasOpen_13 F (f + 1) s.1 (nI s.2) = if nI (gso H (rt H k)) = 0 then (some ((1 : Int32), s.1)) else (if nI (gso H (rt H k)) = (2 : Int32) then (if (ga s.1 54 (rt H k)) = 0 then (gd (inb (nI (L.length + 1)) 16000) (Md_hasOpen_90 F (Md_hasOpen_13 F f) (sa (sa s.1 53 L.length (ga s.1 28 (rt H k))) 53 (L.length + 1) (ga s.1 27 (rt H k))) (nI (L.length + 2)) (nI (rt H k)))) else (Md_hasOpen_90 F (Md_hasOpen_13 F f) s.1 (nI L.length) (nI (rt H k)))) else (Md_hasOpen_90 F (Md_hasOpen_13 F f) s.1 (nI L.length) (nI (rt H k)))) := by
  obtain ⟨h1, h2, h3, h4, h5, h6, h7⟩ := h
  have hk := h5 k List.mem_cons_self
  have hr := rt_lt h1.2.2.2.1 hk
  have hn := h1.2.2.1
  simp only [List.length_cons] at h3 h7
  rw [Md_hasOpen_13, Md_hasOpen_b13, h3, if_neg (nI_nle (by omega) (by omega)), nI_prd, gd_t (inb_nI (by omega) (by omega)), nI_clamp (by omega), show ga s.1 53 L.length = nI k from h4.1, topM hF h1 hk, bi_some]
  show gd (inb (nI (rt H k)) 4000) _ = _
  rw [gd_t (inb_nI (by omega) (by omega)), nI_clamp (by omega), (h1.2.2.2.2 _ hr).1, nI_1, nI_clamp (by omega), show nI L.length + 2 = nI (L.length + 2) from nI_ad _ 2 _ rfl]
theorem hasOpM (hF : 20000 ≤ F) (hM : MS τ H) {d k : Nat} (hk : k < gn H) (hd : dpt d (gT H k)) : ∃ r τ', Md_hasOpen F τ (nI k) = some (r, τ') ∧ sx [] [53, 54] τ τ' ∧ ((r = 1 ∧ ∃ p v, gT H k p = v + 2) ∨ (r = 0 ∧ ∀ p, gT H k p ≤ 1)) := by
  have hw := hM.2.2.2.1
  have hn := hM.2.2.1
  obtain ⟨τ1, a1, a2, a3⟩ := unmarkM (F := F) hF hM
  have s1 : sx [] [53, 54] τ (sa τ1 53 0 (nI k)) := sx_sa (sx_mono (by decide) (by decide) a2) (by decide) _ _
  have key := dfsH (St := zS × Nat) (G := H) (Lp := fun f s => Md_hasOpen_13 F f s.1 (nI s.2)) (R := RH τ H) (Q := fun s => sx [] [53, 54] τ s) hw ?_ ?_ ?_ ?_ d k [] (fun _ => false) [] (sa τ1 53 0 (nI k), 1) hk hd ⟨MS_sx s1 (by decide) (by decide) (by decide) (by decide) (by decide) hM, s1, rfl, ⟨by simp [zs, up_at], trivial⟩, fun j hj => by rw [List.mem_singleton.mp hj]; exact hk, fun r hr => by show ga (sa τ1 53 0 (nI k)) 54 r = _; simp [zs]; exact a3 r hr, by have := unv_0 (gn H); simp; omega⟩ (fun r z => by cases z) (fun r z => by cases z)
  · have e0 : Md_hasOpen F τ (nI k) = Md_hasOpen_13 F F (sa τ1 53 0 (nI k)) (nI 1) := by
      rw [Md_hasOpen, a1, bv_some, gd_t (by decide)]; rfl
    have hu := unv_0 (gn H)
    rcases key with ⟨n, s', b1, b2, b3, b4⟩ | ⟨n, s', vis', b1, b2, b3, b4, b5, b6⟩
    · refine ⟨1, s', ?_, b2, Or.inl ⟨rfl, b3⟩⟩
      obtain ⟨f, hf⟩ : ∃ f, F = f + n := ⟨F - n, by omega⟩
      have e1 := b1 f
      rw [← hf] at e1
      rw [e0]; exact e1
    · obtain ⟨c1, c2, c3, c4, c5, c6, c7⟩ := b2
      refine ⟨0, s'.1, ?_, c2, Or.inr ⟨rfl, b6⟩⟩
      obtain ⟨f, hf⟩ : ∃ f, F = (f + 1) + n := ⟨F - n - 1, by omega⟩
      have e1 := b1 (f + 1)
      rw [← hf] at e1
      rw [e0]
      refine (show Md_hasOpen_13 F F (sa τ1 53 0 (nI k)) (nI 1) = Md_hasOpen_13 F (f + 1) s'.1 (nI s'.2) from e1).trans ?_
      rw [Md_hasOpen_13, Md_hasOpen_b13, show s'.2 = 0 from c3, if_pos (by rw [nI_0]; decide)]
  · intro s k L vis h hk hv hz
    have e0 := ho_pop (F := F) hF h
    obtain ⟨h1, h2, h3, h4, h5, h6, h7⟩ := h
    have hr := rt_lt h1.2.2.2.1 hk
    have hs2 := (h1.2.2.2.1.1 _ hr).1
    simp only [List.length_cons] at h3 h7
    have e54 : ga s.1 54 (rt H k) = 1 := by rw [h6 _ hr, if_pos hv]
    have s2 : sx [] [53, 54] s.1 (sa s.1 54 (rt H k) 1) := sx_sa (sx_rfl _ _ _) (by decide) _ _
    refine ⟨(sa s.1 54 (rt H k) 1, L.length), fun f => ?_, MS_sx s2 (by decide) (by decide) (by decide) (by decide) (by decide) h1, sx_tr h2 s2, rfl, stL_cg L (fun i _ => by simp [zs]) h4.2, fun j hj => h5 j (List.mem_cons_of_mem _ hj), fun r hr' => ?_, by omega⟩
    · show Md_hasOpen_13 F (f + 1) s.1 (nI s.2) = Md_hasOpen_13 F f (sa s.1 54 (rt H k) 1) (nI L.length)
      rw [e0, if_neg (nI_ne0 (by omega) (by omega)), e54, if_neg (show ¬ (1 : Int32) = 0 by decide), Md_hasOpen_90, gd_t (inb_nI (by omega) (by omega)), nI_clamp (by omega)]
      split <;> rfl
    · show ga (sa s.1 54 (rt H k) 1) 54 r = _
      simp [zs, up_at]
      by_cases e : r = rt H k
      · rw [if_pos e, e, if_pos hv]
      · rw [if_neg e]; exact h6 r hr'
  · intro s k L vis h hk hz
    have e0 := ho_pop (F := F) hF h
    exact ⟨s.1, fun f => by show Md_hasOpen_13 F (f + 1) s.1 (nI s.2) = _; rw [e0, hz, if_pos nI_0], h.2.1⟩
  · intro s k L vis h hk hv hz
    have e0 := ho_pop (F := F) hF h
    obtain ⟨h1, h2, h3, h4, h5, h6, h7⟩ := h
    have hr := rt_lt h1.2.2.2.1 hk
    have hu := unv_s hr hv
    simp only [List.length_cons] at h3 h7
    have s2 : sx [] [53, 54] s.1 (sa s.1 54 (rt H k) 1) := sx_sa (sx_rfl _ _ _) (by decide) _ _
    refine ⟨(sa s.1 54 (rt H k) 1, L.length), fun f => ?_, MS_sx s2 (by decide) (by decide) (by decide) (by decide) (by decide) h1, sx_tr h2 s2, rfl, stL_cg L (fun i _ => by simp [zs]) h4.2, fun j hj => h5 j (List.mem_cons_of_mem _ hj), fun r hr' => ?_, by omega⟩
    · show Md_hasOpen_13 F (f + 1) s.1 (nI s.2) = Md_hasOpen_13 F f (sa s.1 54 (rt H k) 1) (nI L.length)
      rw [e0, hz, if_neg (by decide), if_neg (by decide), Md_hasOpen_90, gd_t (inb_nI (by omega) (by omega)), nI_clamp (by omega)]
    · show ga (sa s.1 54 (rt H k) 1) 54 r = _
      simp [zs, up_at, vs]
      by_cases e : r = rt H k
      · simp [e]
      · simp [e]; exact h6 r hr'
  · intro s k L vis h hk hv hz
    have e0 := ho_pop (F := F) hF h
    obtain ⟨h1, h2, h3, h4, h5, h6, h7⟩ := h
    have hr := rt_lt h1.2.2.2.1 hk
    have hu := unv_s hr hv
    obtain ⟨dl, dr⟩ := (h1.2.2.2.1.1 _ hr).2.2 hz
    obtain ⟨q1, q2⟩ := (h1.2.2.2.2 _ hr).2.2 hz
    simp only [List.length_cons] at h3 h7
    have e54 : ga s.1 54 (rt H k) = 0 := by rw [h6 _ hr, if_neg (by rw [hv]; decide)]
    obtain ⟨τ2, hτ2⟩ : ∃ x, x = sa (sa (sa s.1 53 L.length (nI (gri H (rt H k)))) 53 (L.length + 1) (nI (gle H (rt H k)))) 54 (rt H k) 1 := ⟨_, rfl⟩
    have s2 : sx [] [53, 54] s.1 τ2 := by rw [hτ2]; exact sx_sa (sx_sa (sx_sa (sx_rfl _ _ _) (by decide) _ _) (by decide) _ _) (by decide) _ _
    refine ⟨(τ2, L.length + 2), fun f => ?_, MS_sx s2 (by decide) (by decide) (by decide) (by decide) (by decide) h1, sx_tr h2 s2, rfl, ?_, fun j hj => ?_, fun r hr' => ?_, by simp; omega⟩
    · show Md_hasOpen_13 F (f + 1) s.1 (nI s.2) = Md_hasOpen_13 F f τ2 (nI (L.length + 2))
      rw [e0, hz, if_neg (by decide), if_pos (show nI 2 = (2 : Int32) from rfl), e54, if_pos rfl, gd_t (inb_nI (by omega) (by omega)), q1, q2, Md_hasOpen_90, gd_t (inb_nI (by omega) (by omega)), nI_clamp (by omega), hτ2]
    · show stL τ2 53 _
      rw [hτ2]
      exact stL_cg _ (fun i _ => by simp [zs]) (stL_push h4.2 rfl)
    · rcases List.mem_cons.mp hj with e | e
      · rw [e]; exact dl
      · rcases List.mem_cons.mp e with e | e
        · rw [e]; exact dr
        · exact h5 j (List.mem_cons_of_mem _ e)
    · show ga τ2 54 r = _
      rw [hτ2]
      simp [zs, up_at, vs]
      by_cases e : r = rt H k
      · simp [e]
      · simp [e]; exact h6 r hr'
end K
