/-! endSome() in terms of trees; a some from its first token. Own text. -/
section PM
variable {F : Nat} {B : Nat → Int32} {n : Nat} {τ : zS} {k M s N a L : Nat}
theorem esA_fr {hd : Int32} {b Mh : Nat} (hhd : hd = -1 ∨ ∃ m, hd = nI m ∧ m < 1400 ∧ Mh ≤ m) (Lv lo a : Nat) : frM Lv lo a Mh τ (esA τ hd b) := by
  obtain ⟨z1, z2, z3, z4⟩ := esA_zs τ hd b
  refine ⟨fun j _ => z1 j, fun j i hji => ?_, fun j _ => z3 j, fun j i _ _ => by rw [z4], fun _ => ⟨z1 8, z1 9⟩, fun _ => z1 9⟩
  by_cases q : j = 16
  · subst q
    unfold esA
    rcases hhd with q | ⟨m, q, hm, hm2⟩
    · rw [if_pos (by rw [q]; decide)]
    · rw [q, if_neg (nI_pos (by omega)), nI_clamp (by omega)]
      unfold okM at hji
      simp only [at_sa]
      rw [if_neg (by omega)]
  · rw [z2 j q]
theorem esA_16 {hd : Int32} {b : Nat} : (∀ m, hd = nI m → m < 1400 → ga (esA τ hd b) 16 m = nI b) ∧ (∀ i, (∀ m, hd = nI m → m < 1400 → i ≠ m) → (hd = -1 ∨ ∃ m, hd = nI m ∧ m < 1400) → ga (esA τ hd b) 16 i = ga τ 16 i) := by
  constructor
  · intro m q hm
    unfold esA
    rw [q, if_neg (nI_pos (by omega)), nI_clamp (by omega)]
    simp [at_sa]
  · intro i hi hhd
    unfold esA
    rcases hhd with q | ⟨m, q, hm⟩
    · rw [if_pos (by rw [q]; decide)]
    · have := hi m q hm
      rw [q, if_neg (nI_pos (by omega)), nI_clamp (by omega)]
      simp [at_sa, this]
/-- endSome(): the part t comes behind the parts ls -/
theorem m_es (h : mZ B n τ M s N a L) (hL : L < 12) (hN : N < 1000) {hd sp w la wp pr me : Int32} {nn b lo Ns Mh : Nat} (hv : lvM τ L (nI nn) hd (nI b) sp w la wp) (hhd : hd = -1 ∨ ∃ m, hd = nI m ∧ m < 1400 ∧ Mh ≤ m) {ls : List TE} {t : TE} {Ap At : List AE} (hp : pdM τ pr me lo Ns ls w la Ap) (hlo : lo ≤ Ns) (hNs : Ns ≤ N) (ht : nd τ pr me Ns N t nn At) (hR : isR t = false) (hnn : nn < N) : ∃ τ' N' w' la' nw, Md_endSome F τ = some τ' ∧ N ≤ N' ∧ N' ≤ N + 1 ∧ (ls = [] → N' = N) ∧ mZ B n τ' M s N' a L ∧ (∀ j, j ≠ 16 → gi τ' j = gi τ j) ∧ (∀ j, gl τ' j = gl τ j) ∧ (∀ j, gb τ' j = gb τ j) ∧ frM L lo a Mh τ τ' ∧ (∀ j, 7 ≤ j → j < 16 → ga τ' j = ga τ j) ∧ (∀ m, hd = nI m → m < 1400 → ga τ' 16 m = nI b) ∧ (∀ i, (∀ m, hd = nI m → m < 1400 → i ≠ m) → ga τ' 16 i = ga τ 16 i) ∧ lvM τ' L (nI nn) hd (nI b) sp w' la' wp ∧ ga τ' 17 = ga τ 17 ∧ ga τ' 18 = ga τ 18 ∧ (la' < 0 ↔ ls = []) ∧ w' = nI nw ∧ nw < N' ∧ pdM τ' pr me lo N' (ls ++ [t]) w' la' (Ap ++ (At ++ [(1, nn, plT t)])) ∧ nd τ' pr me lo N' (fT ls t) nw (Ap ++ (At ++ if ls = [] then [] else [(1, nn, plT t)])) := by
  obtain ⟨z1, z2, z3, z4⟩ := esA_zs τ hd b
  have hhd' : hd = -1 ∨ ∃ m, hd = nI m ∧ m < 1400 := by
    rcases hhd with q | ⟨m, q, q1, _⟩
    · exact Or.inl q
    · exact Or.inr ⟨m, q, q1⟩
  have frA := esA_fr (τ := τ) (b := b) hhd L lo a
  obtain ⟨y1, y2⟩ := esA_16 (τ := τ) (hd := hd) (b := b)
  obtain ⟨h1, h2, h31, h17, h16, h23, h42, h18⟩ := h
  have hv0 := hv
  obtain ⟨v1, v2, v3, v4, v5, v6, v7⟩ := hv
  rcases hp with ⟨p1, p2, p3, p4⟩ | ⟨t1, n1, A1, p1, p2, p3, p4, p5, p6⟩ | ⟨ls0, x, wn, ln, p1, p2, p3, p4, p5⟩
  · -- the first part
    subst p1 p2 p3 p4
    refine ⟨_, N, nI nn, -1, nn, es_0 h42 hL hv0 hhd', Nat.le_refl _, by omega, fun _ => rfl, ⟨?_, ?_, ?_, ?_, ?_, ?_, ?_, ?_⟩, fun j _ => ?_, fun j => ?_, fun j => ?_, ?_, fun j j1 j2 => ?_, fun m q hm => ?_, fun i hi => ?_, ⟨?_, ?_, ?_, ?_, ?_, ?_, ?_⟩, ?_, ?_, ⟨fun _ => rfl, fun _ => by decide⟩, rfl, hnn, ?_, ?_⟩
    · simp [zs, z2, h1]
    · simp [zs, z1, h2]
    · simp [zs, z1, h31]
    · simp [zs, z1, h17]
    · simp [zs, z1, h16]
    · simp [zs, z1, h23]
    · simp [zs, z1, h42]
    · simp [zs, z1, h18]
    · simp [zs, z1]
    · simp [zs, z3]
    · simp [zs, z4]
    · refine frM_tr frA ⟨fun j _ => by simp [zs], fun j i hji => ?_, fun j _ => by simp [zs], fun j i _ _ => by simp [zs], fun _ => ⟨by simp [zs], by simp [zs]⟩, fun _ => by simp [zs]⟩ (Nat.le_refl L) (Nat.le_refl lo) (Nat.le_refl a) (Nat.le_refl Mh)
      unfold okM at hji
      simp only [at_sa]
      rw [if_neg (by omega)]
    · have j3 : j ≠ 23 := by omega
      have j4 : j ≠ 16 := by omega
      simp [zs, j3, z2 j j4]
    · simp only [at_sa]; rw [if_neg (by omega)]; exact y1 m q hm
    · simp only [at_sa]; rw [if_neg (by omega)]; exact y2 i hi hhd'
    · simp [zs, z2, v1]
    · simp [zs, z2, v2]
    · simp [zs, z2, v3]
    · simp [zs, z2, v4]
    · simp [at_sa]
    · simp [zs, z2, v6]
    · simp [zs, z2, v7]
    · simp [zs, z2]
    · simp [zs, z2]
    · refine Or.inr (Or.inl ⟨t, nn, At, rfl, rfl, rfl, hnn, ?_, by simp⟩)
      exact nd_mono (τ := τ) hlo (Nat.le_refl _) (fun i i1 i2 => ⟨by simp [zs, z2], by simp [zs, z4], by simp [zs, z2], by simp [zs, z2]⟩) t nn At ht
    · rw [if_pos rfl]
      simp only [List.nil_append, List.append_nil]
      exact nd_mono (τ := τ) hlo (Nat.le_refl _) (fun i i1 i2 => ⟨by simp [zs, z2], by simp [zs, z4], by simp [zs, z2], by simp [zs, z2]⟩) t nn At ht
  · -- the second part
    subst p1 p2 p3 p6
    obtain ⟨τ', eτ⟩ : ∃ τ', τ' = sa (sa (si (sa (sa (sa (esA τ hd b) 2 N 4) 4 N (nI n1)) 5 N (nI nn)) 16 (nI (N + 1))) 23 L (nI N)) 24 L (nI N) := ⟨_, rfl⟩
    have low : ∀ i, i < N → ga τ' 2 i = ga τ 2 i ∧ gb τ' 3 i = gb τ 3 i ∧ ga τ' 4 i = ga τ 4 i ∧ ga τ' 5 i = ga τ 5 i := by
      intro i hi
      have hi2 : i ≠ N := by omega
      subst eτ
      refine ⟨?_, by simp [zs, z4], ?_, ?_⟩ <;> simp [at_sa, at_si, hi2, z2]
    have hch : ch τ' pr me lo [t1] t N N (A1 ++ ((1, n1, plT t1) :: (At ++ [(1, nn, plT t)]))) := by
      refine ⟨rfl, by omega, by subst eτ; simp [at_sa, at_si], n1, nn, A1, At, by subst eτ; simp [at_sa, at_si], by subst eτ; simp [at_sa, at_si], ?_, ?_, rfl⟩
      · exact nd_mono (τ := τ) (Nat.le_refl _) hNs (fun i i1 i2 => low i (by omega)) t1 n1 A1 p5
      · exact nd_mono (τ := τ) hlo (Nat.le_refl _) (fun i i1 i2 => low i i2) t nn At ht
    have frT : frM L lo a Mh τ τ' := by
      refine frM_tr frA ⟨fun j hj => ?_, fun j i hji => ?_, fun j _ => by subst eτ; simp [zs], fun j i _ _ => by subst eτ; simp [zs], fun _ => ⟨by subst eτ; simp [zs], by subst eτ; simp [zs]⟩, fun _ => by subst eτ; simp [zs]⟩ (Nat.le_refl L) (Nat.le_refl lo) (Nat.le_refl a) (Nat.le_refl Mh)
      · unfold exM at hj
        have j1 : j ≠ 16 := by omega
        subst eτ
        simp [zs, j1]
      · unfold okM at hji
        subst eτ
        simp only [at_sa, at_si]
        rw [if_neg (by omega), if_neg (by omega), if_neg (by omega), if_neg (by omega), if_neg (by omega)]
    refine ⟨τ', N + 1, nI N, nI N, N, by rw [eτ]; exact es_1 h42 hL hv0 hhd' h16 hN (by omega), by omega, by omega, fun z => absurd z (by simp), ⟨?_, ?_, ?_, ?_, ?_, ?_, ?_, ?_⟩, fun j j1 => ?_, fun j => ?_, fun j => ?_, frT, fun j j1 j2 => ?_, fun m q hm => ?_, fun i hi => ?_, ⟨?_, ?_, ?_, ?_, ?_, ?_, ?_⟩, ?_, ?_, ⟨fun z => absurd z (nI_pos (by omega)), fun z => absurd z (by simp)⟩, rfl, by omega, ?_, ?_⟩
    · subst eτ; simp [zs, z2, h1]
    · subst eτ; simp [zs, z1, h2]
    · subst eτ; simp [zs, z1, h31]
    · subst eτ; simp [zs, z1, h17]
    · subst eτ; simp [zs]
    · subst eτ; simp [zs, z1, h23]
    · subst eτ; simp [zs, z1, h42]
    · subst eτ; simp [zs, z1, h18]
    · subst eτ; simp [zs, j1, z1]
    · subst eτ; simp [zs, z3]
    · subst eτ; simp [zs, z4]
    · subst eτ
      have k1 : j ≠ 23 := by omega
      have k2 : j ≠ 24 := by omega
      have k3 : j ≠ 2 := by omega
      have k4 : j ≠ 4 := by omega
      have k5 : j ≠ 5 := by omega
      have k6 : j ≠ 16 := by omega
      simp [zs, k1, k2, k3, k4, k5, z2 j k6]
    · subst eτ; simp only [at_sa, at_si]; rw [if_neg (by omega), if_neg (by omega), if_neg (by omega), if_neg (by omega), if_neg (by omega)]; exact y1 m q hm
    · subst eτ; simp only [at_sa, at_si]; rw [if_neg (by omega), if_neg (by omega), if_neg (by omega), if_neg (by omega), if_neg (by omega)]; exact y2 i hi hhd'
    · subst eτ; simp [zs, z2, v1]
    · subst eτ; simp [zs, z2, v2]
    · subst eτ; simp [zs, z2, v3]
    · subst eτ; simp [zs, z2, v4]
    · subst eτ; simp [at_sa]
    · subst eτ; simp [at_sa]
    · subst eτ; simp [zs, z2, v7]
    · subst eτ; simp [zs, z2]
    · subst eτ; simp [zs, z2]
    · exact Or.inr (Or.inr ⟨[t1], t, N, N, rfl, rfl, rfl, by omega, by simpa using hch⟩)
    · rw [if_neg (by simp)]
      have := ch_nd (hi := N + 1) hR [t1] N N _ hch (by omega)
      simpa using this
  · -- a further part
    subst p1 p2 p3
    have hlw := ch_lo _ _ _ _ _ p5
    obtain ⟨τ', eτ⟩ : ∃ τ', τ' = sa (sa (si (sa (sa (sa (esA τ hd b) 2 N 4) 4 N (ga τ 5 ln)) 5 N (nI nn)) 16 (nI (N + 1))) 5 ln (nI N)) 24 L (nI N) := ⟨_, rfl⟩
    have low : ∀ i, i < N → ga τ' 2 i = ga τ 2 i ∧ gb τ' 3 i = gb τ 3 i ∧ ga τ' 4 i = ga τ 4 i ∧ (i ≠ ln → ga τ' 5 i = ga τ 5 i) := by
      intro i hi
      have hi2 : i ≠ N := by omega
      subst eτ
      refine ⟨?_, by simp [zs, z4], ?_, fun hi3 => ?_⟩
      · simp [at_sa, at_si, hi2, z2]
      · simp [at_sa, at_si, hi2, z2]
      · simp [at_sa, at_si, hi2, hi3, z2]
    have lN : ln ≠ N := by omega
    have hch : ch τ' pr me lo (ls0 ++ [x]) t wn N (Ap ++ (At ++ [(1, nn, plT t)])) := by
      refine ch_ext (by omega) low (by subst eτ; simp [at_sa]) (by subst eτ; simp [at_sa, at_si]) (by subst eτ; simp [at_sa, at_si]) (by subst eτ; simp [at_sa, at_si, lN.symm]) ?_ ls0 wn Ap p5
      exact nd_mono (τ := τ) hlo (Nat.le_refl _) (fun i i1 i2 => by obtain ⟨q1, q2, q3, q4⟩ := low i i2; exact ⟨q1, q2, q3, q4 (by omega)⟩) t nn At ht
    have frT : frM L lo a Mh τ τ' := by
      refine frM_tr frA ⟨fun j hj => ?_, fun j i hji => ?_, fun j _ => by subst eτ; simp [zs], fun j i _ _ => by subst eτ; simp [zs], fun _ => ⟨by subst eτ; simp [zs], by subst eτ; simp [zs]⟩, fun _ => by subst eτ; simp [zs]⟩ (Nat.le_refl L) (Nat.le_refl lo) (Nat.le_refl a) (Nat.le_refl Mh)
      · unfold exM at hj
        have j1 : j ≠ 16 := by omega
        subst eτ
        simp [zs, j1]
      · unfold okM at hji
        subst eτ
        simp only [at_sa, at_si]
        rw [if_neg (by omega), if_neg (by omega), if_neg (by omega), if_neg (by omega), if_neg (by omega)]
    have hne : ls0 ++ [x] ≠ [] := by simp
    refine ⟨τ', N + 1, nI wn, nI N, wn, by rw [eτ]; exact es_2 h42 hL hv0 hhd' h16 hN (by omega) (by omega), by omega, by omega, fun z => absurd z hne, ⟨?_, ?_, ?_, ?_, ?_, ?_, ?_, ?_⟩, fun j j1 => ?_, fun j => ?_, fun j => ?_, frT, fun j j1 j2 => ?_, fun m q hm => ?_, fun i hi => ?_, ⟨?_, ?_, ?_, ?_, ?_, ?_, ?_⟩, ?_, ?_, ⟨fun z => absurd z (nI_pos (by omega)), fun z => absurd z hne⟩, rfl, by omega, ?_, ?_⟩
    · subst eτ; simp [zs, z2, h1]
    · subst eτ; simp [zs, z1, h2]
    · subst eτ; simp [zs, z1, h31]
    · subst eτ; simp [zs, z1, h17]
    · subst eτ; simp [zs]
    · subst eτ; simp [zs, z1, h23]
    · subst eτ; simp [zs, z1, h42]
    · subst eτ; simp [zs, z1, h18]
    · subst eτ; simp [zs, j1, z1]
    · subst eτ; simp [zs, z3]
    · subst eτ; simp [zs, z4]
    · subst eτ
      have k2 : j ≠ 24 := by omega
      have k3 : j ≠ 2 := by omega
      have k4 : j ≠ 4 := by omega
      have k5 : j ≠ 5 := by omega
      have k6 : j ≠ 16 := by omega
      simp [zs, k2, k3, k4, k5, z2 j k6]
    · subst eτ; simp only [at_sa, at_si]; rw [if_neg (by omega), if_neg (by omega), if_neg (by omega), if_neg (by omega), if_neg (by omega)]; exact y1 m q hm
    · subst eτ; simp only [at_sa, at_si]; rw [if_neg (by omega), if_neg (by omega), if_neg (by omega), if_neg (by omega), if_neg (by omega)]; exact y2 i hi hhd'
    · subst eτ; simp [zs, z2, v1]
    · subst eτ; simp [zs, z2, v2]
    · subst eτ; simp [zs, z2, v3]
    · subst eτ; simp [zs, z2, v4]
    · subst eτ; simp [zs, z2, v5]
    · subst eτ; simp [at_sa]
    · subst eτ; simp [zs, z2, v7]
    · subst eτ; simp [zs, z2]
    · subst eτ; simp [zs, z2]
    · exact Or.inr (Or.inr ⟨ls0 ++ [x], t, wn, N, rfl, rfl, rfl, by omega, hch⟩)
    · rw [if_neg hne]
      exact ch_nd (hi := N + 1) hR (ls0 ++ [x]) wn N _ hch (by omega)
end PM
