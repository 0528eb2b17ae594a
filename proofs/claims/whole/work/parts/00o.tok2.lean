/-! next() in terms of tokens. Own text. -/
/-- the reference's token and sign for the class's sort of a token -/
def tokM (s : Int32) : Int32 := if s = 0 ∨ s = 1 then 5 else if s = 2 then 1 else if s = 3 then 2 else if s = 4 ∨ s = 5 ∨ s = 6 ∨ s = 7 then 3 else 4
def sgM (s : Int32) : Int32 := if s = 58 then 1001 else if s = 45 then 1000 else s
/-- the reference stands at token k, no fault before it -/
def curT (B : Nat → Int32) (n k : Nat) (τ : zS) : Prop :=
  gi τ 5 = nI (tkP B n k) ∧ gi τ 4 = tokM (tkS B n k) ∧ (tkS B n k = 0 → gi τ 8 = 1 ∧ gi τ 9 = nI (tkP B n k)) ∧ (tkS B n k ≠ 0 → gi τ 8 = 0 ∧ gi τ 3 = nI (lxE B n (k + 1))) ∧ (tokM (tkS B n k) ≤ 3 → gl τ 6 = tkN B n k) ∧ (tokM (tkS B n k) = 4 → gi τ 7 = sgM (tkS B n k))
/-- what next() leaves alone -/
def frN (τ τ' : zS) : Prop := (∀ j, j ≠ 3 → j ≠ 4 → j ≠ 5 → j ≠ 7 → j ≠ 8 → j ≠ 9 → gi τ' j = gi τ j) ∧ (∀ j, ga τ' j = ga τ j) ∧ (∀ j, j ≠ 6 → gl τ' j = gl τ j) ∧ (∀ j, gb τ' j = gb τ j) ∧ (gi τ' 8 = 0 → gi τ' 9 = gi τ 9)
theorem smS_rng (v : Int64) : (smS v = 3 ∧ kwB v = false) ∨ ((smS v = 4 ∨ smS v = 5 ∨ smS v = 6 ∨ smS v = 7) ∧ kwB v = true) := by
  unfold smS kwB
  by_cases a1 : v = 1684108385
  · simp [a1]
  · by_cases a2 : v = 1954115685
    · simp [a2]
    · by_cases a3 : v = 427020088179
      · simp [a3]
      · by_cases a4 : v = 1802071652
        · simp [a4]
        · simp [a1, a2, a3, a4]
theorem next_end {F : Nat} {τ : zS} {n : Nat} (hB : byt (ga τ 1) n) (hl : gi τ 2 = nI n) (h8 : gi τ 8 = 0) (hF : 1300 ≤ F) {k : Nat} (h3 : gi τ 3 = nI (lxE (ga τ 1) n k)) (hp : tkP (ga τ 1) n k = n) : ∃ τ', Md_next F τ = some τ' ∧ frN τ τ' ∧ curT (ga τ 1) n k τ' := by
  have hs : tkS (ga τ 1) n k = 1 := by unfold tkS; rw [if_neg (by omega)]
  have hx : lxE (ga τ 1) n (k + 1) = n := by
    have h1 : sk (ga τ 1) n (lxE (ga τ 1) n k) = n := hp
    rw [lxE, h1, if_neg (by omega)]
  refine ⟨_, nx_end hB hl h8 hF (lxE_le _ _ k) h3 hp, ⟨?_, ?_, ?_, ?_, ?_⟩, ?_⟩
  · intro j j1 j2 j3 j4 j5 j6
    simp [nxA, zs, j1, j2, j3]
  · intro j; simp [nxA, zs]
  · intro j _; simp [nxA, zs]
  · intro j; simp [nxA, zs]
  · intro _; simp [nxA, zs]
  · unfold curT
    rw [hs, hp]
    refine ⟨by simp [nxA, zs], by simp [nxA, zs, tokM], fun z => absurd z (by decide), fun _ => ⟨by simp [nxA, zs, h8], ?_⟩, fun z => absurd z (by decide), fun z => absurd z (by decide)⟩
    rw [hx]
    simp [nxA, zs]
theorem next_sign {F : Nat} {τ : zS} {n : Nat} (hB : byt (ga τ 1) n) (hl : gi τ 2 = nI n) (h8 : gi τ 8 = 0) (hF : 1300 ≤ F) {k : Nat} (h3 : gi τ 3 = nI (lxE (ga τ 1) n k)) (hp : tkP (ga τ 1) n k < n) (hs : (upB (ga τ 1 (tkP (ga τ 1) n k)) || loB (ga τ 1 (tkP (ga τ 1) n k))) = false) : ∃ τ', Md_next F τ = some τ' ∧ frN τ τ' ∧ curT (ga τ 1) n k τ' := by
  obtain ⟨p, hpe⟩ : ∃ p, p = tkP (ga τ 1) n k := ⟨_, rfl⟩
  rw [← hpe] at hp hs
  have e := nx_at (F := F) hB hl h8 hF (lxE_le _ _ k) h3 hpe.symm hp
  rw [if_neg (show ¬ (upB (ga τ 1 p) || loB (ga τ 1 p)) = true by rw [hs]; decide), nx_sign hB hl h8 hp] at e
  have hx : lxE (ga τ 1) n (k + 1) = (tokS (ga τ 1) n p).2.2 := by
    have h1 : sk (ga τ 1) n (lxE (ga τ 1) n k) = p := hpe.symm
    rw [lxE, h1, if_pos hp]
  have ht : tkS (ga τ 1) n k = (tokS (ga τ 1) n p).1 := by unfold tkS; rw [← hpe, if_pos hp]
  obtain ⟨c, hc, ec⟩ := hB.2 p hp
  have big : ∀ c, c < 256 → sgnB (nI c) = true → tokM (nI c) = 4 ∧ sgM (nI c) = nI c ∧ nI c ≠ 0 := by decide +kernel
  refine ⟨_, e, ⟨?_, ?_, ?_, ?_, ?_⟩, ?_⟩
  · intro j j1 j2 j3 j4 j5 j6
    unfold nxG
    split
    · simp [nxA, zs, j1, j2, j3, j4]
    · split
      · simp [nxA, zs, j1, j2, j3, j4]
      · simp [nxA, zs, j1, j2, j3, j4, j5, j6]
  · intro j; unfold nxG; split; · simp [nxA, zs]
    split <;> simp [nxA, zs]
  · intro j _; unfold nxG; split; · simp [nxA, zs]
    split <;> simp [nxA, zs]
  · intro j; unfold nxG; split; · simp [nxA, zs]
    split <;> simp [nxA, zs]
  · intro z; unfold nxG at z ⊢; split at z
    · rw [if_pos (by assumption)]; simp [nxA, zs]
    · rw [if_neg (by assumption)]
      split at z
      · rw [if_pos (by assumption)]; simp [nxA, zs]
      · simp [zs] at z
  · unfold curT
    rw [hx, ht, ← hpe]
    have hts : tokS (ga τ 1) n p = if (ga τ 1 p = 58 ∧ p + 1 < n ∧ ga τ 1 (p + 1) = 58) ∨ (ga τ 1 p = 45 ∧ p + 1 < n ∧ ga τ 1 (p + 1) = 62) then (ga τ 1 p, 0, p + 2) else (sgS (ga τ 1 p), 0, p + 1) := by
      unfold tokS
      rw [if_neg (show ¬ (upB (ga τ 1 p) || loB (ga τ 1 p)) = true by rw [hs]; decide)]
    unfold nxG
    by_cases d : (ga τ 1 p = 58 ∧ p + 1 < n ∧ ga τ 1 (p + 1) = 58) ∨ (ga τ 1 p = 45 ∧ p + 1 < n ∧ ga τ 1 (p + 1) = 62)
    · rw [if_pos d] at hts ⊢
      rw [hts]
      dsimp only
      rcases d with d | d
      · rw [d.1]
        refine ⟨by simp [nxA, zs], by simp [nxA, zs]; decide, fun z => absurd z (by decide), fun _ => ⟨by simp [nxA, zs, h8], by simp [nxA, zs]⟩, fun z => absurd z (by decide), fun _ => by simp [nxA, zs]; decide⟩
      · rw [d.1]
        refine ⟨by simp [nxA, zs], by simp [nxA, zs]; decide, fun z => absurd z (by decide), fun _ => ⟨by simp [nxA, zs, h8], by simp [nxA, zs]⟩, fun z => absurd z (by decide), fun _ => by simp [nxA, zs]; decide⟩
    · rw [if_neg d] at hts ⊢
      rw [hts]
      dsimp only
      unfold sgS
      by_cases g : sgnB (ga τ 1 p) = true
      · obtain ⟨b1, b2, b3⟩ := big c hc (by rw [← ec]; exact g)
        rw [if_pos g, if_pos g]
        rw [← ec] at b1 b2 b3
        refine ⟨by simp [nxA, zs], by simp [nxA, zs, b1], fun z => absurd z b3, fun _ => ⟨by simp [nxA, zs, h8], by simp [nxA, zs]⟩, fun z => by rw [b1] at z; exact absurd z (by decide), fun _ => by simp [nxA, zs, b2]⟩
      · rw [if_neg g, if_neg g]
        refine ⟨by simp [nxA, zs], by simp [nxA, zs]; decide, fun _ => ⟨by simp [nxA, zs], by simp [nxA, zs]⟩, fun z => absurd rfl z, fun z => absurd z (by decide), fun z => absurd z (by decide)⟩
theorem next_name {F : Nat} {τ : zS} {n : Nat} (hB : byt (ga τ 1) n) (hl : gi τ 2 = nI n) (h8 : gi τ 8 = 0) (hF : 1300 ≤ F) {k : Nat} (h3 : gi τ 3 = nI (lxE (ga τ 1) n k)) (hp : tkP (ga τ 1) n k < n) (hs : (upB (ga τ 1 (tkP (ga τ 1) n k)) || loB (ga τ 1 (tkP (ga τ 1) n k))) = true) : ∃ τ', Md_next F τ = some τ' ∧ frN τ τ' ∧ curT (ga τ 1) n k τ' := by
  obtain ⟨p, hpe⟩ : ∃ p, p = tkP (ga τ 1) n k := ⟨_, rfl⟩
  rw [← hpe] at hp hs
  obtain ⟨L, hL⟩ : ∃ L, L = nmE (ga τ 1) n p - p := ⟨_, rfl⟩
  have q1 : p ≤ nmE (ga τ 1) n p := nEnd_ge _ _ _ _
  have eL : nmE (ga τ 1) n p = p + L := by omega
  have e := nx_at (F := F) hB hl h8 hF (lxE_le _ _ k) h3 hpe.symm hp
  rw [if_pos hs, nx_name hB hl h8 hF hp L hL] at e
  have hts : tokS (ga τ 1) n p = if L ≤ 8 then (if upB (ga τ 1 p) = true then 2 else smS (nVal (ga τ 1) p L), nVal (ga τ 1) p L, p + L) else (0, 0, p + L) := by
    unfold tokS
    rw [if_pos hs, eL, Nat.add_sub_cancel_left]
  have hx : lxE (ga τ 1) n (k + 1) = (tokS (ga τ 1) n p).2.2 := by
    have h1 : sk (ga τ 1) n (lxE (ga τ 1) n k) = p := hpe.symm
    rw [lxE, h1, if_pos hp]
  have ht : tkS (ga τ 1) n k = (tokS (ga τ 1) n p).1 := by unfold tkS; rw [← hpe, if_pos hp]
  have hn : tkN (ga τ 1) n k = (tokS (ga τ 1) n p).2.1 := by unfold tkN; rw [← hpe, if_pos hp]
  have k4 : ga (nxA τ p) 1 = ga τ 1 := by simp [nxA, zs]
  by_cases c : L ≤ 8
  · rw [if_pos c] at e hts
    refine ⟨_, e, ⟨?_, ?_, ?_, ?_, ?_⟩, ?_⟩
    · intro j j1 j2 j3 j4 j5 j6; simp [nmSt, nxA, zs, j1, j2, j3]
    · intro j; simp [nmSt, nxA, zs]
    · intro j j1; simp [nmSt, nxA, zs, j1]
    · intro j; simp [nmSt, nxA, zs]
    · intro _; simp [nmSt, nxA, zs]
    · unfold curT
      rw [hx, ht, hn, ← hpe, hts]
      dsimp only
      have hm : min L 8 = L := by omega
      have f5 : gi (si (nmSt (nxA τ p) p L) 4 (if upB (ga τ 1 p) = true then 1 else if kwB (nVal (ga τ 1) p L) = true then 3 else 2)) 5 = nI p := by simp [nmSt, nxA, zs]
      have f8 : gi (si (nmSt (nxA τ p) p L) 4 (if upB (ga τ 1 p) = true then 1 else if kwB (nVal (ga τ 1) p L) = true then 3 else 2)) 8 = 0 := by simp [nmSt, nxA, zs, h8]
      have f3 : gi (si (nmSt (nxA τ p) p L) 4 (if upB (ga τ 1 p) = true then 1 else if kwB (nVal (ga τ 1) p L) = true then 3 else 2)) 3 = nI (p + L) := by simp [nmSt, nxA, zs]
      have f6 : gl (si (nmSt (nxA τ p) p L) 4 (if upB (ga τ 1 p) = true then 1 else if kwB (nVal (ga τ 1) p L) = true then 3 else 2)) 6 = nVal (ga τ 1) p L := by simp [nmSt, nxA, zs, hm]
      have f4 : gi (si (nmSt (nxA τ p) p L) 4 (if upB (ga τ 1 p) = true then 1 else if kwB (nVal (ga τ 1) p L) = true then 3 else 2)) 4 = (if upB (ga τ 1 p) = true then 1 else if kwB (nVal (ga τ 1) p L) = true then 3 else 2) := by simp only [zs, if_true]
      rw [f5, f8, f3, f6, f4]
      by_cases u : upB (ga τ 1 p) = true
      · rw [if_pos u, if_pos u]
        exact ⟨rfl, by decide, fun z => absurd z (by decide), fun _ => ⟨rfl, rfl⟩, fun _ => rfl, fun z => absurd z (by decide)⟩
      · rw [if_neg u, if_neg u]
        rcases smS_rng (nVal (ga τ 1) p L) with ⟨s1, s2⟩ | ⟨s1, s2⟩
        · rw [s1, s2]
          exact ⟨rfl, by decide, fun z => absurd z (by decide), fun _ => ⟨rfl, rfl⟩, fun _ => rfl, fun z => absurd z (by decide)⟩
        · rw [s2]
          rcases s1 with s1 | s1 | s1 | s1 <;> rw [s1] <;> exact ⟨rfl, by decide, fun z => absurd z (by decide), fun _ => ⟨rfl, rfl⟩, fun _ => rfl, fun z => absurd z (by decide)⟩
  · rw [if_neg c] at e hts
    refine ⟨_, e, ⟨?_, ?_, ?_, ?_, ?_⟩, ?_⟩
    · intro j j1 j2 j3 j4 j5 j6; simp [nmSt, nxA, zs, j1, j2, j3, j5, j6]
    · intro j; simp [nmSt, nxA, zs]
    · intro j j1; simp [nmSt, nxA, zs, j1]
    · intro j; simp [nmSt, nxA, zs]
    · intro z; simp [zs] at z
    · unfold curT
      rw [hx, ht, hn, ← hpe, hts]
      dsimp only
      refine ⟨by simp [nmSt, nxA, zs], by simp [nmSt, nxA, zs]; decide, fun _ => ⟨by simp [zs], by simp [zs]⟩, fun z => absurd rfl z, fun z => absurd z (by decide), fun z => absurd z (by decide)⟩
/-- next(), with no fault before: the next token is the current one -/
theorem next_tok {F : Nat} {τ : zS} {n : Nat} (hB : byt (ga τ 1) n) (hl : gi τ 2 = nI n) (h8 : gi τ 8 = 0) (hF : 1300 ≤ F) {k : Nat} (h3 : gi τ 3 = nI (lxE (ga τ 1) n k)) : ∃ τ', Md_next F τ = some τ' ∧ frN τ τ' ∧ curT (ga τ 1) n k τ' := by
  have h1 := tkP_le (ga τ 1) n k
  rcases Nat.eq_or_lt_of_le h1 with h | h
  · exact next_end hB hl h8 hF h3 h
  · cases hs : (upB (ga τ 1 (tkP (ga τ 1) n k)) || loB (ga τ 1 (tkP (ga τ 1) n k)))
    · exact next_sign hB hl h8 hF h3 h hs
    · exact next_name hB hl h8 hF h3 h hs
