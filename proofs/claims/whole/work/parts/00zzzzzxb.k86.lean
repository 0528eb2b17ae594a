/-! The reference replaces a synonym. Own text. -/
theorem itR_v {τ : zS} {v : Int32} {x : Nat} (h : itR τ v x) : (v = 0 ↔ x = 0) ∧ (v < 10 ↔ x < 10) ∧ (v = 1 ↔ x = 1) := by
  rcases h with ⟨h1, h2⟩ | ⟨h1, n, h2, h3, _⟩
  · rw [h2]
    refine ⟨⟨fun z => ?_, fun z => by rw [z]; rfl⟩, ⟨fun _ => h1, fun _ => ?_⟩, ⟨fun z => ?_, fun z => by rw [z]; rfl⟩⟩
    · exact (nI_eq (by omega) (by omega)).mp z
    · exact nI_lt (a := x) (b := 10) h1 (by omega)
    · exact (nI_eq (a := x) (b := 1) (by omega) (by omega)).mp z
  · rw [h3]
    refine ⟨⟨fun z => ?_, fun z => by omega⟩, ⟨fun z => absurd z (nI_lt10 n h2), fun z => by omega⟩, ⟨fun z => ?_, fun z => by omega⟩⟩
    · have := (nI_eq (a := 10 + n) (b := 0) (by omega) (by omega)).mp z; omega
    · have := (nI_eq (a := 10 + n) (b := 1) (by omega) (by omega)).mp z; omega
theorem it_ge : ∀ l : List BE, l.length ≤ (it l).length
  | [] => Nat.le_refl _
  | b :: l => by
    have := it_ge l
    rw [it, List.length_append, itB, List.length_append, List.length_cons, List.length_cons]
    omega
def nz : List Nat → Nat
  | [] => 0
  | x :: l => (if x = 0 then 0 else 1) + nz l
theorem nz_app : ∀ l1 l2 : List Nat, nz (l1 ++ l2) = nz l1 + nz l2
  | [], l2 => by simp [nz]
  | x :: l, l2 => by rw [List.cons_append, nz, nz, nz_app l l2]; omega
theorem nz_0 : ∀ k, nz (List.replicate k 0) = 0
  | 0 => rfl
  | k + 1 => by rw [List.replicate_succ, nz, nz_0 k]; rfl
theorem nz_it : ∀ l : List BE, (∀ b, b ∈ l → okx b) → nz (it l) = l.length
  | [], _ => rfl
  | b :: l, h => by
    rw [it, nz_app, nz_it l (fun b hb => h b (List.mem_cons_of_mem _ hb)), itB, nz_app, nz_0, List.length_cons]
    have : b.2 ≠ 0 := by rcases h b List.mem_cons_self with z | z | z <;> omega
    simp only [nz, if_neg this]
    omega
/-- a row being made from items, or one with too many names -/
def MX (τ : zS) (I : List Nat) : Prop := I.length ≤ 400000 ∧ ((nz I ≤ 200 ∧ gi τ 96 = nI I.length ∧ gi τ 97 = nI (nz I) ∧ (I.length ≤ 1100 → mRw τ 60 0 I)) ∨ (200 < nz I ∧ gi τ 97 = nI 201 ∧ ∃ m, m ≤ 400000 ∧ gi τ 96 = nI m))
section M
variable {F : Nat} {τ : zS}
theorem end_0 : ∀ (k m f i : Nat), 0 < m → m + k < 100000 → i + k < 1200 → (∀ j, j < k → ga τ 59 (i + j) = 0) → Md_end_4 F (f + k) τ (nI m) (nI i) = Md_end_4 F f τ (nI (m + k)) (nI (i + k)) := by
  intro k
  induction k with
  | zero => intro m f i _ _ _ _; rfl
  | succ k ih =>
    intro m f i hm hm2 hi hz
    have h0 : ga τ 59 i = 0 := hz 0 (by omega)
    rw [show f + (k + 1) = f + k + 1 by omega, Md_end_4, Md_end_b4, if_neg (nI_nle hm (by omega)), gd_t (inb_nI (by omega) (by omega)), nI_clamp (by omega), h0, if_pos (by decide), if_neg (by decide), Md_end_39, nI_1, nI_1, ih (m + 1) f (i + 1) (by omega) (by omega) (by omega) (fun j hj => by
      have := hz (j + 1) (by omega)
      rw [show i + 1 + j = i + (j + 1) by omega]; exact this), show m + 1 + k = m + (k + 1) by omega, show i + 1 + k = i + (k + 1) by omega]
theorem mRw_0 {A : Nat} : ∀ (k i : Nat), mRw τ A i (List.replicate k 0) → ∀ j, j < k → ga τ A (i + j) = 0
  | 0, i, _, j, hj => by omega
  | k + 1, i, h, j, hj => by
    rw [List.replicate_succ] at h
    cases j with
    | zero => exact (itR_v h.1).1.mpr rfl
    | succ j =>
      have := mRw_0 k (i + 1) h.2 j (by omega)
      rw [show i + (j + 1) = i + 1 + j by omega]; exact this
theorem end_l : ∀ (l : List BE) (m f i : Nat), fo l m → (∀ b, b ∈ l → okx b) → mRw τ 59 i (it l) → i + (it l).length ≤ 1200 → m ≤ 2000 → Md_end_4 F (f + 1 + (it l).length) τ (nI m) (nI i) = some (nI (i + (it l).length), τ) := by
  intro l
  induction l with
  | nil =>
    intro m f i h _ _ _ _
    have hm : m = 0 := h
    subst hm
    show Md_end_4 F (f + 1) τ (nI 0) (nI i) = _
    rw [Md_end_4, Md_end_b4, if_pos (by decide)]
    rfl
  | cons b l ih =>
    intro m f i h hok hr hi hm
    obtain ⟨h1, h2⟩ := h
    have hb := fo_len l _ h2
    have hge := it_ge l
    rw [it, itB] at hr hi ⊢
    simp only [List.length_append, List.length_replicate, List.length_cons, List.length_nil] at hi ⊢
    rw [List.append_assoc, mRw_app] at hr
    obtain ⟨r1, r2, r3⟩ := hr
    simp only [List.length_replicate, List.nil_append] at r2 r3
    have r3' : mRw τ 59 (i + b.1 + 1) (it l) := r3
    rw [show f + 1 + (b.1 + (0 + 1) + (it l).length) = f + 1 + (it l).length + 1 + b.1 by omega, end_0 b.1 m _ i h1 (by omega) (by omega) (fun j hj => mRw_0 b.1 i r1 j hj)]
    obtain ⟨v1, v2, v3⟩ := itR_v r2
    have hih := ih (m - 1 + b.1 + fx b.2) f (i + b.1 + 1) h2 (fun b hb' => hok b (List.mem_cons_of_mem _ hb')) r3' (by omega) (by omega)
    rw [show i + (b.1 + (0 + 1) + (it l).length) = i + b.1 + 1 + (it l).length by omega, ← hih, Md_end_4, Md_end_b4, if_neg (nI_nle (by omega) (by omega)), gd_t (inb_nI (by omega) (by omega)), nI_clamp (by omega)]
    rcases hok b List.mem_cons_self with z | z | z
    · rw [if_pos (v2.mpr (by omega)), if_pos (v3.mpr z), Md_end_39, nI_1, show (0 : Int32) = nI 0 from rfl, nI_add, z, show m + b.1 + 0 = m - 1 + b.1 + fx 1 by unfold fx; simp; omega]
    · rw [if_pos (v2.mpr (by omega)), if_neg (fun w => by have := v3.mp w; omega), Md_end_39, nI_1, nI_1, z, show m + b.1 + 1 = m - 1 + b.1 + fx 2 by unfold fx; simp; omega]
    · rw [if_neg (fun w => by have := v2.mp w; omega), Md_end_39, nI_1, show m + b.1 = (m - 1 + b.1 + fx b.2) + 1 by unfold fx; rw [if_neg (by omega), if_neg (by omega)]; omega, nI_prd]
theorem endM (hF : 20000 ≤ F) {l : List BE} {i : Nat} (h : fo l 1) (hok : ∀ b, b ∈ l → okx b) (hr : mRw τ 59 i (it l)) (hi : i + (it l).length ≤ 1200) : Md_end F τ (nI i) = some (nI (i + (it l).length), τ) := by
  obtain ⟨F', hF'⟩ : ∃ F', F = F' + 1 + (it l).length := ⟨F - 1 - (it l).length, by omega⟩
  have := end_l (F := F) l 1 F' i h hok hr hi (by omega)
  rw [← hF'] at this
  exact this
/-- one item more -/
theorem addM {I : List Nat} {v : Int32} {x : Nat} (hM : MX τ I) (hn : nz I ≤ 200) (hl : I.length < 400000) (hv : itR τ v x) : ∃ τ', Md_add F τ v = some τ' ∧ MX τ' (I ++ [x]) ∧ sx [96, 97] [60] τ τ' := by
  obtain ⟨_, hM⟩ := hM
  rcases hM with ⟨m1, m2, m3, m4⟩ | ⟨m1, _⟩
  · have v0 := (itR_v hv).1
    obtain ⟨e, he⟩ : ∃ e, e = (if x = 0 then 0 else 1 : Nat) := ⟨_, rfl⟩
    have hnz : nz (I ++ [x]) = nz I + e := by rw [nz_app, nz, nz, he]; rfl
    have hadd : Md_add F τ v = Md_add_14 F τ v (nI (nz I)) (nI e) := by
      rw [Md_add, m3]
      by_cases z : x = 0
      · rw [if_pos (v0.mpr z), he, if_pos z]; rfl
      · rw [if_neg (fun w => z (v0.mp w)), he, if_neg z]; rfl
    by_cases hc : I.length < 1100
    · refine ⟨si (sa (si τ 97 (nI (nz I + e))) 60 I.length v) 96 (nI (I.length + 1)), ?_, ⟨by simp; omega, ?_⟩, sx_si (sx_sa (sx_si (sx_rfl _ _ _) (by simp) _) (by simp) _ _) (by simp) _⟩
      · have g96 : gi (sa (si τ 97 (nI (nz I + e))) 60 I.length v) 96 = nI I.length := by simp [zs]; exact m2
        rw [hadd, Md_add_14, m2, if_neg (show ¬ (1100 : Int32) ≤ nI I.length from nI_ge (a := I.length) (b := 1100) hc (by omega)), gd_t (inb_nI (by omega) (by omega)), nI_clamp (by omega), nI_add, Md_add_38, g96, nI_1]
      · rw [hnz]
        by_cases h2 : nz I + e ≤ 200
        · refine Or.inl ⟨h2, by simp [zs], by simp [zs], fun _ => ?_⟩
          refine (mRw_app _ _ _).mpr ⟨mRw_fr (τ := τ) (by simp only [zs]; rfl) (by simp only [zs]) I 0 0 (fun j hj => ?_) (m4 (by omega)), ?_, trivial⟩
          · simp only [zs, if_true, up_at]
            rw [if_neg (by omega)]
          · have : ga (si (sa (si τ 97 (nI (nz I + e))) 60 I.length v) 96 (nI (I.length + 1))) 60 (0 + I.length) = v := by simp only [zs, if_true, up_at]; rw [if_pos (by omega)]
            rw [this]
            exact itR_fr (by simp only [zs]; rfl) (by simp only [zs]) hv
        · have e1 : nz I + e = 201 := by
            have : e ≤ 1 := by rw [he]; split <;> omega
            omega
          exact Or.inr ⟨by omega, by simp [zs, e1], I.length + 1, by omega, by simp [zs]⟩
    · refine ⟨si (si τ 97 (nI (nz I + e))) 96 (nI (I.length + 1)), ?_, ⟨by simp; omega, ?_⟩, sx_si (sx_si (sx_rfl _ _ _) (by simp) _) (by simp) _⟩
      · have g96 : gi (si τ 97 (nI (nz I + e))) 96 = nI I.length := by simp [zs]; exact m2
        rw [hadd, Md_add_14, m2, if_pos (show (1100 : Int32) ≤ nI I.length from nI_le (a := 1100) (b := I.length) (by omega) (by omega)), nI_add, Md_add_38, g96, nI_1]
      · rw [hnz]
        by_cases h2 : nz I + e ≤ 200
        · exact Or.inl ⟨h2, by simp [zs], by simp [zs], fun w => by simp at w; omega⟩
        · have e1 : nz I + e = 201 := by
            have : e ≤ 1 := by rw [he]; split <;> omega
            omega
          exact Or.inr ⟨by omega, by simp [zs, e1], I.length + 1, by omega, by simp [zs]⟩
  · omega
theorem MX_97 {I : List Nat} (h : MX τ I) : (200 : Int32) < gi τ 97 ↔ 200 < nz I := by
  rcases h.2 with ⟨m1, m2, m3, m4⟩ | ⟨m1, m2, _⟩
  · rw [m3]
    exact ⟨fun z => absurd z (nI_nlt (a := 200) (b := nz I) (by omega) (by omega)), fun z => by omega⟩
  · rw [m2]
    exact ⟨fun _ => m1, fun _ => by decide⟩
theorem span_loop : ∀ (J : List Nat) (f i : Nat) (τ : zS) (I : List Nat), mRw τ 59 i J → i + J.length ≤ 1200 → J.length < f → MX τ I → (I ++ J).length ≤ 400000 → ∃ τ', Md_addSpan_2 F f τ (nI (i + J.length)) (nI i) = some τ' ∧ MX τ' (I ++ J) ∧ sx [96, 97] [60] τ τ' := by
  intro J
  induction J with
  | nil =>
    intro f i τ I _ hi hf hM _
    obtain ⟨f, rfl⟩ : ∃ f', f = f' + 1 := ⟨f - 1, by omega⟩
    refine ⟨τ, ?_, by rw [List.append_nil]; exact hM, sx_rfl _ _ _⟩
    rw [Md_addSpan_2, Md_addSpan_b2, if_pos (nI_le (by simp) (by simp at hi ⊢; omega))]; rfl
  | cons x J ih =>
    intro f i τ I hr hi hf hM hl
    simp only [List.length_cons] at hi hf
    obtain ⟨f, rfl⟩ : ∃ f', f = f' + 1 := ⟨f - 1, by omega⟩
    have hlt : ¬ nI (i + (x :: J).length) ≤ nI i := nI_ge (by simp) (by simp; omega)
    by_cases c : 200 < nz I
    · refine ⟨τ, ?_, ?_, sx_rfl _ _ _⟩
      · rw [Md_addSpan_2, Md_addSpan_b2, if_neg hlt, if_pos ((MX_97 hM).mpr c)]; rfl
      · rcases hM.2 with ⟨m1, _⟩ | ⟨m1, m2, m3⟩
        · omega
        · exact ⟨hl, Or.inr ⟨by rw [nz_app]; omega, m2, m3⟩⟩
    · obtain ⟨τ1, a1, a2, a3⟩ := addM (F := F) hM (by omega) (by simp at hl; omega) hr.1
      obtain ⟨τ', b1, b2, b3⟩ := ih f (i + 1) τ1 (I ++ [x]) (mRw_fr (a3.2.1 2 (by simp)) (sx_gb a3 3) J (i + 1) (i + 1) (fun j _ => by rw [a3.2.1 59 (by simp)]) hr.2) (by omega) (by omega) a2 (by simp at hl ⊢; omega)
      refine ⟨τ', ?_, by simpa using b2, sx_tr a3 b3⟩
      rw [Md_addSpan_2, Md_addSpan_b2, if_neg hlt, if_neg (fun z => c ((MX_97 hM).mp z)), gd_t (inb_nI (by omega) (by omega)), nI_clamp (by omega), a1, bv_some, nI_1, show i + (x :: J).length = i + 1 + J.length by simp; omega, b1]
theorem spanM (hF : 20000 ≤ F) {J I : List Nat} {i e : Nat} (hr : mRw τ 59 i J) (he : e = i + J.length) (hi : i + J.length ≤ 1200) (hM : MX τ I) (hl : (I ++ J).length ≤ 400000) : ∃ τ', Md_addSpan F τ (nI i) (nI e) = some τ' ∧ MX τ' (I ++ J) ∧ sx [96, 97] [60] τ τ' := by
  subst he
  exact span_loop J F i τ I hr hi (by omega) hM hl
end M
