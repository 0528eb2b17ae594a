/-! A synonym replaced in a row of blocks. Own text. -/
def nthB (Bs : List (List BE)) (j : Nat) : List BE := Bs.getD j []
def sb1 (pm : Nat → Option Nat) (Bs : List (List BE)) (b : BE) : List BE := match pm b.2 with
  | some j => bmp (nthB Bs j) b.1
  | none => [b]
def subB (pm : Nat → Option Nat) (Bs : List (List BE)) : List BE → List BE
  | [] => []
  | b :: l => sb1 pm Bs b ++ subB pm Bs l
def sI (pm : Nat → Option Nat) (Bs : List (List BE)) (x : Nat) : List Nat := match pm x with
  | some j => it (nthB Bs j)
  | none => [x]
def subI (pm : Nat → Option Nat) (Bs : List (List BE)) : List Nat → List Nat
  | [] => []
  | x :: l => sI pm Bs x ++ subI pm Bs l
section S
variable {pm : Nat → Option Nat} {Bs : List (List BE)} {q : Nat}
theorem subI_app : ∀ l1 l2 : List Nat, subI pm Bs (l1 ++ l2) = subI pm Bs l1 ++ subI pm Bs l2
  | [], l2 => rfl
  | x :: l, l2 => by rw [List.cons_append, subI, subI, subI_app l l2, List.append_assoc]
theorem subI_0 (h0 : pm 0 = none) : ∀ k, subI pm Bs (List.replicate k 0) = List.replicate k 0
  | 0 => rfl
  | k + 1 => by
    rw [List.replicate_succ, subI, subI_0 h0 k]
    have : sI pm Bs 0 = [0] := by unfold sI; rw [h0]
    rw [this]; rfl
theorem sb1_ne (hB : ∀ x j, pm x = some j → nthB Bs j ≠ []) (b : BE) : sb1 pm Bs b ≠ [] := by
  unfold sb1
  cases h : pm b.2 with
  | some j => exact bmp_ne (hB _ j h) _
  | none => simp
theorem it_sub (h0 : pm 0 = none) (hB : ∀ x j, pm x = some j → nthB Bs j ≠ []) : ∀ R : List BE, it (subB pm Bs R) = subI pm Bs (it R)
  | [] => rfl
  | b :: R => by
    rw [subB, it_app, it, subI_app, it_sub h0 hB R]
    congr 1
    rw [itB, subI_app, subI_0 h0]
    have e : subI pm Bs [b.2] = sI pm Bs b.2 := by rw [subI, subI, List.append_nil]
    rw [e]
    unfold sb1 sI
    cases h : pm b.2 with
    | some j => exact it_bmp (hB _ j h) _
    | none => rw [it, it, List.append_nil]; rfl
/-- properties of blocks that stay with more ahead of them -/
theorem all_bmp {P : BE → Prop} (hP : ∀ k k' x, k ≤ k' → P (k, x) → P (k', x)) {l : List BE} (h : ∀ b, b ∈ l → P b) (j : Nat) : ∀ b, b ∈ bmp l j → P b := by
  cases l with
  | nil => intro b hb; cases hb
  | cons c l =>
    intro b hb
    rcases List.mem_cons.mp hb with z | z
    · rw [z]; exact hP c.1 _ c.2 (by omega) (h c List.mem_cons_self)
    · exact h b (List.mem_cons_of_mem _ z)
theorem all_sub {P : BE → Prop} (hP : ∀ k k' x, k ≤ k' → P (k, x) → P (k', x)) (hB : ∀ x j, pm x = some j → ∀ b, b ∈ nthB Bs j → P b) : ∀ R : List BE, (∀ b, b ∈ R → P b) → ∀ b, b ∈ subB pm Bs R → P b
  | [], _ => fun b hb => by cases hb
  | c :: R, h => fun b hb => by
    rw [subB] at hb
    rcases List.mem_append.mp hb with z | z
    · unfold sb1 at z
      cases e : pm c.2 with
      | some j => rw [e] at z; exact all_bmp hP (hB _ j e) _ b z
      | none => rw [e] at z; rw [List.mem_singleton.mp z]; exact h c List.mem_cons_self
    · exact all_sub hP hB R (fun b hb => h b (List.mem_cons_of_mem _ hb)) b z
variable {lk lkY : Nat → IT} {pks : List IT}
theorem KW_b1 (hpm : ∀ x j, pm x = some j → 10 ≤ x ∧ KW lk (nthB Bs j) [hk lkY x]) {b : BE} (hno : pm b.2 = none → hk lkY b.2 = hk lk b.2) {as as' : List IT} {κ : IT} (ha : as.length = b.1) (h : hk lkY b.2 = arr (as ++ as') κ) {B2 : List BE} {ks : List IT} (g : KW lk B2 (List.replicate (fx b.2) iS ++ (as ++ (as' ++ ks)))) : KW lk (bmp (sb1 pm Bs b) as'.length ++ B2) (κ :: ks) := by
  unfold sb1
  cases e : pm b.2 with
  | none =>
    refine ⟨κ, ks, as ++ as', rfl, by rw [List.length_append, ha], by rw [← hno e]; exact h, ?_⟩
    rw [List.append_assoc as as' ks]
    exact g
  | some j =>
    obtain ⟨x1, x2⟩ := hpm _ j e
    have f0 : fx b.2 = 0 := by
      unfold fx
      rw [if_neg (by omega), if_neg (by omega)]
    rw [f0] at g
    show KW lk (bmp (bmp (nthB Bs j) b.1) as'.length ++ B2) (κ :: ks)
    cases w : nthB Bs j with
    | nil => rw [w] at x2; cases x2
    | cons d l =>
      rw [w] at x2
      obtain ⟨κ0, ks0, aa, a1, a2, a3, a4⟩ := x2
      have a1' : hk lkY b.2 = κ0 ∧ ks0 = [] := by simpa using a1
      obtain ⟨c1, c2⟩ := a1'
      subst c2
      refine ⟨κ, ks, aa ++ (as ++ as'), rfl, ?_, ?_, ?_⟩
      · show (aa ++ (as ++ as')).length = d.1 + b.1 + as'.length
        simp only [List.length_append, a2, ha]; omega
      · show hk lk d.2 = _
        rw [a3, ← c1, h, ← arr_app]
      · show KW lk (l ++ B2) (List.replicate (fx d.2) iS ++ (aa ++ (as ++ as') ++ ks))
        have := KW_app lk l B2 _ _ a4 g
        simp only [List.append_assoc, List.append_nil, List.nil_append, List.replicate_zero] at this ⊢
        exact this
theorem KW_sub (hpm : ∀ x j, pm x = some j → 10 ≤ x ∧ KW lk (nthB Bs j) [hk lkY x]) : ∀ (R : List BE) (ks1 : List IT), (∀ b, b ∈ R → pm b.2 = none → hk lkY b.2 = hk lk b.2) → KW lkY R ks1 → ∀ (B2 : List BE) (ks2 : List IT), KW lk B2 ks2 → KW lk (subB pm Bs R ++ B2) (ks1 ++ ks2)
  | [], ks1, _, h, B2, ks2, g => by
    rw [show ks1 = [] from h]; exact g
  | b :: R, ks1, hno, h, B2, ks2, g => by
    obtain ⟨κ, ks0, as, a1, a2, a3, a4⟩ := h
    subst a1
    have ih := KW_sub hpm R _ (fun b hb => hno b (List.mem_cons_of_mem _ hb)) a4 B2 ks2 g
    have := KW_b1 (as' := []) (κ := κ) (B2 := subB pm Bs R ++ B2) (ks := ks0 ++ ks2) hpm (hno b List.mem_cons_self) a2 (by rw [List.append_nil]; exact a3) (by
      simp only [List.append_assoc, List.nil_append] at ih ⊢
      exact ih)
    rw [List.length_nil, bmp_0] at this
    rw [subB, List.append_assoc]
    exact this
theorem KW_subj (hpm : ∀ x j, pm x = some j → 10 ≤ x ∧ KW lk (nthB Bs j) [hk lkY x]) {R : List BE} (hno : ∀ b, b ∈ R → pm b.2 = none → hk lkY b.2 = hk lk b.2) {as' : List IT} {κ : IT} (h : KW lkY R [arr as' κ]) {B2 : List BE} {ks2 : List IT} (g : KW lk B2 (as' ++ ks2)) : KW lk (bmp (subB pm Bs R) as'.length ++ B2) (κ :: ks2) := by
  cases R with
  | nil => cases h
  | cons b R =>
    obtain ⟨κ0, ks0, as, a1, a2, a3, a4⟩ := h
    have a1' : arr as' κ = κ0 ∧ ks0 = [] := by simpa using a1
    obtain ⟨c1, c2⟩ := a1'
    subst c1 c2
    have ih := KW_sub hpm R _ (fun b hb => hno b (List.mem_cons_of_mem _ hb)) a4 B2 _ g
    have hB : ∀ x j, pm x = some j → nthB Bs j ≠ [] := fun x j e z => by
      have := (hpm x j e).2
      rw [z] at this
      cases this
    rw [subB, bmp_app (sb1_ne hB b), List.append_assoc]
    refine KW_b1 hpm (hno b List.mem_cons_self) a2 (by rw [arr_app]; exact a3) ?_
    simp only [List.append_assoc, List.append_nil] at ih ⊢
    exact ih
theorem KW_args : ∀ (pks : List IT) (B : List BE) (rest : List IT), KW lk B (pks ++ rest) → ∃ Bs B', B = Bs.flatten ++ B' ∧ Bs.length = pks.length ∧ (∀ j κ, pks[j]? = some κ → KW lk (nthB Bs j) [κ]) ∧ KW lk B' rest
  | [], B, rest, h => ⟨[], B, rfl, rfl, fun j κ z => by simp at z, h⟩
  | κ :: pks, B, rest, h => by
    obtain ⟨l1, l2, a1, a2, a3⟩ := KW_split lk B [κ] (pks ++ rest) h
    obtain ⟨Bs, B', b1, b2, b3, b4⟩ := KW_args pks l2 rest a3
    refine ⟨l1 :: Bs, B', by rw [a1, b1, List.flatten_cons, List.append_assoc], by simp [b2], fun j κ' z => ?_, b4⟩
    cases j with
    | zero =>
      have : κ = κ' := by simpa using z
      rw [← this]; exact a2
    | succ j => exact b3 j κ' (by simpa using z)
/-- a synonym replaced has kinds again -/
theorem KW_red {A B R : List BE} {k c : Nat} {ks : List IT} {r : IT} (h : KW lk (A ++ (k, 10 + c) :: B) ks) (hc : lk c = arr pks r) (hk' : pks.length ≤ k) (hR : KW lkY R [r]) (hpm : ∀ x j, pm x = some j → 10 ≤ x ∧ pks[j]? = some (hk lkY x)) (hno : ∀ b, b ∈ R → pm b.2 = none → hk lkY b.2 = hk lk b.2) : ∃ Bs B', B = Bs.flatten ++ B' ∧ Bs.length = pks.length ∧ (∀ j, j < Bs.length → fo (nthB Bs j) 1) ∧ KW lk (A ++ (bmp (subB pm Bs R) (k - pks.length) ++ B')) ks := by
  obtain ⟨ks', h1, h2⟩ := KW_pre lk A _ ks h
  obtain ⟨κ, ks0, as, a1, a2, a3, a4⟩ := h1
  have e1 : arr pks r = arr as κ := by rw [← hc, ← hk_lf lk c]; exact a3
  obtain ⟨as', b1, b2⟩ := arr_pre pks as r κ (by rw [a2]; exact hk') e1
  have a4' : KW lk B (pks ++ (as' ++ ks0)) := by
    have : KW lk B (List.replicate (fx (10 + c)) iS ++ (as ++ ks0)) := a4
    rw [fx_lf, b1, List.append_assoc] at this
    exact this
  obtain ⟨Bs, B', c1, c2, c3, c4⟩ := KW_args pks B _ a4'
  refine ⟨Bs, B', c1, c2, fun j hj => ?_, h2 _ ?_⟩
  · have := c3 j _ (List.getElem?_eq_getElem (by omega))
    exact KW_fo lk _ _ this
  · rw [a1]
    have hl : as'.length = k - pks.length := by
      have : as.length = k := a2
      rw [b1, List.length_append] at this
      omega
    rw [← hl]
    exact KW_subj (fun x j e => ⟨(hpm x j e).1, c3 j _ (hpm x j e).2⟩) hno (by rw [← b2]; exact hR) c4
end S
/-- types whose applications have a name ahead of them -/
def isI : TE → Bool
  | .op (.op (.var 2) _) _ => true
  | _ => false
def sp : TE → Prop
  | .var _ => True
  | .op (.op (.var 0) f) a => (isR f = false ∧ isI f = false) ∧ sp f ∧ sp a
  | .op (.op (.var 1) l) r => sp l ∧ sp r
  | .op (.op (.var 2) (.var _)) t => sp t
  | _ => False
def flB : List TE → List BE
  | [] => []
  | t :: l => blk t ++ flB l
theorem flB_app : ∀ l1 l2 : List TE, flB (l1 ++ l2) = flB l1 ++ flB l2
  | [], l2 => rfl
  | t :: l, l2 => by rw [List.cons_append, flB, flB, flB_app l l2, List.append_assoc]
def apL : TE → List TE → TE
  | f, [] => f
  | f, a :: l => apL (tO f a) l
theorem apL_blk : ∀ (l : List TE) (f : TE), blk f ≠ [] → blk (apL f l) = bmp (blk f) l.length ++ flB l
  | [], f, _ => by rw [apL, List.length_nil, bmp_0, flB, List.append_nil]
  | a :: l, f, h => by
    have e : blk (tO f a) = bmp (blk f) 1 ++ blk a := rfl
    rw [apL, apL_blk l (tO f a) (by rw [e]; intro z; exact bmp_ne h 1 (List.append_eq_nil_iff.mp z).1), e, bmp_app (bmp_ne h 1), bmp_bmp, flB, List.length_cons, Nat.add_comm, List.append_assoc]
theorem apL_sp : ∀ (l : List TE) (f : TE), sp f → isR f = false → isI f = false → (∀ t, t ∈ l → sp t) → sp (apL f l)
  | [], f, h, _, _, _ => h
  | a :: l, f, h, h1, h2, h3 => apL_sp l (tO f a) ⟨⟨h1, h2⟩, h, h3 a List.mem_cons_self⟩ rfl rfl (fun t ht => h3 t (List.mem_cons_of_mem _ ht))
theorem KW_tree (lk : Nat → IT) : ∀ (l : List BE) (ks : List IT), (∀ b, b ∈ l → b.2 = 1 ∨ b.2 = 2 ∨ 10 ≤ b.2) → KW lk l ks → ∃ ts, l = flB ts ∧ ts.length = ks.length ∧ ∀ t, t ∈ ts → sp t
  | [], ks, _, h => by
    rw [show ks = [] from h]
    exact ⟨[], rfl, rfl, fun t ht => by cases ht⟩
  | b :: l, ks, hx, h => by
    obtain ⟨κ, ks0, as, a1, a2, a3, a4⟩ := h
    obtain ⟨ts, b1, b2, b3⟩ := KW_tree lk l _ (fun b hb => hx b (List.mem_cons_of_mem _ hb)) a4
    subst a1
    simp only [List.length_append, List.length_replicate] at b2
    rcases hx b List.mem_cons_self with z | z | z
    · have e3 : iS = arr as κ := by rw [← a3]; unfold hk; rw [if_pos (by omega)]
      obtain ⟨e4, e5⟩ := arr_S e3
      subst e4
      rw [z] at b2
      match ts, b1, b2, b3 with
      | [], _, b2, _ => exact absurd b2 (by unfold fx; simp; omega)
      | t :: ts, b1, b2, b3 =>
        have e6 : b = (0, 1) := Prod.ext a2.symm z
        refine ⟨tI 0 t :: ts, by rw [b1, e6]; rfl, ?_, fun t' ht' => ?_⟩
        · have : fx 1 = 1 := rfl
          rw [this] at b2
          simp at b2 ⊢
          omega
        · rcases List.mem_cons.mp ht' with w | w
          · rw [w]; exact b3 t List.mem_cons_self
          · exact b3 t' (List.mem_cons_of_mem _ w)
    · have e3 : iS = arr as κ := by rw [← a3]; unfold hk; rw [if_pos (by omega)]
      obtain ⟨e4, e5⟩ := arr_S e3
      subst e4
      rw [z] at b2
      have f2 : fx 2 = 2 := rfl
      rw [f2] at b2
      match ts, b1, b2, b3 with
      | [], _, b2, _ => exact absurd b2 (by simp; omega)
      | [_], _, b2, _ => simp at b2; omega
      | t :: t' :: ts, b1, b2, b3 =>
        have e6 : b = (0, 2) := Prod.ext a2.symm z
        refine ⟨tR t t' :: ts, ?_, ?_, fun t1 ht1 => ?_⟩
        · rw [b1, e6]
          show (0, 2) :: (blk t ++ (blk t' ++ flB ts)) = ((0, 2) :: (blk t ++ blk t')) ++ flB ts
          rw [List.cons_append, List.append_assoc]
        · simp at b2 ⊢
          omega
        · rcases List.mem_cons.mp ht1 with w | w
          · rw [w]; exact ⟨b3 t List.mem_cons_self, b3 t' (List.mem_cons_of_mem _ List.mem_cons_self)⟩
          · exact b3 t1 (List.mem_cons_of_mem _ (List.mem_cons_of_mem _ w))
    · have f0 : fx b.2 = 0 := by
        unfold fx
        rw [if_neg (by omega), if_neg (by omega)]
      rw [f0, a2] at b2
      have hb : blk (.var (b.2 - 10)) ≠ [] := by simp [blk]
      have hl : (ts.take b.1).length = b.1 := by rw [List.length_take]; omega
      refine ⟨apL (.var (b.2 - 10)) (ts.take b.1) :: ts.drop b.1, ?_, ?_, fun t ht => ?_⟩
      · rw [flB, apL_blk _ _ hb, hl]
        have e1 : bmp (blk (.var (b.2 - 10))) b.1 = [b] := by
          show [(0 + b.1, 10 + (b.2 - 10))] = [b]
          rw [show 10 + (b.2 - 10) = b.2 by omega, Nat.zero_add]
        rw [e1, List.append_assoc, ← flB_app, List.take_append_drop, b1]
        rfl
      · rw [List.length_cons, List.length_drop, List.length_cons]; omega
      · rcases List.mem_cons.mp ht with w | w
        · rw [w]
          exact apL_sp _ _ trivial rfl rfl (fun t' ht' => b3 t' (List.mem_of_mem_take ht'))
        · exact b3 t (List.mem_of_mem_drop w)
