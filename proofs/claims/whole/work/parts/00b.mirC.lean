/-! Mirrors of KindRounds. Written by program (wip/gen). -/
def Ar_rangeCheck (F : Nat) (σ : zS) (x0 : Int32) (x1 : Int32) (x2 : Int32) : Option zS :=
  if x1 ≤ x2 then (if 0 ≤ x1 then (if x2 ≤ x0 then (some σ)
  else (none))
  else (none))
  else (none)
def Ar_fill_b10 (F : Nat) (rc10 : zS → Nat → Int32 → Int32 → Int32 → Option zS) (σ : zS) (x0 : Nat) (x2 : Int32) (x3 : Int32) (x4 : Int32) : Option zS :=
  if x2 ≤ x4 then (some σ)
  else (gd (isMa x0) (gd (inb x4 1713) (rc10 (sa σ x0 x4.toNatClampNeg x3) x0 x2 x3 (x4 + (1 : Int32)))))
def Ar_fill_10 (F : Nat) : Nat → zS → Nat → Int32 → Int32 → Int32 → Option zS
  | 0, _, _, _, _, _ => none
  | n + 1, σ, x0, x2, x3, x4 => Ar_fill_b10 F (Ar_fill_10 F n) σ x0 x2 x3 x4
def Ar_fill (F : Nat) (σ : zS) (x0 : Nat) (x1 : Int32) (x2 : Int32) (x3 : Int32) : Option zS :=
  gd (isMa x0) (bv (Ar_rangeCheck F σ (1713 : Int32) x1 x2) (fun σ2 => Ar_fill_10 F F σ2 x0 x2 x3 x1))
def Ta_hasRoom_18 (F : Nat) (σ : zS) (s0 : Int32) : Option (Int32 × zS) :=
  gd (isB s0) (some (s0, σ))
def Ta_hasRoom (F : Nat) (σ : zS) : Option (Int32 × zS) :=
  if (1200 : Int32) < ((gi σ 101) + (20 : Int32)) then (Ta_hasRoom_18 F σ (0 : Int32))
  else (Ta_hasRoom_18 F σ (1 : Int32))
def Ta_append_49 (F : Nat) (σ : zS) : Option zS :=
  some σ
def Ta_append_b3 (F : Nat) (rc3 : zS → Int32 → Int32 → Option zS) (σ : zS) (x1 : Int32) (x2 : Int32) : Option zS :=
  if x2 < 0 then (Ta_append_49 F σ)
  else (if (1200 : Int32) ≤ (gi σ 101) then (Ta_append_49 F σ)
  else (gd (inb (gi σ 101) 1200) (rc3 (si (sa σ 19 (gi σ 101).toNatClampNeg ((x1.toUInt32 >>> (Int32.toUInt32 x2 &&& Int32.toUInt32 31)).toInt32 &&& (255 : Int32))) 101 ((gi σ 101) + (1 : Int32))) x1 (x2 + (-8 : Int32)))))
def Ta_append_3 (F : Nat) : Nat → zS → Int32 → Int32 → Option zS
  | 0, _, _, _ => none
  | n + 1, σ, x1, x2 => Ta_append_b3 F (Ta_append_3 F n) σ x1 x2
def Ta_append (F : Nat) (σ : zS) (x1 : Int32) : Option zS :=
  Ta_append_3 F F σ x1 (24 : Int32)
def Ta_addToken (F : Nat) (σ : zS) (x1 : Int32) (x2 : Int64) (x4 : Int32) : Option zS :=
  if (gi σ 105) ≤ (1200 : Int32) then (gd (inb (gi σ 105) 1201) (some (si (sa (sb (sa σ 20 (gi σ 105).toNatClampNeg x1) 21 (gi σ 105).toNatClampNeg x2) 22 (gi σ 105).toNatClampNeg x4) 105 ((gi σ 105) + (1 : Int32)))))
  else (some σ)
def Ta_isBigLetter_17 (F : Nat) (σ : zS) (s0 : Int32) : Option (Int32 × zS) :=
  gd (isB s0) (some (s0, σ))
def Ta_isBigLetter_16 (F : Nat) (σ : zS) : Option (Int32 × zS) :=
  Ta_isBigLetter_17 F σ (0 : Int32)
def Ta_isBigLetter (F : Nat) (σ : zS) (x0 : Int32) : Option (Int32 × zS) :=
  if x0 < (65 : Int32) then (Ta_isBigLetter_16 F σ)
  else (if (90 : Int32) < x0 then (Ta_isBigLetter_16 F σ)
  else (Ta_isBigLetter_17 F σ (1 : Int32)))
def Ta_isSmallLetter_17 (F : Nat) (σ : zS) (s0 : Int32) : Option (Int32 × zS) :=
  gd (isB s0) (some (s0, σ))
def Ta_isSmallLetter_16 (F : Nat) (σ : zS) : Option (Int32 × zS) :=
  Ta_isSmallLetter_17 F σ (0 : Int32)
def Ta_isSmallLetter (F : Nat) (σ : zS) (x0 : Int32) : Option (Int32 × zS) :=
  if x0 < (97 : Int32) then (Ta_isSmallLetter_16 F σ)
  else (if (122 : Int32) < x0 then (Ta_isSmallLetter_16 F σ)
  else (Ta_isSmallLetter_17 F σ (1 : Int32)))
def Ta_isNameByte_31 (F : Nat) (σ : zS) (s0 : Int32) : Option (Int32 × zS) :=
  gd (isB s0) (some (s0, σ))
def Ta_isNameByte_26 (F : Nat) (σ : zS) : Option (Int32 × zS) :=
  Ta_isNameByte_31 F σ (1 : Int32)
def Ta_isNameByte_30 (F : Nat) (σ : zS) : Option (Int32 × zS) :=
  Ta_isNameByte_31 F σ (0 : Int32)
def Ta_isNameByte (F : Nat) (σ : zS) (x0 : Int32) : Option (Int32 × zS) :=
  bi (Ta_isBigLetter F σ x0) (fun r2 σ1 => if r2 = 0 then (bi (Ta_isSmallLetter F σ1 x0) (fun r6 σ5 => if r6 = 0 then (if x0 < (48 : Int32) then (Ta_isNameByte_30 F σ5)
  else (if (57 : Int32) < x0 then (Ta_isNameByte_30 F σ5)
  else (Ta_isNameByte_26 F σ5)))
  else (Ta_isNameByte_26 F σ5)))
  else (Ta_isNameByte_26 F σ1))
def Ta_sortOfSmall_45 (F : Nat) (σ : zS) (s0 : Int32) : Option (Int32 × zS) :=
  some (s0, σ)
def Ta_sortOfSmall (F : Nat) (σ : zS) (x0 : Int64) : Option (Int32 × zS) :=
  if (lg_cmp x0 (1684108385 : Int64)) = 0 then (some ((4 : Int32), σ))
  else (if (lg_cmp x0 (1954115685 : Int64)) = 0 then (some ((5 : Int32), σ))
  else (if (lg_cmp x0 (427020088179 : Int64)) = 0 then (some ((6 : Int32), σ))
  else (if (lg_cmp x0 (1802071652 : Int64)) = 0 then (Ta_sortOfSmall_45 F σ (7 : Int32))
  else (Ta_sortOfSmall_45 F σ (3 : Int32)))))
def Ta_scanName_92 (F : Nat) (σ : zS) (x4 : Int32) : Option (Int32 × zS) :=
  some (x4, σ)
def Ta_scanName_87 (F : Nat) (σ : zS) (x1 : Int32) (x2 : Int64) (x4 : Int32) (s1 : Int32) : Option (Int32 × zS) :=
  bv (Ta_addToken F σ s1 x2 x1) (fun σ1 => Ta_scanName_92 F σ1 x4)
def Ta_scanName_47 (F : Nat) (σ : zS) (x1 : Int32) (x2 : Int64) (x4 : Int32) : Option (Int32 × zS) :=
  if (x4 - x1) ≤ (8 : Int32) then (gd (inb x1 1200) (bi (Ta_isBigLetter F σ (ga σ 19 x1.toNatClampNeg)) (fun r4 σ3 => if r4 = 0 then (bi (Ta_sortOfSmall F σ3 x2) (fun r8 σ7 => Ta_scanName_87 F σ7 x1 x2 x4 r8))
  else (Ta_scanName_87 F σ3 x1 x2 x4 (2 : Int32)))))
  else (bv (Ta_addToken F σ (0 : Int32) (0 : Int64) x1) (fun σ10 => Ta_scanName_92 F σ10 x4))
def Ta_scanName_b5 (F : Nat) (rc5 : zS → Int32 → Int64 → Int32 → Option (Int32 × zS)) (σ : zS) (x1 : Int32) (x2 : Int64) (x4 : Int32) : Option (Int32 × zS) :=
  if (gi σ 101) ≤ x4 then (Ta_scanName_47 F σ x1 x2 x4)
  else (gd (inb x4 1200) (bi (Ta_isNameByte F σ (ga σ 19 x4.toNatClampNeg)) (fun r4 σ3 => if r4 = 0 then (Ta_scanName_47 F σ3 x1 x2 x4)
  else (rc5 σ3 x1 ((x2 <<< (Int32.toInt64 (8 : Int32) &&& 63)) ||| (Int32.toInt64 (ga σ3 19 x4.toNatClampNeg))) (x4 + (1 : Int32))))))
def Ta_scanName_5 (F : Nat) : Nat → zS → Int32 → Int64 → Int32 → Option (Int32 × zS)
  | 0, _, _, _, _ => none
  | n + 1, σ, x1, x2, x4 => Ta_scanName_b5 F (Ta_scanName_5 F n) σ x1 x2 x4
def Ta_scanName (F : Nat) (σ : zS) (x1 : Int32) : Option (Int32 × zS) :=
  Ta_scanName_5 F F σ x1 (0 : Int64) x1
def Ta_scanSign_81 (F : Nat) (σ : zS) (x1 : Int32) (s1 : Int32) : Option (Int32 × zS) :=
  bv (Ta_addToken F σ s1 (0 : Int64) x1) (fun σ1 => some ((x1 + (1 : Int32)), σ1))
def Ta_scanSign_65 (F : Nat) (σ : zS) (x1 : Int32) (x2 : Int32) : Option (Int32 × zS) :=
  bi (St_indexOf F σ ((Int32.toUInt32 x2) % 65536).toInt32) (fun r2 σ1 => if r2 < 0 then (Ta_scanSign_81 F σ1 x1 (0 : Int32))
  else (Ta_scanSign_81 F σ1 x1 x2))
def Ta_scanSign_54 (F : Nat) (σ : zS) (x1 : Int32) (x2 : Int32) : Option (Int32 × zS) :=
  bv (Ta_addToken F σ x2 (0 : Int64) x1) (fun σ1 => some ((x1 + (2 : Int32)), σ1))
def Ta_scanSign_42 (F : Nat) (σ : zS) (x1 : Int32) (x2 : Int32) (x3 : Int32) : Option (Int32 × zS) :=
  if x2 = (45 : Int32) then (if x3 = (62 : Int32) then (Ta_scanSign_54 F σ x1 x2)
  else (Ta_scanSign_65 F σ x1 x2))
  else (Ta_scanSign_65 F σ x1 x2)
def Ta_scanSign_29 (F : Nat) (σ : zS) (x1 : Int32) (x2 : Int32) (s0 : Int32) : Option (Int32 × zS) :=
  if x2 = (58 : Int32) then (if s0 = (58 : Int32) then (Ta_scanSign_54 F σ x1 x2)
  else (Ta_scanSign_42 F σ x1 x2 s0))
  else (Ta_scanSign_42 F σ x1 x2 s0)
def Ta_scanSign (F : Nat) (σ : zS) (x1 : Int32) : Option (Int32 × zS) :=
  gd (inb x1 1200) (if (gi σ 101) ≤ (x1 + (1 : Int32)) then (Ta_scanSign_29 F σ x1 (ga σ 19 x1.toNatClampNeg) (0 : Int32))
  else (gd (inb (x1 + (1 : Int32)) 1200) (Ta_scanSign_29 F σ x1 (ga σ 19 x1.toNatClampNeg) (ga σ 19 (x1 + (1 : Int32)).toNatClampNeg))))
def Ta_scan_89 (F : Nat) (σ : zS) : Option zS :=
  bv (Ta_addToken F σ (1 : Int32) (0 : Int64) (gi σ 101)) (fun σ1 => some σ1)
def Ta_scan_83 (F : Nat) (rc14 : zS → Int32 → Int32 → Option zS) (σ : zS) (x1 : Int32) (x2 : Int32) : Option zS :=
  rc14 σ x1 (x2 + (1 : Int32))
def Ta_scan_48 (F : Nat) (rc14 : zS → Int32 → Int32 → Option zS) (σ : zS) (x1 : Int32) (x2 : Int32) : Option zS :=
  Ta_scan_83 F rc14 σ (x1 + (1 : Int32)) x2
def Ta_scan_68 (F : Nat) (rc14 : zS → Int32 → Int32 → Option zS) (σ : zS) (x1 : Int32) (x2 : Int32) : Option zS :=
  bi (Ta_scanName F σ x1) (fun r2 σ1 => Ta_scan_83 F rc14 σ1 r2 x2)
def Ta_scan_b14 (F : Nat) (rc14 : zS → Int32 → Int32 → Option zS) (σ : zS) (x1 : Int32) (x2 : Int32) : Option zS :=
  if (1200 : Int32) ≤ x2 then (Ta_scan_89 F σ)
  else (if (gi σ 101) ≤ x1 then (Ta_scan_89 F σ)
  else (gd (inb x1 1200) (if (ga σ 19 x1.toNatClampNeg) = (32 : Int32) then (Ta_scan_48 F rc14 σ x1 x2)
  else (if (ga σ 19 x1.toNatClampNeg) = (10 : Int32) then (Ta_scan_48 F rc14 σ x1 x2)
  else (bi (Ta_isBigLetter F σ (ga σ 19 x1.toNatClampNeg)) (fun r7 σ6 => if r7 = 0 then (bi (Ta_isSmallLetter F σ6 (ga σ 19 x1.toNatClampNeg)) (fun r11 σ10 => if r11 = 0 then (bi (Ta_scanSign F σ10 x1) (fun r15 σ14 => Ta_scan_83 F rc14 σ14 r15 x2))
  else (Ta_scan_68 F rc14 σ10 x1 x2)))
  else (Ta_scan_68 F rc14 σ6 x1 x2)))))))
def Ta_scan_14 (F : Nat) : Nat → zS → Int32 → Int32 → Option zS
  | 0, _, _, _ => none
  | n + 1, σ, x1, x2 => Ta_scan_b14 F (Ta_scan_14 F n) σ x1 x2
def Ta_scan (F : Nat) (σ : zS) : Option zS :=
  Ta_scan_14 F F (si (si σ 105 (0 : Int32)) 106 (0 : Int32)) (0 : Int32) (0 : Int32)
def Ta_sort (F : Nat) (σ : zS) : Option (Int32 × zS) :=
  gd (inb (gi σ 106) 1201) (some ((ga σ 20 (gi σ 106).toNatClampNeg), σ))
def Ta_name (F : Nat) (σ : zS) : Option (Int64 × zS) :=
  gd (inb (gi σ 106) 1201) (some ((gb σ 21 (gi σ 106).toNatClampNeg), σ))
def Ta_start (F : Nat) (σ : zS) : Option (Int32 × zS) :=
  gd (inb (gi σ 106) 1201) (some ((ga σ 22 (gi σ 106).toNatClampNeg), σ))
def Ta_step_23 (F : Nat) (σ : zS) : Option zS :=
  some σ
def Ta_step (F : Nat) (σ : zS) : Option zS :=
  if (gi σ 105) ≤ ((gi σ 106) + (1 : Int32)) then (Ta_step_23 F σ)
  else (Ta_step_23 F (si σ 106 ((gi σ 106) + (1 : Int32))))
def Li_clear (F : Nat) (σ : zS) (x0 : Nat) : Option zS :=
  gd (isLine x0) (some (ti σ (100 * x0 + 1) (0 : Int32)))
def Li_put_31 (F : Nat) (σ : zS) : Option zS :=
  some σ
def Li_put (F : Nat) (σ : zS) (x0 : Nat) (x1 : Int32) : Option zS :=
  gd (isLine x0) (if (2400 : Int32) ≤ (mi σ (100 * x0 + 1)) then (Li_put_31 F σ)
  else (gd (inb (mi σ (100 * x0 + 1)) 2400) (Li_put_31 F (ti (ta σ (lA x0) (mi σ (100 * x0 + 1)).toNatClampNeg (vp_nar .byte (Int32.toInt8 x1).toInt32)) (100 * x0 + 1) ((mi σ (100 * x0 + 1)) + (1 : Int32))))))
def Li_putArrow (F : Nat) (σ : zS) (x0 : Nat) : Option zS :=
  gd (isLine x0) (bv (Li_put F σ x0 (45 : Int32)) (fun σ1 => bv (Li_put F σ1 x0 (62 : Int32)) (fun σ4 => some σ4)))
def Li_putName_28 (F : Nat) (rc3 : zS → Nat → Int64 → Int32 → Option zS) (σ : zS) (x0 : Nat) (x1 : Int64) (x3 : Int32) : Option zS :=
  rc3 σ x0 x1 (x3 + (-8 : Int32))
def Li_putName_b3 (F : Nat) (rc3 : zS → Nat → Int64 → Int32 → Option zS) (σ : zS) (x0 : Nat) (x1 : Int64) (x3 : Int32) : Option zS :=
  if x3 < 0 then (some σ)
  else (if ((Int64.toInt32 (x1.toUInt64 >>> ((Int32.toInt64 x3).toUInt64 &&& Int64.toUInt64 63)).toInt64) &&& (255 : Int32)) = 0 then (Li_putName_28 F rc3 σ x0 x1 x3)
  else (gd (isLine x0) (bv (Li_put F σ x0 ((Int64.toInt32 (x1.toUInt64 >>> ((Int32.toInt64 x3).toUInt64 &&& Int64.toUInt64 63)).toInt64) &&& (255 : Int32))) (fun σ3 => Li_putName_28 F rc3 σ3 x0 x1 x3))))
def Li_putName_3 (F : Nat) : Nat → zS → Nat → Int64 → Int32 → Option zS
  | 0, _, _, _, _ => none
  | n + 1, σ, x0, x1, x3 => Li_putName_b3 F (Li_putName_3 F n) σ x0 x1 x3
def Li_putName (F : Nat) (σ : zS) (x0 : Nat) (x1 : Int64) : Option zS :=
  Li_putName_3 F F σ x0 x1 (56 : Int32)
def Li_copy (F : Nat) (σ : zS) (x0 : Nat) (x1 : Nat) : Option zS :=
  gd (isLine x1) (gd (isLine x0) (gd (cpG (0 : Int32) (0 : Int32) (mi σ (100 * x1 + 1)) 2400 2400) (gd (cpB (ma σ (lA x1)) (0 : Int32).toNatClampNeg (mi σ (100 * x1 + 1)).toNatClampNeg) (some (ti (tA σ (lA x0) (va_cpy (ma σ (lA x1)) (ma σ (lA x0)) (0 : Int32).toNatClampNeg (0 : Int32).toNatClampNeg (mi σ (100 * x1 + 1)).toNatClampNeg)) (100 * x0 + 1) (mi σ (100 * x1 + 1)))))))
def Fa_clear (F : Nat) (σ : zS) : Option zS :=
  some (si σ 200 (0 : Int32))
def Fa_isThere_12 (F : Nat) (σ : zS) (s0 : Int32) : Option (Int32 × zS) :=
  gd (isB s0) (some (s0, σ))
def Fa_isThere (F : Nat) (σ : zS) : Option (Int32 × zS) :=
  if (gi σ 200) = 0 then (Fa_isThere_12 F σ (0 : Int32))
  else (Fa_isThere_12 F σ (1 : Int32))
def Fa_raise (F : Nat) (σ : zS) (x1 : Int32) (x2 : Int32) : Option zS :=
  some (si (si σ 200 x1) 201 x2)
def Ki_clear (F : Nat) (σ : zS) : Option zS :=
  some (si (si σ 306 (1 : Int32)) 307 (1 : Int32))
def Ki_makeOpen (F : Nat) (σ : zS) : Option (Int32 × zS) :=
  if (gi σ 306) < (1713 : Int32) then (gd (inb (gi σ 306) 1713) (some ((((gi σ 306) + (1 : Int32)) - (1 : Int32)), (si (sa (sa σ 23 (gi σ 306).toNatClampNeg (-1 : Int32)) 25 (gi σ 306).toNatClampNeg (-1 : Int32)) 306 ((gi σ 306) + (1 : Int32))))))
  else (some ((0 : Int32), σ))
def Ki_makeArrow (F : Nat) (σ : zS) (x1 : Int32) (x2 : Int32) : Option (Int32 × zS) :=
  if (gi σ 306) < (1713 : Int32) then (gd (inb (gi σ 306) 1713) (some ((((gi σ 306) + (1 : Int32)) - (1 : Int32)), (si (sa (sa (sa σ 23 (gi σ 306).toNatClampNeg x1) 24 (gi σ 306).toNatClampNeg x2) 25 (gi σ 306).toNatClampNeg (-1 : Int32)) 306 ((gi σ 306) + (1 : Int32))))))
  else (some ((0 : Int32), σ))
def Ki_find_34 (F : Nat) (σ : zS) (x2 : Int32) : Option (Int32 × zS) :=
  some (x2, σ)
def Ki_find_b4 (F : Nat) (rc4 : zS → Int32 → Int32 → Option (Int32 × zS)) (σ : zS) (x2 : Int32) (x3 : Int32) : Option (Int32 × zS) :=
  if (1713 : Int32) ≤ x3 then (Ki_find_34 F σ x2)
  else (gd (inb x2 1713) (if (ga σ 25 x2.toNatClampNeg) = (-1 : Int32) then (Ki_find_34 F σ x2)
  else (rc4 σ (ga σ 25 x2.toNatClampNeg) (x3 + (1 : Int32)))))
def Ki_find_4 (F : Nat) : Nat → zS → Int32 → Int32 → Option (Int32 × zS)
  | 0, _, _, _ => none
  | n + 1, σ, x2, x3 => Ki_find_b4 F (Ki_find_4 F n) σ x2 x3
def Ki_find (F : Nat) (σ : zS) (x1 : Int32) : Option (Int32 × zS) :=
  Ki_find_4 F F σ x1 (0 : Int32)
def Ki_isOpen_19 (F : Nat) (σ : zS) (s0 : Int32) : Option (Int32 × zS) :=
  gd (isB s0) (some (s0, σ))
def Ki_isOpen_18 (F : Nat) (σ : zS) : Option (Int32 × zS) :=
  Ki_isOpen_19 F σ (0 : Int32)
def Ki_isOpen (F : Nat) (σ : zS) (x1 : Int32) : Option (Int32 × zS) :=
  if x1 = 0 then (Ki_isOpen_18 F σ)
  else (gd (inb x1 1713) (if (ga σ 23 x1.toNatClampNeg) = (-1 : Int32) then (Ki_isOpen_19 F σ (1 : Int32))
  else (Ki_isOpen_18 F σ)))
def Ki_isArrow_19 (F : Nat) (σ : zS) (s0 : Int32) : Option (Int32 × zS) :=
  gd (isB s0) (some (s0, σ))
def Ki_isArrow_18 (F : Nat) (σ : zS) : Option (Int32 × zS) :=
  Ki_isArrow_19 F σ (0 : Int32)
def Ki_isArrow (F : Nat) (σ : zS) (x1 : Int32) : Option (Int32 × zS) :=
  if x1 = 0 then (Ki_isArrow_18 F σ)
  else (gd (inb x1 1713) (if (ga σ 23 x1.toNatClampNeg) = (-1 : Int32) then (Ki_isArrow_18 F σ)
  else (Ki_isArrow_19 F σ (1 : Int32))))
def Ki_push_32 (F : Nat) (σ : zS) : Option zS :=
  some σ
def Ki_push (F : Nat) (σ : zS) (x1 : Int32) : Option zS :=
  if (3434 : Int32) ≤ (gi σ 309) then (Ki_push_32 F σ)
  else (gd (inb (gi σ 309) 3434) (Ki_push_32 F (si (sa σ 28 (gi σ 309).toNatClampNeg x1) 309 ((gi σ 309) + (1 : Int32)))))
def Ki_pop (F : Nat) (σ : zS) : Option (Int32 × zS) :=
  if (gi σ 309) = 0 then (some ((0 : Int32), σ))
  else (gd (inb ((gi σ 309) - (1 : Int32)) 3434) (some ((ga σ 28 ((gi σ 309) - (1 : Int32)).toNatClampNeg), (si σ 309 ((gi σ 309) - (1 : Int32))))))
def Ki_clearMarks (F : Nat) (σ : zS) : Option zS :=
  bv (Ar_fill F σ 26 (0 : Int32) (gi σ 306) (0 : Int32)) (fun σ1 => some σ1)
def Ki_hasRing_153 (F : Nat) (σ : zS) : Option (Int32 × zS) :=
  some ((0 : Int32), σ)
def Ki_hasRing_147 (F : Nat) (rc20 : zS → Int32 → Option (Int32 × zS)) (σ : zS) (x2 : Int32) : Option (Int32 × zS) :=
  rc20 σ (x2 + (1 : Int32))
def Ki_hasRing_128 (F : Nat) (σ : zS) : Option (Int32 × zS) :=
  some ((1 : Int32), σ)
def Ki_hasRing_b20 (F : Nat) (rc20 : zS → Int32 → Option (Int32 × zS)) (σ : zS) (x2 : Int32) : Option (Int32 × zS) :=
  if (1000000 : Int32) ≤ x2 then (Ki_hasRing_153 F σ)
  else (if (gi σ 309) ≤ 0 then (Ki_hasRing_153 F σ)
  else (bi (Ki_pop F σ) (fun r4 σ3 => gd (inb r4 1713) (if (ga σ3 26 r4.toNatClampNeg) = (1 : Int32) then (Ki_hasRing_147 F rc20 (sa σ3 26 r4.toNatClampNeg (2 : Int32)) x2)
  else (if (ga σ3 26 r4.toNatClampNeg) = 0 then (bi (Ki_isArrow F σ3 r4) (fun r10 σ9 => if r10 = 0 then (Ki_hasRing_147 F rc20 σ9 x2)
  else (bi (Ki_find F (sa σ9 26 r4.toNatClampNeg (1 : Int32)) (ga σ9 23 r4.toNatClampNeg)) (fun r14 σ13 => bi (Ki_find F σ13 (ga σ13 24 r4.toNatClampNeg)) (fun r17 σ16 => gd (inb r14 1713) (if (ga σ16 26 r14.toNatClampNeg) = (1 : Int32) then (Ki_hasRing_128 F σ16)
  else (gd (inb r17 1713) (if (ga σ16 26 r17.toNatClampNeg) = (1 : Int32) then (Ki_hasRing_128 F σ16)
  else (bv (Ki_push F σ16 r4) (fun σ23 => bv (Ki_push F σ23 r17) (fun σ25 => bv (Ki_push F σ25 r14) (fun σ27 => Ki_hasRing_147 F rc20 σ27 x2))))))))))))
  else (Ki_hasRing_147 F rc20 σ3 x2))))))
def Ki_hasRing_20 (F : Nat) : Nat → zS → Int32 → Option (Int32 × zS)
  | 0, _, _ => none
  | n + 1, σ, x2 => Ki_hasRing_b20 F (Ki_hasRing_20 F n) σ x2
def Ki_hasRing (F : Nat) (σ : zS) (x1 : Int32) : Option (Int32 × zS) :=
  bv (Ki_clearMarks F σ) (fun σ1 => bi (Ki_find F (si σ1 309 (0 : Int32)) x1) (fun r4 σ3 => bv (Ki_push F σ3 r4) (fun σ6 => Ki_hasRing_20 F F σ6 (0 : Int32))))
def Ki_join_37 (F : Nat) (σ : zS) : Option zS :=
  some σ
def Ki_join (F : Nat) (σ : zS) (x1 : Int32) (x2 : Int32) : Option zS :=
  gd (inb x1 1713) (if (1713 : Int32) ≤ (gi σ 308) then (Ki_join_37 F (sa σ 25 x1.toNatClampNeg x2))
  else (gd (inb (gi σ 308) 1713) (Ki_join_37 F (si (sa (sa σ 25 x1.toNatClampNeg x2) 27 (gi σ 308).toNatClampNeg x1) 308 ((gi σ 308) + (1 : Int32))))))
def Ki_merge_55 (F : Nat) (σ : zS) : Option (Int32 × zS) :=
  some ((0 : Int32), σ)
def Ki_merge (F : Nat) (σ : zS) (x1 : Int32) (x2 : Int32) : Option (Int32 × zS) :=
  if x1 = x2 then (some ((1 : Int32), σ))
  else (bi (Ki_isOpen F σ x2) (fun r3 σ2 => if r3 = 0 then (bi (Ki_isOpen F σ2 x1) (fun r7 σ6 => if r7 = 0 then (bi (Ki_isArrow F σ6 x1) (fun r11 σ10 => if r11 = 0 then (Ki_merge_55 F σ10)
  else (bi (Ki_isArrow F σ10 x2) (fun r15 σ14 => if r15 = 0 then (Ki_merge_55 F σ14)
  else (bv (Ki_join F σ14 x2 x1) (fun σ18 => gd (inb x1 1713) (bv (Ki_push F σ18 (ga σ18 23 x1.toNatClampNeg)) (fun σ21 => gd (inb x2 1713) (bv (Ki_push F σ21 (ga σ21 23 x2.toNatClampNeg)) (fun σ24 => bv (Ki_push F σ24 (ga σ24 24 x1.toNatClampNeg)) (fun σ26 => bv (Ki_push F σ26 (ga σ26 24 x2.toNatClampNeg)) (fun σ28 => some ((1 : Int32), σ28)))))))))))))
  else (bv (Ki_join F σ6 x1 x2) (fun σ30 => some ((1 : Int32), σ30)))))
  else (bv (Ki_join F σ2 x2 x1) (fun σ32 => some ((1 : Int32), σ32)))))
def Ki_unify_b105 (F : Nat) (rc105 : zS → Int32 → Option (Int32 × zS)) (σ : zS) (x4 : Int32) : Option (Int32 × zS) :=
  if (gi σ 308) ≤ x4 then (some ((0 : Int32), σ))
  else (gd (inb x4 1713) (gd (inb (ga σ 27 x4.toNatClampNeg) 1713) (rc105 (sa σ 25 (ga σ 27 x4.toNatClampNeg).toNatClampNeg (-1 : Int32)) (x4 + (1 : Int32)))))
def Ki_unify_105 (F : Nat) : Nat → zS → Int32 → Option (Int32 × zS)
  | 0, _, _ => none
  | n + 1, σ, x4 => Ki_unify_b105 F (Ki_unify_105 F n) σ x4
def Ki_unify_102 (F : Nat) (σ : zS) : Option (Int32 × zS) :=
  Ki_unify_105 F F σ (0 : Int32)
def Ki_unify_88 (F : Nat) (σ : zS) (x1 : Int32) (x3 : Int32) : Option (Int32 × zS) :=
  if x3 = 0 then (Ki_unify_102 F σ)
  else (bi (Ki_hasRing F σ x1) (fun r3 σ2 => if r3 = 0 then (some ((1 : Int32), σ2))
  else (Ki_unify_102 F σ2)))
def Ki_unify_b25 (F : Nat) (rc25 : zS → Int32 → Int32 → Int32 → Option (Int32 × zS)) (σ : zS) (x1 : Int32) (x3 : Int32) (x4 : Int32) : Option (Int32 × zS) :=
  if (1000000 : Int32) ≤ x4 then (Ki_unify_88 F σ x1 x3)
  else (if (gi σ 309) ≤ 0 then (Ki_unify_88 F σ x1 x3)
  else (if x3 = 0 then (Ki_unify_88 F σ x1 x3)
  else (bi (Ki_pop F σ) (fun r5 σ4 => bi (Ki_find F σ4 r5) (fun r8 σ7 => bi (Ki_pop F σ7) (fun r11 σ10 => bi (Ki_find F σ10 r11) (fun r14 σ13 => bi (Ki_merge F σ13 (if r14 < r8 then r14 else r8) (if r8 < r14 then r14 else r8)) (fun r17 σ16 => rc25 σ16 x1 r17 (x4 + (1 : Int32))))))))))
def Ki_unify_25 (F : Nat) : Nat → zS → Int32 → Int32 → Int32 → Option (Int32 × zS)
  | 0, _, _, _, _ => none
  | n + 1, σ, x1, x3, x4 => Ki_unify_b25 F (Ki_unify_25 F n) σ x1 x3 x4
def Ki_unify (F : Nat) (σ : zS) (x1 : Int32) (x2 : Int32) : Option (Int32 × zS) :=
  bv (Ki_push F (si (si σ 308 (0 : Int32)) 309 (0 : Int32)) x1) (fun σ1 => bv (Ki_push F σ1 x2) (fun σ3 => Ki_unify_25 F F σ3 x1 (1 : Int32) (0 : Int32)))
def Ki_letter_131 (F : Nat) (σ : zS) (x2 : Int32) : Option (Int32 × zS) :=
  some (((gi σ 310) - x2), σ)
def Ki_letter_125 (F : Nat) (rc17 : zS → Int32 → Int32 → Option (Int32 × zS)) (σ : zS) (x2 : Int32) (x3 : Int32) : Option (Int32 × zS) :=
  rc17 σ x2 (x3 + (1 : Int32))
def Ki_letter_b17 (F : Nat) (rc17 : zS → Int32 → Int32 → Option (Int32 × zS)) (σ : zS) (x2 : Int32) (x3 : Int32) : Option (Int32 × zS) :=
  if (1000000 : Int32) ≤ x3 then (Ki_letter_131 F σ x2)
  else (if (gi σ 309) ≤ 0 then (Ki_letter_131 F σ x2)
  else (bi (Ki_pop F σ) (fun r4 σ3 => bi (Ki_find F σ3 r4) (fun r7 σ6 => gd (inb r7 1713) (if (ga σ6 26 r7.toNatClampNeg) = 0 then (bi (Ki_isOpen F (sa σ6 26 r7.toNatClampNeg (1 : Int32)) r7) (fun r12 σ11 => if r12 = 0 then (bi (Ki_isArrow F σ11 r7) (fun r16 σ15 => if r16 = 0 then (Ki_letter_125 F rc17 σ15 x2 x3)
  else (bv (Ki_push F σ15 (ga σ15 24 r7.toNatClampNeg)) (fun σ19 => bv (Ki_push F σ19 (ga σ19 23 r7.toNatClampNeg)) (fun σ21 => Ki_letter_125 F rc17 σ21 x2 x3)))))
  else (Ki_letter_125 F rc17 (sa (si σ11 310 ((gi σ11 310) + (1 : Int32))) 26 r7.toNatClampNeg ((gi σ11 310) + (1 : Int32))) x2 x3)))
  else (Ki_letter_125 F rc17 σ6 x2 x3))))))
def Ki_letter_17 (F : Nat) : Nat → zS → Int32 → Int32 → Option (Int32 × zS)
  | 0, _, _, _ => none
  | n + 1, σ, x2, x3 => Ki_letter_b17 F (Ki_letter_17 F n) σ x2 x3
def Ki_letter (F : Nat) (σ : zS) (x1 : Int32) : Option (Int32 × zS) :=
  bv (Ki_push F (si σ 309 (0 : Int32)) x1) (fun σ1 => Ki_letter_17 F F σ1 (gi σ 310) (0 : Int32))
def Ki_hasOpen_22 (F : Nat) (σ : zS) (s0 : Int32) : Option (Int32 × zS) :=
  gd (isB s0) (some (s0, σ))
def Ki_hasOpen (F : Nat) (σ : zS) (x1 : Int32) : Option (Int32 × zS) :=
  bv (Ki_clearMarks F σ) (fun σ1 => bi (Ki_letter F (si σ1 310 (0 : Int32)) x1) (fun r4 σ3 => if r4 ≤ 0 then (Ki_hasOpen_22 F σ3 (0 : Int32))
  else (Ki_hasOpen_22 F σ3 (1 : Int32))))
def Ki_show_202 (F : Nat) (σ : zS) : Option zS :=
  some σ
def Ki_show_196 (F : Nat) (rc19 : zS → Nat → Int32 → Int32 → Option zS) (σ : zS) (x2 : Nat) (x3 : Int32) (x4 : Int32) : Option zS :=
  rc19 σ x2 x3 (x4 + (1 : Int32))
def Ki_show_175 (F : Nat) (rc19 : zS → Nat → Int32 → Int32 → Option zS) (σ : zS) (x2 : Nat) (x3 : Int32) (x4 : Int32) (x6 : Int32) : Option zS :=
  gd (isLine x2) (bv (Li_putArrow F σ x2) (fun σ1 => gd (inb x6 1713) (bi (Ki_find F σ1 (ga σ1 24 x6.toNatClampNeg)) (fun r6 σ5 => bv (Ki_push F σ5 (r6 <<< ((1 : Int32) &&& 31))) (fun σ8 => Ki_show_196 F rc19 σ8 x2 x3 x4)))))
def Ki_show_141 (F : Nat) (rc19 : zS → Nat → Int32 → Int32 → Option zS) (σ : zS) (x2 : Nat) (x3 : Int32) (x4 : Int32) (x5 : Int32) (x7 : Int32) : Option zS :=
  bv (Ki_push F σ (x5 ||| (1 : Int32))) (fun σ1 => bv (Ki_push F σ1 (x7 <<< ((1 : Int32) &&& 31))) (fun σ3 => Ki_show_196 F rc19 σ3 x2 x3 x4))
def Ki_show_100 (F : Nat) (rc19 : zS → Nat → Int32 → Int32 → Option zS) (σ : zS) (x2 : Nat) (x3 : Int32) (x4 : Int32) (s0 : Nat) (s1 : Int32) : Option zS :=
  gd (isLine s0) (bv (Li_put F σ s0 s1) (fun σ1 => Ki_show_196 F rc19 σ1 x2 x3 x4))
def Ki_show_98 (F : Nat) (rc19 : zS → Nat → Int32 → Int32 → Option zS) (σ : zS) (x2 : Nat) (x3 : Int32) (x4 : Int32) (s0 : Nat) : Option zS :=
  Ki_show_100 F rc19 σ x2 x3 x4 s0 (42 : Int32)
def Ki_show_b19 (F : Nat) (rc19 : zS → Nat → Int32 → Int32 → Option zS) (σ : zS) (x2 : Nat) (x3 : Int32) (x4 : Int32) : Option zS :=
  if (1000000 : Int32) ≤ x4 then (Ki_show_202 F σ)
  else (if (gi σ 309) ≤ 0 then (Ki_show_202 F σ)
  else (gd (isLine x2) (if (2000 : Int32) < (mi σ (100 * x2 + 1)) then (Ki_show_202 F σ)
  else (bi (Ki_pop F σ) (fun r6 σ5 => bi (Ki_isArrow F σ5 (r6 >>> ((1 : Int32) &&& 31))) (fun r9 σ8 => if r9 = 0 then (if x3 = 0 then (Ki_show_98 F rc19 σ8 x2 x3 x4 x2)
  else (bi (Ki_isOpen F σ8 (r6 >>> ((1 : Int32) &&& 31))) (fun r31 σ30 => if r31 = 0 then (Ki_show_98 F rc19 σ30 x2 x3 x4 x2)
  else (gd (inb (r6 >>> ((1 : Int32) &&& 31)) 1713) (Ki_show_100 F rc19 σ30 x2 x3 x4 x2 (((97 : Int32) + (if (26 : Int32) < (ga σ30 26 (r6 >>> ((1 : Int32) &&& 31)).toNatClampNeg) then (26 : Int32) else (ga σ30 26 (r6 >>> ((1 : Int32) &&& 31)).toNatClampNeg))) - (1 : Int32)))))))
  else (gd (inb (r6 >>> ((1 : Int32) &&& 31)) 1713) (bi (Ki_find F σ8 (ga σ8 23 (r6 >>> ((1 : Int32) &&& 31)).toNatClampNeg)) (fun r14 σ13 => if (r6 &&& (1 : Int32)) = 0 then (bi (Ki_isArrow F σ13 r14) (fun r24 σ23 => if r24 = 0 then (Ki_show_141 F rc19 σ23 x2 x3 x4 r6 r14)
  else (bv (Li_put F σ23 x2 (40 : Int32)) (fun σ27 => Ki_show_141 F rc19 σ27 x2 x3 x4 r6 r14))))
  else (bi (Ki_isArrow F σ13 r14) (fun r18 σ17 => if r18 = 0 then (Ki_show_175 F rc19 σ17 x2 x3 x4 (r6 >>> ((1 : Int32) &&& 31)))
  else (bv (Li_put F σ17 x2 (41 : Int32)) (fun σ21 => Ki_show_175 F rc19 σ21 x2 x3 x4 (r6 >>> ((1 : Int32) &&& 31)))))))))))))))
def Ki_show_19 (F : Nat) : Nat → zS → Nat → Int32 → Int32 → Option zS
  | 0, _, _, _, _ => none
  | n + 1, σ, x2, x3, x4 => Ki_show_b19 F (Ki_show_19 F n) σ x2 x3 x4
def Ki_show (F : Nat) (σ : zS) (x1 : Int32) (x2 : Nat) (x3 : Int32) : Option zS :=
  bi (Ki_find F (si σ 309 (0 : Int32)) x1) (fun r2 σ1 => bv (Ki_push F σ1 (r2 <<< ((1 : Int32) &&& 31))) (fun σ4 => Ki_show_19 F F σ4 x2 x3 (0 : Int32)))
def Ki_showSides (F : Nat) (σ : zS) (x1 : Int32) (x2 : Int32) : Option zS :=
  bv (Ki_clearMarks F σ) (fun σ1 => bi (Ki_letter F (si σ1 310 (0 : Int32)) x1) (fun r4 σ3 => bi (Ki_letter F σ3 x2) (fun r7 σ6 => gd (isLine 15) (bv (Li_clear F σ6 15) (fun σ9 => gd (isLine 16) (bv (Li_clear F σ9 16) (fun σ12 => bv (Ki_show F σ12 x1 15 (1 : Int32)) (fun σ15 => bv (Ki_show F σ15 x2 16 (1 : Int32)) (fun σ17 => some σ17)))))))))
def Ki_closeGroup_38 (F : Nat) (rc5 : zS → Int32 → Option zS) (σ : zS) (x1 : Int32) : Option zS :=
  rc5 σ (x1 + (1 : Int32))
def Ki_closeGroup_b5 (F : Nat) (rc5 : zS → Int32 → Option zS) (σ : zS) (x1 : Int32) : Option zS :=
  if (gi σ 306) ≤ x1 then (some (si σ 307 (gi σ 306)))
  else (bi (Ki_isOpen F σ x1) (fun r3 σ2 => if r3 = 0 then (Ki_closeGroup_38 F rc5 σ2 x1)
  else (gd (inb x1 1713) (if (ga σ2 25 x1.toNatClampNeg) = (-1 : Int32) then (Ki_closeGroup_38 F rc5 (sa σ2 25 x1.toNatClampNeg (0 : Int32)) x1)
  else (Ki_closeGroup_38 F rc5 σ2 x1)))))
def Ki_closeGroup_5 (F : Nat) : Nat → zS → Int32 → Option zS
  | 0, _, _ => none
  | n + 1, σ, x1 => Ki_closeGroup_b5 F (Ki_closeGroup_5 F n) σ x1
def Ki_closeGroup (F : Nat) (σ : zS) : Option zS :=
  Ki_closeGroup_5 F F σ (gi σ 307)
def Ki_dropAsked (F : Nat) (σ : zS) : Option zS :=
  some (si σ 306 (gi σ 307))
def Ro_clear (F : Nat) (σ : zS) (x0 : Nat) : Option zS :=
  gd (isRow x0) (some (ti (ti σ (100 * x0 + 4) (0 : Int32)) (100 * x0 + 7) (0 : Int32)))
def Ro_isFull_15 (F : Nat) (σ : zS) (s0 : Int32) : Option (Int32 × zS) :=
  gd (isB s0) (some (s0, σ))
def Ro_isFull (F : Nat) (σ : zS) (x0 : Nat) : Option (Int32 × zS) :=
  gd (isRow x0) (if (mi σ (100 * x0 + 4)) < (200 : Int32) then (Ro_isFull_15 F σ (0 : Int32))
  else (Ro_isFull_15 F σ (1 : Int32)))
def Ro_beginTerm (F : Nat) (σ : zS) (x0 : Nat) (x1 : Int32) : Option (Int32 × zS) :=
  gd (isRow x0) (if (mi σ (100 * x0 + 7)) ≤ (200 : Int32) then (gd (inb (mi σ (100 * x0 + 7)) 201) (some ((1 : Int32), (ti (ta (ta σ (rA x0 4) (mi σ (100 * x0 + 7)).toNatClampNeg (mi σ (100 * x0 + 4))) (rA x0 5) (mi σ (100 * x0 + 7)).toNatClampNeg x1) (100 * x0 + 7) ((mi σ (100 * x0 + 7)) + (1 : Int32))))))
  else (some ((0 : Int32), σ)))
def Ro_termEnd_25 (F : Nat) (σ : zS) (s0 : Int32) : Option (Int32 × zS) :=
  some (s0, σ)
def Ro_termEnd (F : Nat) (σ : zS) (x0 : Nat) (x1 : Int32) : Option (Int32 × zS) :=
  gd (isRow x0) (if (mi σ (100 * x0 + 7)) ≤ (x1 + (1 : Int32)) then (Ro_termEnd_25 F σ (mi σ (100 * x0 + 4)))
  else (gd (inb (x1 + (1 : Int32)) 201) (Ro_termEnd_25 F σ (ma σ (rA x0 4) (x1 + (1 : Int32)).toNatClampNeg))))
def Ro_termOf_b2 (F : Nat) (rc2 : zS → Nat → Int32 → Int32 → Option (Int32 × zS)) (σ : zS) (x0 : Nat) (x1 : Int32) (x2 : Int32) : Option (Int32 × zS) :=
  gd (isRow x0) (if (mi σ (100 * x0 + 7)) ≤ x2 then (some ((0 : Int32), σ))
  else (gd (inb x2 201) (if (ma σ (rA x0 5) x2.toNatClampNeg) = x1 then (some (x2, σ))
  else (rc2 σ x0 x1 (x2 + (1 : Int32))))))
def Ro_termOf_2 (F : Nat) : Nat → zS → Nat → Int32 → Int32 → Option (Int32 × zS)
  | 0, _, _, _, _ => none
  | n + 1, σ, x0, x1, x2 => Ro_termOf_b2 F (Ro_termOf_2 F n) σ x0 x1 x2
def Ro_termOf (F : Nat) (σ : zS) (x0 : Nat) (x1 : Int32) : Option (Int32 × zS) :=
  Ro_termOf_2 F F σ x0 x1 (0 : Int32)
def Ro_add (F : Nat) (σ : zS) (x0 : Nat) (x1 : Int32) (x2 : Int64) (x4 : Int32) (x5 : Int32) : Option (Int32 × zS) :=
  gd (isRow x0) (if (mi σ (100 * x0 + 4)) < (200 : Int32) then (gd (inb (mi σ (100 * x0 + 4)) 200) (some ((1 : Int32), (ti (ta (ta (tb (ta σ (rA x0 0) (mi σ (100 * x0 + 4)).toNatClampNeg x1) (rA x0 1) (mi σ (100 * x0 + 4)).toNatClampNeg x2) (rA x0 2) (mi σ (100 * x0 + 4)).toNatClampNeg x4) (rA x0 3) (mi σ (100 * x0 + 4)).toNatClampNeg x5) (100 * x0 + 4) ((mi σ (100 * x0 + 4)) + (1 : Int32))))))
  else (some ((0 : Int32), σ)))
def Ro_insertArrow_18 (F : Nat) (σ : zS) : Option zS :=
  some σ
def Ro_insertArrow (F : Nat) (σ : zS) (x0 : Nat) (x1 : Int32) : Option zS :=
  gd (isRow x0) (bi (Ro_isFull F σ x0) (fun r3 σ2 => if r3 = 0 then (if 0 < ((mi σ (100 * x0 + 4)) - x1) then (gd (cpG x1 (x1 + (1 : Int32)) ((mi σ (100 * x0 + 4)) - x1) 200 200) (gd (inb x1 200) (some (ti (ta (tb (ta (tA (tA (tB (tA σ2 (rA x0 0) (va_cpy (ma σ2 (rA x0 0)) (ma σ2 (rA x0 0)) x1.toNatClampNeg (x1 + (1 : Int32)).toNatClampNeg ((mi σ (100 * x0 + 4)) - x1).toNatClampNeg)) (rA x0 1) (va_cpy (mb σ2 (rA x0 1)) (mb σ2 (rA x0 1)) x1.toNatClampNeg (x1 + (1 : Int32)).toNatClampNeg ((mi σ (100 * x0 + 4)) - x1).toNatClampNeg)) (rA x0 2) (va_cpy (ma (tA σ2 (rA x0 0) (va_cpy (ma σ2 (rA x0 0)) (ma σ2 (rA x0 0)) x1.toNatClampNeg (x1 + (1 : Int32)).toNatClampNeg ((mi σ (100 * x0 + 4)) - x1).toNatClampNeg)) (rA x0 2)) (ma (tA σ2 (rA x0 0) (va_cpy (ma σ2 (rA x0 0)) (ma σ2 (rA x0 0)) x1.toNatClampNeg (x1 + (1 : Int32)).toNatClampNeg ((mi σ (100 * x0 + 4)) - x1).toNatClampNeg)) (rA x0 2)) x1.toNatClampNeg (x1 + (1 : Int32)).toNatClampNeg ((mi σ (100 * x0 + 4)) - x1).toNatClampNeg)) (rA x0 3) (va_cpy (ma (tA (tB (tA σ2 (rA x0 0) (va_cpy (ma σ2 (rA x0 0)) (ma σ2 (rA x0 0)) x1.toNatClampNeg (x1 + (1 : Int32)).toNatClampNeg ((mi σ (100 * x0 + 4)) - x1).toNatClampNeg)) (rA x0 1) (va_cpy (mb σ2 (rA x0 1)) (mb σ2 (rA x0 1)) x1.toNatClampNeg (x1 + (1 : Int32)).toNatClampNeg ((mi σ (100 * x0 + 4)) - x1).toNatClampNeg)) (rA x0 2) (va_cpy (ma (tA σ2 (rA x0 0) (va_cpy (ma σ2 (rA x0 0)) (ma σ2 (rA x0 0)) x1.toNatClampNeg (x1 + (1 : Int32)).toNatClampNeg ((mi σ (100 * x0 + 4)) - x1).toNatClampNeg)) (rA x0 2)) (ma (tA σ2 (rA x0 0) (va_cpy (ma σ2 (rA x0 0)) (ma σ2 (rA x0 0)) x1.toNatClampNeg (x1 + (1 : Int32)).toNatClampNeg ((mi σ (100 * x0 + 4)) - x1).toNatClampNeg)) (rA x0 2)) x1.toNatClampNeg (x1 + (1 : Int32)).toNatClampNeg ((mi σ (100 * x0 + 4)) - x1).toNatClampNeg)) (rA x0 3)) (ma (tA (tB (tA σ2 (rA x0 0) (va_cpy (ma σ2 (rA x0 0)) (ma σ2 (rA x0 0)) x1.toNatClampNeg (x1 + (1 : Int32)).toNatClampNeg ((mi σ (100 * x0 + 4)) - x1).toNatClampNeg)) (rA x0 1) (va_cpy (mb σ2 (rA x0 1)) (mb σ2 (rA x0 1)) x1.toNatClampNeg (x1 + (1 : Int32)).toNatClampNeg ((mi σ (100 * x0 + 4)) - x1).toNatClampNeg)) (rA x0 2) (va_cpy (ma (tA σ2 (rA x0 0) (va_cpy (ma σ2 (rA x0 0)) (ma σ2 (rA x0 0)) x1.toNatClampNeg (x1 + (1 : Int32)).toNatClampNeg ((mi σ (100 * x0 + 4)) - x1).toNatClampNeg)) (rA x0 2)) (ma (tA σ2 (rA x0 0) (va_cpy (ma σ2 (rA x0 0)) (ma σ2 (rA x0 0)) x1.toNatClampNeg (x1 + (1 : Int32)).toNatClampNeg ((mi σ (100 * x0 + 4)) - x1).toNatClampNeg)) (rA x0 2)) x1.toNatClampNeg (x1 + (1 : Int32)).toNatClampNeg ((mi σ (100 * x0 + 4)) - x1).toNatClampNeg)) (rA x0 3)) x1.toNatClampNeg (x1 + (1 : Int32)).toNatClampNeg ((mi σ (100 * x0 + 4)) - x1).toNatClampNeg)) (rA x0 0) x1.toNatClampNeg (45 : Int32)) (rA x0 1) x1.toNatClampNeg (0 : Int64)) (rA x0 2) x1.toNatClampNeg (2 : Int32)) (100 * x0 + 4) ((mi σ2 (100 * x0 + 4)) + (1 : Int32))))))
  else (Ro_insertArrow_18 F σ2))
  else (Ro_insertArrow_18 F σ2)))
def Ro_fixedOf_29 (F : Nat) (σ : zS) (s0 : Int32) : Option (Int32 × zS) :=
  some (s0, σ)
def Ro_fixedOf (F : Nat) (σ : zS) (x0 : Nat) (x1 : Int32) : Option (Int32 × zS) :=
  gd (isRow x0) (gd (inb x1 200) (if (ma σ (rA x0 0) x1.toNatClampNeg) = (45 : Int32) then (some ((2 : Int32), σ))
  else (if (ma σ (rA x0 0) x1.toNatClampNeg) = (91 : Int32) then (Ro_fixedOf_29 F σ (1 : Int32))
  else (Ro_fixedOf_29 F σ (0 : Int32)))))
def Ro_endOf_33 (F : Nat) (σ : zS) (x3 : Int32) : Option (Int32 × zS) :=
  some (x3, σ)
def Ro_endOf_b4 (F : Nat) (rc4 : zS → Nat → Int32 → Int32 → Option (Int32 × zS)) (σ : zS) (x0 : Nat) (x2 : Int32) (x3 : Int32) : Option (Int32 × zS) :=
  gd (isRow x0) (if (mi σ (100 * x0 + 4)) ≤ x3 then (Ro_endOf_33 F σ x3)
  else (if x2 ≤ 0 then (Ro_endOf_33 F σ x3)
  else (gd (inb x3 200) (rc4 σ x0 (x2 + ((ma σ (rA x0 2) x3.toNatClampNeg) - (1 : Int32))) (x3 + (1 : Int32))))))
def Ro_endOf_4 (F : Nat) : Nat → zS → Nat → Int32 → Int32 → Option (Int32 × zS)
  | 0, _, _, _, _ => none
  | n + 1, σ, x0, x2, x3 => Ro_endOf_b4 F (Ro_endOf_4 F n) σ x0 x2 x3
def Ro_endOf (F : Nat) (σ : zS) (x0 : Nat) (x1 : Int32) : Option (Int32 × zS) :=
  Ro_endOf_4 F F σ x0 (1 : Int32) x1
def Ro_isLike_69 (F : Nat) (σ : zS) : Option (Int32 × zS) :=
  some ((0 : Int32), σ)
def Ro_isLike_b15 (F : Nat) (rc15 : zS → Nat → Nat → Int32 → Option (Int32 × zS)) (σ : zS) (x0 : Nat) (x1 : Nat) (x2 : Int32) : Option (Int32 × zS) :=
  gd (isRow x0) (if (mi σ (100 * x0 + 4)) ≤ x2 then (some ((1 : Int32), σ))
  else (gd (inb x2 200) (gd (isRow x1) (if (ma σ (rA x0 0) x2.toNatClampNeg) = (ma σ (rA x1 0) x2.toNatClampNeg) then (if (lg_cmp (mb σ (rA x0 1) x2.toNatClampNeg) (mb σ (rA x1 1) x2.toNatClampNeg)) = 0 then (if (ma σ (rA x0 2) x2.toNatClampNeg) = (ma σ (rA x1 2) x2.toNatClampNeg) then (rc15 σ x0 x1 (x2 + (1 : Int32)))
  else (Ro_isLike_69 F σ))
  else (Ro_isLike_69 F σ))
  else (Ro_isLike_69 F σ)))))
def Ro_isLike_15 (F : Nat) : Nat → zS → Nat → Nat → Int32 → Option (Int32 × zS)
  | 0, _, _, _, _ => none
  | n + 1, σ, x0, x1, x2 => Ro_isLike_b15 F (Ro_isLike_15 F n) σ x0 x1 x2
def Ro_isLike (F : Nat) (σ : zS) (x0 : Nat) (x1 : Nat) : Option (Int32 × zS) :=
  gd (isRow x0) (gd (isRow x1) (if (mi σ (100 * x0 + 4)) = (mi σ (100 * x1 + 4)) then (Ro_isLike_15 F F σ x0 x1 (0 : Int32))
  else (some ((0 : Int32), σ))))
def Me_clear (F : Nat) (σ : zS) : Option zS :=
  some (si σ 505 (0 : Int32))
def Me_add_76 (F : Nat) (σ : zS) : Option zS :=
  some σ
def Me_add (F : Nat) (σ : zS) (x1 : Int32) (x2 : Int32) : Option zS :=
  if (600 : Int32) ≤ (gi σ 505) then (Me_add_76 F σ)
  else (gd (inb (gi σ 505) 600) (bi (Ta_name F (sa σ 43 (gi σ 505).toNatClampNeg x1)) (fun r4 σ3 => bi (Ta_start F (sb σ3 44 (gi σ 505).toNatClampNeg r4)) (fun r7 σ6 => gd (inb (gi σ3 505) 600) (gd (inb (gi σ6 505) 600) (Me_add_76 F (si (sa (sa (sa σ6 45 (gi σ3 505).toNatClampNeg r7) 46 (gi σ6 505).toNatClampNeg x2) 47 (gi σ6 505).toNatClampNeg (0 : Int32)) 505 ((gi σ6 505) + (1 : Int32)))))))))
def Me_setValue_15 (F : Nat) (σ : zS) : Option zS :=
  some σ
def Me_setValue (F : Nat) (σ : zS) (x1 : Int32) (x2 : Int32) : Option zS :=
  if (gi σ 505) ≤ x1 then (Me_setValue_15 F σ)
  else (gd (inb x1 600) (Me_setValue_15 F (sa σ 47 x1.toNatClampNeg x2)))
def Me_wasTold_75 (F : Nat) (rc2 : zS → Int32 → Int32 → Option (Int32 × zS)) (σ : zS) (x1 : Int32) (x2 : Int32) : Option (Int32 × zS) :=
  rc2 σ x1 (x2 + (1 : Int32))
def Me_wasTold_73 (F : Nat) (σ : zS) : Option (Int32 × zS) :=
  some ((1 : Int32), σ)
def Me_wasTold_43 (F : Nat) (rc2 : zS → Int32 → Int32 → Option (Int32 × zS)) (σ : zS) (x1 : Int32) (x2 : Int32) (s0 : Int32) : Option (Int32 × zS) :=
  if s0 = 0 then (Me_wasTold_75 F rc2 σ x1 x2)
  else (gd (inb x2 600) (if (ga σ 43 x2.toNatClampNeg) = (3 : Int32) then (gd (inb x1 600) (if (ga σ 46 x2.toNatClampNeg) = (ga σ 46 x1.toNatClampNeg) then (Me_wasTold_73 F σ)
  else (Me_wasTold_75 F rc2 σ x1 x2)))
  else (Me_wasTold_73 F σ)))
def Me_wasTold_42 (F : Nat) (rc2 : zS → Int32 → Int32 → Option (Int32 × zS)) (σ : zS) (x1 : Int32) (x2 : Int32) : Option (Int32 × zS) :=
  Me_wasTold_43 F rc2 σ x1 x2 (0 : Int32)
def Me_wasTold_b2 (F : Nat) (rc2 : zS → Int32 → Int32 → Option (Int32 × zS)) (σ : zS) (x1 : Int32) (x2 : Int32) : Option (Int32 × zS) :=
  if x1 ≤ x2 then (some ((0 : Int32), σ))
  else (gd (inb x2 600) (gd (inb x1 600) (if (ga σ 43 x2.toNatClampNeg) = (ga σ 43 x1.toNatClampNeg) then (if (lg_cmp (gb σ 44 x2.toNatClampNeg) (gb σ 44 x1.toNatClampNeg)) = 0 then (Me_wasTold_43 F rc2 σ x1 x2 (1 : Int32))
  else (Me_wasTold_42 F rc2 σ x1 x2))
  else (Me_wasTold_42 F rc2 σ x1 x2))))
def Me_wasTold_2 (F : Nat) : Nat → zS → Int32 → Int32 → Option (Int32 × zS)
  | 0, _, _, _ => none
  | n + 1, σ, x1, x2 => Me_wasTold_b2 F (Me_wasTold_2 F n) σ x1 x2
def Me_wasTold (F : Nat) (σ : zS) (x1 : Int32) : Option (Int32 × zS) :=
  Me_wasTold_2 F F σ x1 (0 : Int32)
def Te_clear (F : Nat) (σ : zS) : Option zS :=
  gd (isRow 10) (bv (Ro_clear F (si (si σ 400 (0 : Int32)) 412 (0 : Int32)) 10) (fun σ1 => some σ1))
def Te_has_17 (F : Nat) (σ : zS) (s0 : Int32) : Option (Int32 × zS) :=
  gd (isB s0) (some (s0, σ))
def Te_has_16 (F : Nat) (σ : zS) : Option (Int32 × zS) :=
  Te_has_17 F σ (0 : Int32)
def Te_has (F : Nat) (σ : zS) (x1 : Int32) : Option (Int32 × zS) :=
  if x1 < 0 then (Te_has_16 F σ)
  else (if (gi σ 400) ≤ x1 then (Te_has_16 F σ)
  else (Te_has_17 F σ (1 : Int32)))
def Te_declare_90 (F : Nat) (σ : zS) : Option zS :=
  some σ
def Te_declare (F : Nat) (σ : zS) (x1 : Int32) (x2 : Int64) (x4 : Int32) : Option zS :=
  if (16 : Int32) ≤ (gi σ 400) then (Te_declare_90 F σ)
  else (gd (inb (gi σ 400) 16) (Te_declare_90 F (si (sa (sa (sa (sa (sa (sb (sa σ 29 (gi σ 400).toNatClampNeg x1) 30 (gi σ 400).toNatClampNeg x2) 31 (gi σ 400).toNatClampNeg x4) 32 (gi σ 400).toNatClampNeg (0 : Int32)) 34 (gi σ 400).toNatClampNeg (0 : Int32)) 35 (gi σ 400).toNatClampNeg (0 : Int32)) 37 (gi σ 400).toNatClampNeg (0 : Int32)) 400 ((gi σ 400) + (1 : Int32)))))
def Te_addParam_36 (F : Nat) (σ : zS) : Option zS :=
  some σ
def Te_addParam (F : Nat) (σ : zS) (x1 : Int32) (x2 : Int64) : Option zS :=
  gd (inb x1 16) (if (3 : Int32) ≤ (ga σ 32 x1.toNatClampNeg) then (Te_addParam_36 F σ)
  else (gd (inb ((x1 * (3 : Int32)) + (ga σ 32 x1.toNatClampNeg)) 48) (Te_addParam_36 F (sa (sb σ 33 ((x1 * (3 : Int32)) + (ga σ 32 x1.toNatClampNeg)).toNatClampNeg x2) 32 x1.toNatClampNeg ((ga σ 32 x1.toNatClampNeg) + (1 : Int32))))))
def Te_findType_33 (F : Nat) (rc2 : zS → Int64 → Int32 → Option (Int32 × zS)) (σ : zS) (x1 : Int64) (x3 : Int32) : Option (Int32 × zS) :=
  rc2 σ x1 (x3 + (1 : Int32))
def Te_findType_b2 (F : Nat) (rc2 : zS → Int64 → Int32 → Option (Int32 × zS)) (σ : zS) (x1 : Int64) (x3 : Int32) : Option (Int32 × zS) :=
  if (gi σ 400) ≤ x3 then (some ((-1 : Int32), σ))
  else (gd (inb x3 16) (if (lg_cmp (gb σ 30 x3.toNatClampNeg) x1) = 0 then (if (ga σ 29 x3.toNatClampNeg) = (2 : Int32) then (Te_findType_33 F rc2 σ x1 x3)
  else (some (x3, σ)))
  else (Te_findType_33 F rc2 σ x1 x3)))
def Te_findType_2 (F : Nat) : Nat → zS → Int64 → Int32 → Option (Int32 × zS)
  | 0, _, _, _ => none
  | n + 1, σ, x1, x3 => Te_findType_b2 F (Te_findType_2 F n) σ x1 x3
def Te_findType (F : Nat) (σ : zS) (x1 : Int64) : Option (Int32 × zS) :=
  Te_findType_2 F F σ x1 (0 : Int32)
def Te_findDeclared_b2 (F : Nat) (rc2 : zS → Int64 → Int32 → Option (Int32 × zS)) (σ : zS) (x1 : Int64) (x3 : Int32) : Option (Int32 × zS) :=
  if (gi σ 400) ≤ x3 then (some ((-1 : Int32), σ))
  else (gd (inb x3 16) (if (lg_cmp (gb σ 30 x3.toNatClampNeg) x1) = 0 then (some (x3, σ))
  else (rc2 σ x1 (x3 + (1 : Int32)))))
def Te_findDeclared_2 (F : Nat) : Nat → zS → Int64 → Int32 → Option (Int32 × zS)
  | 0, _, _, _ => none
  | n + 1, σ, x1, x3 => Te_findDeclared_b2 F (Te_findDeclared_2 F n) σ x1 x3
def Te_findDeclared (F : Nat) (σ : zS) (x1 : Int64) : Option (Int32 × zS) :=
  Te_findDeclared_2 F F σ x1 (0 : Int32)
def Te_findParam_b3 (F : Nat) (rc3 : zS → Int32 → Int64 → Int32 → Option (Int32 × zS)) (σ : zS) (x1 : Int32) (x2 : Int64) (x4 : Int32) : Option (Int32 × zS) :=
  gd (inb x1 16) (if (ga σ 32 x1.toNatClampNeg) ≤ x4 then (some ((-1 : Int32), σ))
  else (gd (inb ((x1 * (3 : Int32)) + x4) 48) (if (lg_cmp (gb σ 33 ((x1 * (3 : Int32)) + x4).toNatClampNeg) x2) = 0 then (some (x4, σ))
  else (rc3 σ x1 x2 (x4 + (1 : Int32))))))
def Te_findParam_3 (F : Nat) : Nat → zS → Int32 → Int64 → Int32 → Option (Int32 × zS)
  | 0, _, _, _, _ => none
  | n + 1, σ, x1, x2, x4 => Te_findParam_b3 F (Te_findParam_3 F n) σ x1 x2 x4
def Te_findParam (F : Nat) (σ : zS) (x1 : Int32) (x2 : Int64) : Option (Int32 × zS) :=
  Te_findParam_3 F F σ x1 x2 (0 : Int32)
def Te_findSynonym_38 (F : Nat) (σ : zS) (s0 : Int32) : Option (Int32 × zS) :=
  some (s0, σ)
def Te_findSynonym_37 (F : Nat) (σ : zS) : Option (Int32 × zS) :=
  Te_findSynonym_38 F σ (-1 : Int32)
def Te_findSynonym_14 (F : Nat) (σ : zS) (s0 : Int32) : Option (Int32 × zS) :=
  if s0 < 0 then (Te_findSynonym_37 F σ)
  else (gd (inb s0 16) (if (ga σ 29 s0.toNatClampNeg) = (1 : Int32) then (Te_findSynonym_38 F σ s0)
  else (Te_findSynonym_37 F σ)))
def Te_findSynonym (F : Nat) (σ : zS) (x1 : Int32) (x2 : Int64) : Option (Int32 × zS) :=
  if x1 = (2 : Int32) then (bi (Te_findType F σ x2) (fun r3 σ2 => Te_findSynonym_14 F σ2 r3))
  else (Te_findSynonym_14 F σ (-1 : Int32))
def Te_closeMasks_39 (F : Nat) (rc2 : zS → Nat → Int32 → Option zS) (rc12 : zS → Nat → Int32 → Int32 → Option zS) (σ : zS) (x1 : Nat) (x2 : Int32) (x3 : Int32) : Option zS :=
  rc12 σ x1 x2 (x3 + (1 : Int32))
def Te_closeMasks_b12 (F : Nat) (rc2 : zS → Nat → Int32 → Option zS) (rc12 : zS → Nat → Int32 → Int32 → Option zS) (σ : zS) (x1 : Nat) (x2 : Int32) (x3 : Int32) : Option zS :=
  if (gi σ 400) ≤ x3 then (rc2 σ x1 (x2 + (1 : Int32)))
  else (gd (isMk x1) (gd (inb x3 16) (if (((ga σ x1 x3.toNatClampNeg) >>> (x2 &&& 31)) &&& (1 : Int32)) = 0 then (Te_closeMasks_39 F rc2 rc12 σ x1 x2 x3)
  else (gd (inb x2 16) (Te_closeMasks_39 F rc2 rc12 (sa σ x1 x3.toNatClampNeg ((ga σ x1 x3.toNatClampNeg) ||| (ga σ x1 x2.toNatClampNeg))) x1 x2 x3)))))
def Te_closeMasks_12 (F : Nat) (rc2 : zS → Nat → Int32 → Option zS) : Nat → zS → Nat → Int32 → Int32 → Option zS
  | 0, _, _, _, _ => none
  | n + 1, σ, x1, x2, x3 => Te_closeMasks_b12 F rc2 (Te_closeMasks_12 F rc2 n) σ x1 x2 x3
def Te_closeMasks_b2 (F : Nat) (rc2 : zS → Nat → Int32 → Option zS) (σ : zS) (x1 : Nat) (x2 : Int32) : Option zS :=
  if (gi σ 400) ≤ x2 then (some σ)
  else (Te_closeMasks_12 F rc2 F σ x1 x2 (0 : Int32))
def Te_closeMasks_2 (F : Nat) : Nat → zS → Nat → Int32 → Option zS
  | 0, _, _, _ => none
  | n + 1, σ, x1, x2 => Te_closeMasks_b2 F (Te_closeMasks_2 F n) σ x1 x2
def Te_closeMasks (F : Nat) (σ : zS) (x1 : Nat) : Option zS :=
  Te_closeMasks_2 F F σ x1 (0 : Int32)
def Te_ringOf_46 (F : Nat) (rc6 : zS → Int32 → Int32 → Int32 → Option (Int32 × zS)) (σ : zS) (x1 : Int32) (x2 : Int32) (x3 : Int32) : Option (Int32 × zS) :=
  rc6 σ x1 x2 (x3 + (1 : Int32))
def Te_ringOf_b6 (F : Nat) (rc6 : zS → Int32 → Int32 → Int32 → Option (Int32 × zS)) (σ : zS) (x1 : Int32) (x2 : Int32) (x3 : Int32) : Option (Int32 × zS) :=
  if (gi σ 400) ≤ x3 then (some (x2, σ))
  else (gd (inb x1 16) (if (((ga σ 38 x1.toNatClampNeg) >>> (x3 &&& 31)) &&& (1 : Int32)) = 0 then (Te_ringOf_46 F rc6 σ x1 x2 x3)
  else (gd (inb x3 16) (if (((ga σ 38 x3.toNatClampNeg) >>> (x1 &&& 31)) &&& (1 : Int32)) = 0 then (Te_ringOf_46 F rc6 σ x1 x2 x3)
  else (Te_ringOf_46 F rc6 σ x1 (x2 ||| ((1 : Int32) <<< (x3 &&& 31))) x3)))))
def Te_ringOf_6 (F : Nat) : Nat → zS → Int32 → Int32 → Int32 → Option (Int32 × zS)
  | 0, _, _, _, _ => none
  | n + 1, σ, x1, x2, x3 => Te_ringOf_b6 F (Te_ringOf_6 F n) σ x1 x2 x3
def Te_ringOf (F : Nat) (σ : zS) (x1 : Int32) : Option (Int32 × zS) :=
  Te_ringOf_6 F F σ x1 ((1 : Int32) <<< (x1 &&& 31)) (0 : Int32)
def Te_nextOf_51 (F : Nat) (rc2 : zS → Int32 → Int32 → Option (Int32 × zS)) (σ : zS) (x1 : Int32) (x2 : Int32) : Option (Int32 × zS) :=
  rc2 σ x1 (x2 + (1 : Int32))
def Te_nextOf_23 (F : Nat) (rc2 : zS → Int32 → Int32 → Option (Int32 × zS)) (σ : zS) (x1 : Int32) (x2 : Int32) (s0 : Int32) : Option (Int32 × zS) :=
  if s0 = 0 then (Te_nextOf_51 F rc2 σ x1 x2)
  else (gd (inb x2 16) (bi (Te_ringOf F σ x2) (fun r4 σ3 => if (((ga σ 38 x2.toNatClampNeg) &&& (r4 ^^^ (-1 : Int32))) &&& (x1 ^^^ (-1 : Int32))) = 0 then (some (x2, σ3))
  else (Te_nextOf_51 F rc2 σ3 x1 x2))))
def Te_nextOf_b2 (F : Nat) (rc2 : zS → Int32 → Int32 → Option (Int32 × zS)) (σ : zS) (x1 : Int32) (x2 : Int32) : Option (Int32 × zS) :=
  if (gi σ 400) ≤ x2 then (some ((-1 : Int32), σ))
  else (if ((x1 >>> (x2 &&& 31)) &&& (1 : Int32)) = 0 then (Te_nextOf_23 F rc2 σ x1 x2 (1 : Int32))
  else (Te_nextOf_23 F rc2 σ x1 x2 (0 : Int32)))
def Te_nextOf_2 (F : Nat) : Nat → zS → Int32 → Int32 → Option (Int32 × zS)
  | 0, _, _, _ => none
  | n + 1, σ, x1, x2 => Te_nextOf_b2 F (Te_nextOf_2 F n) σ x1 x2
def Te_nextOf (F : Nat) (σ : zS) (x1 : Int32) : Option (Int32 × zS) :=
  Te_nextOf_2 F F σ x1 (0 : Int32)
def Te_formGroups_88 (F : Nat) (rc29 : zS → Int32 → Int32 → Option zS) (rc58 : zS → Int32 → Int32 → Int32 → Int32 → Option zS) (σ : zS) (x1 : Int32) (x2 : Int32) (x4 : Int32) (x5 : Int32) : Option zS :=
  rc58 σ x1 x2 x4 (x5 + (1 : Int32))
def Te_formGroups_b58 (F : Nat) (rc29 : zS → Int32 → Int32 → Option zS) (rc58 : zS → Int32 → Int32 → Int32 → Int32 → Option zS) (σ : zS) (x1 : Int32) (x2 : Int32) (x4 : Int32) (x5 : Int32) : Option zS :=
  if (gi σ 400) ≤ x5 then (gd (inb (gi σ 412) 16) (rc29 (si (sa σ 39 (gi σ 412).toNatClampNeg x4) 412 ((gi σ 412) + (1 : Int32))) (x1 ||| x4) (x2 + (1 : Int32))))
  else (if ((x4 >>> (x5 &&& 31)) &&& (1 : Int32)) = 0 then (Te_formGroups_88 F rc29 rc58 σ x1 x2 x4 x5)
  else (gd (inb x5 16) (Te_formGroups_88 F rc29 rc58 (sa σ 36 x5.toNatClampNeg (gi σ 412)) x1 x2 x4 x5)))
def Te_formGroups_58 (F : Nat) (rc29 : zS → Int32 → Int32 → Option zS) : Nat → zS → Int32 → Int32 → Int32 → Int32 → Option zS
  | 0, _, _, _, _, _ => none
  | n + 1, σ, x1, x2, x4, x5 => Te_formGroups_b58 F rc29 (Te_formGroups_58 F rc29 n) σ x1 x2 x4 x5
def Te_formGroups_b29 (F : Nat) (rc29 : zS → Int32 → Int32 → Option zS) (σ : zS) (x1 : Int32) (x2 : Int32) : Option zS :=
  if (gi σ 400) ≤ x2 then (some σ)
  else (bi (Te_nextOf F σ x1) (fun r3 σ2 => if 0 ≤ r3 then (bi (Te_ringOf F σ2 r3) (fun r7 σ6 => Te_formGroups_58 F rc29 F σ6 x1 x2 r7 (0 : Int32)))
  else (some σ2)))
def Te_formGroups_29 (F : Nat) : Nat → zS → Int32 → Int32 → Option zS
  | 0, _, _, _ => none
  | n + 1, σ, x1, x2 => Te_formGroups_b29 F (Te_formGroups_29 F n) σ x1 x2
def Te_formGroups (F : Nat) (σ : zS) : Option zS :=
  gd (cpG (0 : Int32) (0 : Int32) (gi σ 400) 16 16) (bv (Te_closeMasks F (sA σ 38 (va_cpy (ga σ 37) (ga σ 38) (0 : Int32).toNatClampNeg (0 : Int32).toNatClampNeg (gi σ 400).toNatClampNeg)) 38) (fun σ2 => Te_formGroups_29 F F σ2 (0 : Int32) (0 : Int32)))
def Te_findMember_36 (F : Nat) (rc5 : zS → Int32 → Int32 → Int32 → Int32 → Option (Int32 × zS)) (σ : zS) (x1 : Int32) (x2 : Int32) (x3 : Int32) (x4 : Int32) : Option (Int32 × zS) :=
  rc5 σ x1 x2 x3 (x4 + (1 : Int32))
def Te_findMember_b5 (F : Nat) (rc5 : zS → Int32 → Int32 → Int32 → Int32 → Option (Int32 × zS)) (σ : zS) (x1 : Int32) (x2 : Int32) (x3 : Int32) (x4 : Int32) : Option (Int32 × zS) :=
  if (gi σ 400) ≤ x4 then (some ((-1 : Int32), σ))
  else (gd (inb x4 16) (if (ga σ 36 x4.toNatClampNeg) = x1 then (if x3 = x2 then (some (x4, σ))
  else (Te_findMember_36 F rc5 σ x1 x2 (x3 + (1 : Int32)) x4))
  else (Te_findMember_36 F rc5 σ x1 x2 x3 x4)))
def Te_findMember_5 (F : Nat) : Nat → zS → Int32 → Int32 → Int32 → Int32 → Option (Int32 × zS)
  | 0, _, _, _, _, _ => none
  | n + 1, σ, x1, x2, x3, x4 => Te_findMember_b5 F (Te_findMember_5 F n) σ x1 x2 x3 x4
def Te_findMember (F : Nat) (σ : zS) (x1 : Int32) (x2 : Int32) : Option (Int32 × zS) :=
  Te_findMember_5 F F σ x1 x2 (0 : Int32) (0 : Int32)
def Pa_expect (F : Nat) (σ : zS) (x1 : Int32) : Option (Int32 × zS) :=
  bi (Ta_sort F σ) (fun r2 σ1 => if r2 = x1 then (bv (Ta_step F σ1) (fun σ5 => some ((1 : Int32), σ5)))
  else (bi (Ta_start F σ1) (fun r8 σ7 => bv (Fa_raise F σ7 (1 : Int32) r8) (fun σ10 => some ((0 : Int32), σ10)))))
def Pa_misfit (F : Nat) (σ : zS) : Option (Int32 × zS) :=
  bi (Ta_start F σ) (fun r2 σ1 => bv (Fa_raise F σ1 (1 : Int32) r2) (fun σ4 => some ((0 : Int32), σ4)))
def Pa_tooMuch (F : Nat) (σ : zS) : Option (Int32 × zS) :=
  bi (Ta_start F σ) (fun r2 σ1 => bv (Fa_raise F σ1 (2 : Int32) r2) (fun σ4 => some ((0 : Int32), σ4)))
def Pa_startsOne_35 (F : Nat) (σ : zS) (s0 : Int32) : Option (Int32 × zS) :=
  gd (isB s0) (some (s0, σ))
def Pa_startsOne_30 (F : Nat) (σ : zS) : Option (Int32 × zS) :=
  Pa_startsOne_35 F σ (1 : Int32)
def Pa_startsOne (F : Nat) (σ : zS) : Option (Int32 × zS) :=
  bi (Ta_sort F σ) (fun r2 σ1 => if r2 = (2 : Int32) then (Pa_startsOne_30 F σ1)
  else (if r2 = (3 : Int32) then (Pa_startsOne_30 F σ1)
  else (if r2 = (40 : Int32) then (Pa_startsOne_30 F σ1)
  else (if r2 = (91 : Int32) then (Pa_startsOne_30 F σ1)
  else (Pa_startsOne_35 F σ1 (0 : Int32))))))
def Pa_parseHead (F : Nat) (σ : zS) (x1 : Int32) : Option (Int32 × zS) :=
  bv (Ta_step F σ) (fun σ1 => bi (Ta_sort F σ1) (fun r4 σ3 => if r4 = (2 : Int32) then (if (gi σ3 400) < (16 : Int32) then (bi (Ta_name F (si σ3 606 (gi σ3 400))) (fun r9 σ8 => bi (Ta_start F σ8) (fun r12 σ11 => bv (Te_declare F σ11 x1 r9 r12) (fun σ14 => bv (Me_add F σ14 (0 : Int32) (gi σ14 606)) (fun σ16 => bv (Ta_step F σ16) (fun σ18 => some ((1 : Int32), σ18)))))))
  else (bi (Pa_tooMuch F σ3) (fun r21 σ20 => gd (isB r21) (some (r21, σ20)))))
  else (bi (Pa_misfit F σ3) (fun r25 σ24 => gd (isB r25) (some (r25, σ24))))))
def Pa_parseParam (F : Nat) (σ : zS) : Option (Int32 × zS) :=
  bi (Ta_sort F σ) (fun r2 σ1 => if r2 = (3 : Int32) then (gd (inb (gi σ1 606) 16) (if (ga σ1 32 (gi σ1 606).toNatClampNeg) < (3 : Int32) then (bi (Ta_name F σ1) (fun r8 σ7 => bv (Te_addParam F σ7 (gi σ1 606) r8) (fun σ10 => bv (Me_add F σ10 (3 : Int32) (gi σ10 606)) (fun σ12 => bv (Ta_step F σ12) (fun σ14 => some ((1 : Int32), σ14))))))
  else (bi (Pa_tooMuch F σ1) (fun r17 σ16 => gd (isB r17) (some (r17, σ16))))))
  else (bi (Pa_misfit F σ1) (fun r21 σ20 => gd (isB r21) (some (r21, σ20)))))
def Pa_parseParams_35 (F : Nat) (σ : zS) (x1 : Int32) : Option (Int32 × zS) :=
  gd (isB x1) (some (x1, σ))
def Pa_parseParams_b4 (F : Nat) (rc4 : zS → Int32 → Int32 → Option (Int32 × zS)) (σ : zS) (x1 : Int32) (x2 : Int32) : Option (Int32 × zS) :=
  if (3 : Int32) < x2 then (Pa_parseParams_35 F σ x1)
  else (if x1 = 0 then (Pa_parseParams_35 F σ x1)
  else (bi (Ta_sort F σ) (fun r4 σ3 => if r4 = (3 : Int32) then (bi (Pa_parseParam F σ3) (fun r8 σ7 => rc4 σ7 r8 (x2 + (1 : Int32))))
  else (Pa_parseParams_35 F σ3 x1))))
def Pa_parseParams_4 (F : Nat) : Nat → zS → Int32 → Int32 → Option (Int32 × zS)
  | 0, _, _, _ => none
  | n + 1, σ, x1, x2 => Pa_parseParams_b4 F (Pa_parseParams_4 F n) σ x1 x2
def Pa_parseParams (F : Nat) (σ : zS) : Option (Int32 × zS) :=
  Pa_parseParams_4 F F σ (1 : Int32) (0 : Int32)
def Pa_parsePart_98 (F : Nat) (rK : zS → Int32 → Option (Int32 × zS)) (σ : zS) (s0 : Int32) : Option (Int32 × zS) :=
  some (s0, σ)
def Pa_parsePart_97 (F : Nat) (rK : zS → Int32 → Option (Int32 × zS)) (σ : zS) : Option (Int32 × zS) :=
  Pa_parsePart_98 F rK σ (-1 : Int32)
def Pa_parsePart_58 (F : Nat) (rK : zS → Int32 → Option (Int32 × zS)) (σ : zS) (x1 : Int32) (s0 : Int32) : Option (Int32 × zS) :=
  if s0 = 0 then (some ((-1 : Int32), σ))
  else (bv (Ta_step F σ) (fun σ2 => bi (rK σ2 (x1 + (1 : Int32))) (fun r5 σ4 => if r5 < 0 then (Pa_parsePart_97 F rK σ4)
  else (bi (Pa_expect F σ4 (41 : Int32)) (fun r9 σ8 => if r9 = 0 then (Pa_parsePart_97 F rK σ8)
  else (Pa_parsePart_98 F rK σ8 r5))))))
def Pa_parsePart_46 (F : Nat) (rK : zS → Int32 → Option (Int32 × zS)) (σ : zS) (x1 : Int32) : Option (Int32 × zS) :=
  Pa_parsePart_58 F rK σ x1 (1 : Int32)
def Pa_parsePart_m (F : Nat) (rK : zS → Int32 → Option (Int32 × zS)) (σ : zS) (x1 : Int32) : Option (Int32 × zS) :=
  bi (Ta_sort F σ) (fun r2 σ1 => if r2 = (42 : Int32) then (bv (Ta_step F σ1) (fun σ17 => some ((0 : Int32), σ17)))
  else (bi (Ta_sort F σ1) (fun r6 σ5 => if r6 = (40 : Int32) then (if x1 < (8 : Int32) then (Pa_parsePart_46 F rK σ5 x1)
  else (bi (Pa_tooMuch F σ5) (fun r14 σ13 => if r14 = 0 then (Pa_parsePart_58 F rK σ13 x1 (0 : Int32))
  else (Pa_parsePart_46 F rK σ13 x1))))
  else (bi (Pa_misfit F σ5) (fun r10 σ9 => Pa_parsePart_58 F rK σ9 x1 r10)))))
def Pa_parseKind_93 (F : Nat) (rP : zS → Int32 → Option (Int32 × zS)) (rc7 : zS → Int32 → Int32 → Int32 → Int32 → Option (Int32 × zS)) (σ : zS) (x1 : Int32) (x2 : Int32) (x4 : Int32) (x5 : Int32) (x6 : Int32) : Option (Int32 × zS) :=
  if x6 = 0 then (some (x2, σ))
  else (rc7 σ x1 x2 x5 (x4 + (1 : Int32)))
def Pa_parseKind_72 (F : Nat) (rP : zS → Int32 → Option (Int32 × zS)) (rc7 : zS → Int32 → Int32 → Int32 → Int32 → Option (Int32 × zS)) (σ : zS) (x1 : Int32) (x2 : Int32) (x3 : Int32) (x4 : Int32) (x5 : Int32) (x6 : Int32) : Option (Int32 × zS) :=
  if x3 < 0 then (Pa_parseKind_93 F rP rc7 σ x1 x5 x4 x5 x6)
  else (gd (inb x3 1713) (Pa_parseKind_93 F rP rc7 (sa σ 24 x3.toNatClampNeg x5) x1 x2 x4 x5 x6))
def Pa_parseKind_46 (F : Nat) (rP : zS → Int32 → Option (Int32 × zS)) (rc7 : zS → Int32 → Int32 → Int32 → Int32 → Option (Int32 × zS)) (σ : zS) (x1 : Int32) (x2 : Int32) (x3 : Int32) (x4 : Int32) (x5 : Int32) (s0 : Int32) : Option (Int32 × zS) :=
  if s0 = 0 then (Pa_parseKind_72 F rP rc7 σ x1 x2 x3 x4 x5 s0)
  else (bv (Ta_step F σ) (fun σ2 => bi (Ki_makeArrow F σ2 x5 (0 : Int32)) (fun r5 σ4 => Pa_parseKind_72 F rP rc7 σ4 x1 x2 x3 x4 r5 s0)))
def Pa_parseKind_b7 (F : Nat) (rP : zS → Int32 → Option (Int32 × zS)) (rc7 : zS → Int32 → Int32 → Int32 → Int32 → Option (Int32 × zS)) (σ : zS) (x1 : Int32) (x2 : Int32) (x3 : Int32) (x4 : Int32) : Option (Int32 × zS) :=
  if (1200 : Int32) ≤ x4 then (some ((-1 : Int32), σ))
  else (bi (rP σ x1) (fun r3 σ2 => if 0 ≤ r3 then (bi (Ta_sort F σ2) (fun r7 σ6 => if r7 = (45 : Int32) then (Pa_parseKind_46 F rP rc7 σ6 x1 x2 x3 x4 r3 (1 : Int32))
  else (Pa_parseKind_46 F rP rc7 σ6 x1 x2 x3 x4 r3 (0 : Int32))))
  else (some ((-1 : Int32), σ2))))
def Pa_parseKind_7 (F : Nat) (rP : zS → Int32 → Option (Int32 × zS)) : Nat → zS → Int32 → Int32 → Int32 → Int32 → Option (Int32 × zS)
  | 0, _, _, _, _, _ => none
  | n + 1, σ, x1, x2, x3, x4 => Pa_parseKind_b7 F rP (Pa_parseKind_7 F rP n) σ x1 x2 x3 x4
def Pa_parseKind_m (F : Nat) (rP : zS → Int32 → Option (Int32 × zS)) (σ : zS) (x1 : Int32) : Option (Int32 × zS) :=
  Pa_parseKind_7 F rP F σ x1 (-1 : Int32) (-1 : Int32) (0 : Int32)
def Pa_parseOne_66 (F : Nat) (rT : zS → Int32 → Option (Int32 × zS)) (σ : zS) (s1 : Int32) : Option (Int32 × zS) :=
  bv (Me_add F σ s1 (gi σ 606)) (fun σ1 => bv (Ta_step F σ1) (fun σ3 => some ((1 : Int32), σ3)))
def Pa_parseOne_26 (F : Nat) (rT : zS → Int32 → Option (Int32 × zS)) (σ : zS) (x2 : Int32) (x3 : Int32) : Option (Int32 × zS) :=
  bi (Ta_name F σ) (fun r2 σ1 => gd (isRow (gr σ 605)) (bi (Ro_add F σ1 (gr σ 605) x2 r2 (0 : Int32) x3) (fun r6 σ4 => if r6 = 0 then (bi (Pa_tooMuch F σ4) (fun r11 σ10 => gd (isB r11) (some (r11, σ10))))
  else (if x2 = (2 : Int32) then (Pa_parseOne_66 F rT σ4 (5 : Int32))
  else (Pa_parseOne_66 F rT σ4 (6 : Int32))))))
def Pa_parseOne_193 (F : Nat) (rT : zS → Int32 → Option (Int32 × zS)) (σ : zS) (s1 : Int32) : Option (Int32 × zS) :=
  bi (Pa_expect F σ s1) (fun r2 σ1 => gd (isB r2) (some (r2, σ1)))
def Pa_parseOne_149 (F : Nat) (rT : zS → Int32 → Option (Int32 × zS)) (σ : zS) (x1 : Int32) (x2 : Int32) (x3 : Int32) (x4 : Int32) : Option (Int32 × zS) :=
  bv (Ta_step F σ) (fun σ1 => bi (rT σ1 (x1 + (1 : Int32))) (fun r4 σ3 => if r4 = 0 then (some ((0 : Int32), σ3))
  else (gd (isRow (gr σ3 605)) (gd (inb x4 200) (if x2 = (91 : Int32) then (Pa_parseOne_193 F rT (ta σ3 (rA (gr σ3 605) 3) x4.toNatClampNeg x3) (93 : Int32))
  else (Pa_parseOne_193 F rT (ta σ3 (rA (gr σ3 605) 3) x4.toNatClampNeg x3) (41 : Int32)))))))
def Pa_parseOne_103 (F : Nat) (rT : zS → Int32 → Option (Int32 × zS)) (σ : zS) (x1 : Int32) (x2 : Int32) (x3 : Int32) : Option (Int32 × zS) :=
  if x1 < (8 : Int32) then (gd (isRow (gr σ 605)) (if x2 = (91 : Int32) then (bi (Ro_add F σ (gr σ 605) (91 : Int32) (0 : Int64) (1 : Int32) x3) (fun r5 σ4 => if r5 = 0 then (bi (Pa_tooMuch F σ4) (fun r9 σ8 => gd (isB r9) (some (r9, σ8))))
  else (Pa_parseOne_149 F rT σ4 x1 x2 x3 (mi σ (100 * (gr σ 605) + 4)))))
  else (Pa_parseOne_149 F rT σ x1 x2 x3 (mi σ (100 * (gr σ 605) + 4)))))
  else (bi (Pa_tooMuch F σ) (fun r13 σ12 => gd (isB r13) (some (r13, σ12))))
def Pa_parseOne_m (F : Nat) (rT : zS → Int32 → Option (Int32 × zS)) (σ : zS) (x1 : Int32) : Option (Int32 × zS) :=
  bi (Ta_sort F σ) (fun r2 σ1 => bi (Ta_start F σ1) (fun r5 σ4 => if r2 = (2 : Int32) then (Pa_parseOne_26 F rT σ4 r2 r5)
  else (if r2 = (3 : Int32) then (Pa_parseOne_26 F rT σ4 r2 r5)
  else (if r2 = (40 : Int32) then (Pa_parseOne_103 F rT σ4 x1 r2 r5)
  else (if r2 = (91 : Int32) then (Pa_parseOne_103 F rT σ4 x1 r2 r5)
  else (bi (Pa_misfit F σ4) (fun r12 σ11 => gd (isB r12) (some (r12, σ11)))))))))
def Pa_parseSome_113 (F : Nat) (rO : zS → Int32 → Option (Int32 × zS)) (σ : zS) : Option (Int32 × zS) :=
  some ((1 : Int32), σ)
def Pa_parseSome_84 (F : Nat) (rO : zS → Int32 → Option (Int32 × zS)) (σ : zS) (x2 : Int32) (x3 : Int32) (x4 : Int32) (x5 : Int32) : Option (Int32 × zS) :=
  gd (isRow (gr σ 605)) (gd (inb x2 200) (if x4 = 0 then (Pa_parseSome_113 F rO (ta σ (rA (gr σ 605) 2) x2.toNatClampNeg ((ma σ (rA (gr σ 605) 2) x2.toNatClampNeg) + x5)))
  else (bv (Me_setValue F (ta σ (rA (gr σ 605) 2) x2.toNatClampNeg ((ma σ (rA (gr σ 605) 2) x2.toNatClampNeg) + x5)) x3 x5) (fun σ4 => Pa_parseSome_113 F rO σ4))))
def Pa_parseSome_b50 (F : Nat) (rO : zS → Int32 → Option (Int32 × zS)) (rc50 : zS → Int32 → Int32 → Int32 → Int32 → Int32 → Int32 → Option (Int32 × zS)) (σ : zS) (x1 : Int32) (x2 : Int32) (x3 : Int32) (x4 : Int32) (x5 : Int32) (x6 : Int32) : Option (Int32 × zS) :=
  if (200 : Int32) < x6 then (Pa_parseSome_84 F rO σ x2 x3 x4 x5)
  else (bi (Pa_startsOne F σ) (fun r3 σ2 => if r3 = 0 then (Pa_parseSome_84 F rO σ2 x2 x3 x4 x5)
  else (bi (rO σ2 x1) (fun r7 σ6 => if r7 = 0 then (some ((0 : Int32), σ6))
  else (rc50 σ6 x1 x2 x3 x4 (x5 + (1 : Int32)) (x6 + (1 : Int32)))))))
def Pa_parseSome_50 (F : Nat) (rO : zS → Int32 → Option (Int32 × zS)) : Nat → zS → Int32 → Int32 → Int32 → Int32 → Int32 → Int32 → Option (Int32 × zS)
  | 0, _, _, _, _, _, _, _ => none
  | n + 1, σ, x1, x2, x3, x4, x5, x6 => Pa_parseSome_b50 F rO (Pa_parseSome_50 F rO n) σ x1 x2 x3 x4 x5 x6
def Pa_parseSome_32 (F : Nat) (rO : zS → Int32 → Option (Int32 × zS)) (σ : zS) (x1 : Int32) (x2 : Int32) (x3 : Int32) (s0 : Int32) : Option (Int32 × zS) :=
  bi (rO σ x1) (fun r2 σ1 => if r2 = 0 then (some ((0 : Int32), σ1))
  else (Pa_parseSome_50 F rO F σ1 x1 x2 x3 s0 (0 : Int32) (0 : Int32)))
def Pa_parseSome_m (F : Nat) (rO : zS → Int32 → Option (Int32 × zS)) (σ : zS) (x1 : Int32) : Option (Int32 × zS) :=
  gd (isRow (gr σ 605)) (bi (Ta_sort F σ) (fun r3 σ2 => if r3 = (2 : Int32) then (Pa_parseSome_32 F rO σ2 x1 (mi σ (100 * (gr σ 605) + 4)) (gi σ 505) (1 : Int32))
  else (Pa_parseSome_32 F rO σ2 x1 (mi σ (100 * (gr σ 605) + 4)) (gi σ 505) (0 : Int32))))
def Pa_parseType_b2 (F : Nat) (rS : zS → Int32 → Option (Int32 × zS)) (rc2 : zS → Int32 → Int32 → Option (Int32 × zS)) (σ : zS) (x1 : Int32) (x2 : Int32) : Option (Int32 × zS) :=
  if (200 : Int32) < x2 then (some ((0 : Int32), σ))
  else (gd (isRow (gr σ 605)) (bi (rS σ x1) (fun r4 σ3 => if r4 = 0 then (some ((0 : Int32), σ3))
  else (bi (Ta_sort F σ3) (fun r8 σ7 => if r8 = (45 : Int32) then (gd (isRow (gr σ7 605)) (bi (Ro_isFull F σ7 (gr σ7 605)) (fun r13 σ11 => if r13 = 0 then (gd (isRow (gr σ11 605)) (bv (Ro_insertArrow F σ11 (gr σ11 605) (mi σ (100 * (gr σ 605) + 4))) (fun σ16 => bv (Ta_step F σ16) (fun σ19 => rc2 σ19 x1 (x2 + (1 : Int32))))))
  else (bi (Pa_tooMuch F σ11) (fun r22 σ21 => gd (isB r22) (some (r22, σ21)))))))
  else (some ((1 : Int32), σ7)))))))
def Pa_parseType_2 (F : Nat) (rS : zS → Int32 → Option (Int32 × zS)) : Nat → zS → Int32 → Int32 → Option (Int32 × zS)
  | 0, _, _, _ => none
  | n + 1, σ, x1, x2 => Pa_parseType_b2 F rS (Pa_parseType_2 F rS n) σ x1 x2
def Pa_parseType_m (F : Nat) (rS : zS → Int32 → Option (Int32 × zS)) (σ : zS) (x1 : Int32) : Option (Int32 × zS) :=
  Pa_parseType_2 F rS F σ x1 (0 : Int32)
def Pa_parseKind (F : Nat) : Nat → zS → Int32 → Option (Int32 × zS)
  | 0, _, _ => none
  | d + 1, σ, x1 => Pa_parseKind_m F (Pa_parsePart_m F (Pa_parseKind F d)) σ x1
def Pa_parseType (F : Nat) : Nat → zS → Int32 → Option (Int32 × zS)
  | 0, _, _ => none
  | d + 1, σ, x1 => Pa_parseType_m F (Pa_parseSome_m F (Pa_parseOne_m F (Pa_parseType F d))) σ x1
def Pa_parseOne (F d : Nat) : zS → Int32 → Option (Int32 × zS) := Pa_parseOne_m F (Pa_parseType F d)
def Pa_parseCons_120 (F : Nat) (rc2 : zS → Int32 → Option (Int32 × zS)) (σ : zS) (x1 : Int32) : Option (Int32 × zS) :=
  bi (Ta_sort F σ) (fun r2 σ1 => if r2 = (124 : Int32) then (bv (Ta_step F σ1) (fun σ5 => rc2 σ5 (x1 + (1 : Int32))))
  else (some ((1 : Int32), σ1)))
def Pa_parseCons_112 (F : Nat) (σ : zS) : Option (Int32 × zS) :=
  some ((0 : Int32), σ)
def Pa_parseCons_b76 (F : Nat) (rc2 : zS → Int32 → Option (Int32 × zS)) (rc76 : zS → Int32 → Int32 → Option (Int32 × zS)) (σ : zS) (x1 : Int32) (x2 : Int32) : Option (Int32 × zS) :=
  if (200 : Int32) < x2 then (Pa_parseCons_120 F rc2 σ x1)
  else (bi (Pa_startsOne F σ) (fun r3 σ2 => if r3 = 0 then (Pa_parseCons_120 F rc2 σ2 x1)
  else (gd (isRow (gr σ2 605)) (bi (Ro_beginTerm F σ2 (gr σ2 605) (gi σ2 606)) (fun r8 σ6 => if r8 = 0 then (Pa_parseCons_112 F σ6)
  else (bi (Pa_parseOne F 12 σ6 (0 : Int32)) (fun r12 σ11 => if r12 = 0 then (Pa_parseCons_112 F σ11)
  else (rc76 σ11 x1 (x2 + (1 : Int32))))))))))
def Pa_parseCons_76 (F : Nat) (rc2 : zS → Int32 → Option (Int32 × zS)) : Nat → zS → Int32 → Int32 → Option (Int32 × zS)
  | 0, _, _, _ => none
  | n + 1, σ, x1, x2 => Pa_parseCons_b76 F rc2 (Pa_parseCons_76 F rc2 n) σ x1 x2
def Pa_parseCons_b2 (F : Nat) (rc2 : zS → Int32 → Option (Int32 × zS)) (σ : zS) (x1 : Int32) : Option (Int32 × zS) :=
  if (6 : Int32) < x1 then (some ((0 : Int32), σ))
  else (bi (Ta_sort F σ) (fun r3 σ2 => if r3 = (2 : Int32) then (if x1 = (6 : Int32) then (bi (Pa_tooMuch F σ2) (fun r13 σ12 => gd (isB r13) (some (r13, σ12))))
  else (gd (inb (gi σ2 606) 16) (bv (Me_add F (sa σ2 34 (gi σ2 606).toNatClampNeg ((ga σ2 34 (gi σ2 606).toNatClampNeg) + (1 : Int32))) (1 : Int32) (gi σ2 606)) (fun σ8 => bv (Ta_step F σ8) (fun σ10 => Pa_parseCons_76 F rc2 F σ10 x1 (0 : Int32))))))
  else (bi (Pa_misfit F σ2) (fun r17 σ16 => gd (isB r17) (some (r17, σ16))))))
def Pa_parseCons_2 (F : Nat) : Nat → zS → Int32 → Option (Int32 × zS)
  | 0, _, _ => none
  | n + 1, σ, x1 => Pa_parseCons_b2 F (Pa_parseCons_2 F n) σ x1
def Pa_parseCons (F : Nat) (σ : zS) : Option (Int32 × zS) :=
  Pa_parseCons_2 F F σ (0 : Int32)
def Pa_parseMethods_125 (F : Nat) (σ : zS) : Option (Int32 × zS) :=
  some ((1 : Int32), σ)
def Pa_parseMethods_112 (F : Nat) (rc2 : zS → Int32 → Option (Int32 × zS)) (σ : zS) (x1 : Int32) (s0 : Int32) : Option (Int32 × zS) :=
  if s0 = 0 then (some ((0 : Int32), σ))
  else (rc2 σ (x1 + (1 : Int32)))
def Pa_parseMethods_111 (F : Nat) (rc2 : zS → Int32 → Option (Int32 × zS)) (σ : zS) (x1 : Int32) : Option (Int32 × zS) :=
  Pa_parseMethods_112 F rc2 σ x1 (0 : Int32)
def Pa_parseMethods_b2 (F : Nat) (rc2 : zS → Int32 → Option (Int32 × zS)) (σ : zS) (x1 : Int32) : Option (Int32 × zS) :=
  if (4 : Int32) < x1 then (Pa_parseMethods_125 F σ)
  else (bi (Ta_sort F σ) (fun r3 σ2 => if r3 = (3 : Int32) then (if x1 = (4 : Int32) then (bi (Pa_tooMuch F σ2) (fun r30 σ29 => gd (isB r30) (some (r30, σ29))))
  else (gd (inb (gi σ2 606) 16) (bv (Me_add F (sa σ2 34 (gi σ2 606).toNatClampNeg ((ga σ2 34 (gi σ2 606).toNatClampNeg) + (1 : Int32))) (2 : Int32) (gi σ2 606)) (fun σ8 => bv (Ta_step F σ8) (fun σ10 => bi (Pa_expect F σ10 (58 : Int32)) (fun r13 σ12 => if r13 = 0 then (Pa_parseMethods_111 F rc2 σ12 x1)
  else (gd (isRow (gr σ12 605)) (bi (Ro_beginTerm F σ12 (gr σ12 605) (gi σ12 606)) (fun r18 σ16 => if r18 = 0 then (Pa_parseMethods_111 F rc2 σ16 x1)
  else (bi (Pa_parseType F 12 σ16 (0 : Int32)) (fun r22 σ21 => if r22 = 0 then (Pa_parseMethods_111 F rc2 σ21 x1)
  else (bi (Pa_expect F σ21 (59 : Int32)) (fun r26 σ25 => if r26 = 0 then (Pa_parseMethods_111 F rc2 σ25 x1)
  else (Pa_parseMethods_112 F rc2 σ25 x1 (1 : Int32)))))))))))))))
  else (Pa_parseMethods_125 F σ2)))
def Pa_parseMethods_2 (F : Nat) : Nat → zS → Int32 → Option (Int32 × zS)
  | 0, _, _ => none
  | n + 1, σ, x1 => Pa_parseMethods_b2 F (Pa_parseMethods_2 F n) σ x1
def Pa_parseMethods (F : Nat) (σ : zS) : Option (Int32 × zS) :=
  Pa_parseMethods_2 F F σ (0 : Int32)
def Pa_parseTold_86 (F : Nat) (σ : zS) (s0 : Int32) : Option (Int32 × zS) :=
  gd (isB s0) (some (s0, σ))
def Pa_parseTold (F : Nat) (σ : zS) : Option (Int32 × zS) :=
  bv (Ta_step F σ) (fun σ1 => bi (Ta_sort F σ1) (fun r4 σ3 => if r4 = (2 : Int32) then (bv (Me_add F σ3 (4 : Int32) (-1 : Int32)) (fun σ7 => bv (Ta_step F σ7) (fun σ9 => bi (Pa_expect F σ9 (58 : Int32)) (fun r12 σ11 => if r12 = 0 then (some ((0 : Int32), σ11))
  else (bi (Pa_parseKind F 12 σ11 (0 : Int32)) (fun r16 σ15 => bv (Me_setValue F σ15 (gi σ3 505) r16) (fun σ18 => if r16 < 0 then (Pa_parseTold_86 F σ18 (0 : Int32))
  else (Pa_parseTold_86 F σ18 (1 : Int32)))))))))
  else (bi (Pa_misfit F σ3) (fun r22 σ21 => gd (isB r22) (some (r22, σ21))))))
def Pa_parseText_258 (F : Nat) (σ : zS) : Option zS :=
  some σ
def Pa_parseText_251 (F : Nat) (rc15 : zS → Int32 → Int32 → Option zS) (σ : zS) (x2 : Int32) (s0 : Int32) : Option zS :=
  rc15 σ s0 (x2 + (1 : Int32))
def Pa_parseText_250 (F : Nat) (rc15 : zS → Int32 → Int32 → Option zS) (σ : zS) (x2 : Int32) : Option zS :=
  Pa_parseText_251 F rc15 σ x2 (0 : Int32)
def Pa_parseText_233 (F : Nat) (rc15 : zS → Int32 → Int32 → Option zS) (σ : zS) (x1 : Int32) (x2 : Int32) : Option zS :=
  if x1 = 0 then (Pa_parseText_250 F rc15 σ x2)
  else (bi (Pa_expect F σ (59 : Int32)) (fun r3 σ2 => if r3 = 0 then (Pa_parseText_250 F rc15 σ2 x2)
  else (Pa_parseText_251 F rc15 σ2 x2 (1 : Int32))))
def Pa_parseText_112 (F : Nat) (rc15 : zS → Int32 → Int32 → Option zS) (σ : zS) (x2 : Int32) (s0 : Int32) : Option zS :=
  Pa_parseText_233 F rc15 σ s0 x2
def Pa_parseText_111 (F : Nat) (rc15 : zS → Int32 → Int32 → Option zS) (σ : zS) (x2 : Int32) : Option zS :=
  Pa_parseText_112 F rc15 σ x2 (0 : Int32)
def Pa_parseText_167 (F : Nat) (rc15 : zS → Int32 → Int32 → Option zS) (σ : zS) (x2 : Int32) (s0 : Int32) : Option zS :=
  Pa_parseText_233 F rc15 σ s0 x2
def Pa_parseText_166 (F : Nat) (rc15 : zS → Int32 → Int32 → Option zS) (σ : zS) (x2 : Int32) : Option zS :=
  Pa_parseText_167 F rc15 σ x2 (0 : Int32)
def Pa_parseText_216 (F : Nat) (rc15 : zS → Int32 → Int32 → Option zS) (σ : zS) (x2 : Int32) (s0 : Int32) : Option zS :=
  Pa_parseText_233 F rc15 σ s0 x2
def Pa_parseText_215 (F : Nat) (rc15 : zS → Int32 → Int32 → Option zS) (σ : zS) (x2 : Int32) : Option zS :=
  Pa_parseText_216 F rc15 σ x2 (0 : Int32)
def Pa_parseText_b15 (F : Nat) (rc15 : zS → Int32 → Int32 → Option zS) (σ : zS) (x1 : Int32) (x2 : Int32) : Option zS :=
  if (1200 : Int32) ≤ x2 then (Pa_parseText_258 F σ)
  else (if x1 = 0 then (Pa_parseText_258 F σ)
  else (bi (Ta_sort F σ) (fun r4 σ3 => if r4 = (1 : Int32) then (Pa_parseText_258 F σ3)
  else (bi (Ta_sort F σ3) (fun r8 σ7 => if r8 = (4 : Int32) then (bi (Pa_parseHead F σ7 (0 : Int32)) (fun r11 σ10 => if r11 = 0 then (Pa_parseText_111 F rc15 σ10 x2)
  else (bi (Pa_parseParams F σ10) (fun r15 σ14 => if r15 = 0 then (Pa_parseText_111 F rc15 σ14 x2)
  else (bi (Pa_expect F σ14 (61 : Int32)) (fun r19 σ18 => if r19 = 0 then (Pa_parseText_111 F rc15 σ18 x2)
  else (bi (Pa_parseCons F σ18) (fun r23 σ22 => if r23 = 0 then (Pa_parseText_111 F rc15 σ22 x2)
  else (Pa_parseText_112 F rc15 σ22 x2 (1 : Int32))))))))))
  else if r8 = (5 : Int32) then (bi (Pa_parseHead F σ7 (1 : Int32)) (fun r28 σ27 => if r28 = 0 then (Pa_parseText_166 F rc15 σ27 x2)
  else (bi (Pa_parseParams F σ27) (fun r32 σ31 => if r32 = 0 then (Pa_parseText_166 F rc15 σ31 x2)
  else (bi (Pa_expect F σ31 (61 : Int32)) (fun r36 σ35 => if r36 = 0 then (Pa_parseText_166 F rc15 σ35 x2)
  else (gd (isRow (gr σ35 605)) (bi (Ro_beginTerm F σ35 (gr σ35 605) (gi σ35 606)) (fun r41 σ39 => if r41 = 0 then (Pa_parseText_166 F rc15 σ39 x2)
  else (bi (Pa_parseType F 12 σ39 (0 : Int32)) (fun r45 σ44 => if r45 = 0 then (Pa_parseText_166 F rc15 σ44 x2)
  else (Pa_parseText_167 F rc15 σ44 x2 (1 : Int32)))))))))))))
  else if r8 = (6 : Int32) then (bi (Pa_parseHead F σ7 (2 : Int32)) (fun r50 σ49 => if r50 = 0 then (Pa_parseText_215 F rc15 σ49 x2)
  else (bi (Pa_parseParam F σ49) (fun r54 σ53 => if r54 = 0 then (Pa_parseText_215 F rc15 σ53 x2)
  else (bi (Pa_expect F σ53 (123 : Int32)) (fun r58 σ57 => if r58 = 0 then (Pa_parseText_215 F rc15 σ57 x2)
  else (bi (Pa_parseMethods F σ57) (fun r62 σ61 => if r62 = 0 then (Pa_parseText_215 F rc15 σ61 x2)
  else (bi (Pa_expect F σ61 (125 : Int32)) (fun r66 σ65 => if r66 = 0 then (Pa_parseText_215 F rc15 σ65 x2)
  else (Pa_parseText_216 F rc15 σ65 x2 (1 : Int32))))))))))))
  else if r8 = (7 : Int32) then (bi (Pa_parseTold F σ7) (fun r71 σ70 => Pa_parseText_233 F rc15 σ70 r71 x2))
  else (bi (Pa_misfit F σ7) (fun r75 σ74 => Pa_parseText_233 F rc15 σ74 r75 x2)))))))
def Pa_parseText_15 (F : Nat) : Nat → zS → Int32 → Int32 → Option zS
  | 0, _, _, _ => none
  | n + 1, σ, x1, x2 => Pa_parseText_b15 F (Pa_parseText_15 F n) σ x1 x2
def Pa_parseText (F : Nat) (σ : zS) : Option zS :=
  Pa_parseText_15 F F (sr σ 605 10) (1 : Int32) (0 : Int32)
def Pa_parseTypes_114 (F : Nat) (σ : zS) : Option zS :=
  some σ
def Pa_parseTypes_94 (F : Nat) (σ : zS) (x3 : Int32) : Option zS :=
  if x3 = 0 then (Pa_parseTypes_114 F σ)
  else (bi (Ta_sort F σ) (fun r3 σ2 => if r3 = (1 : Int32) then (Pa_parseTypes_114 F σ2)
  else (bi (Pa_misfit F σ2) (fun r7 σ6 => Pa_parseTypes_114 F σ6))))
def Pa_parseTypes_87 (F : Nat) (rc41 : zS → Int32 → Int32 → Int32 → Option zS) (σ : zS) (x2 : Int32) (x4 : Int32) (s0 : Int32) : Option zS :=
  rc41 σ x2 s0 (x4 + (1 : Int32))
def Pa_parseTypes_86 (F : Nat) (rc41 : zS → Int32 → Int32 → Int32 → Option zS) (σ : zS) (x2 : Int32) (x4 : Int32) : Option zS :=
  Pa_parseTypes_87 F rc41 σ x2 x4 (0 : Int32)
def Pa_parseTypes_b41 (F : Nat) (rc41 : zS → Int32 → Int32 → Int32 → Option zS) (σ : zS) (x2 : Int32) (x3 : Int32) (x4 : Int32) : Option zS :=
  if x2 ≤ x4 then (Pa_parseTypes_94 F σ x3)
  else (if x3 = 0 then (Pa_parseTypes_94 F σ x3)
  else (bi (Pa_expect F σ (44 : Int32)) (fun r4 σ3 => if r4 = 0 then (Pa_parseTypes_86 F rc41 σ3 x2 x4)
  else (gd (isRow (gr σ3 605)) (bi (Ro_beginTerm F σ3 (gr σ3 605) (gi σ3 606)) (fun r9 σ7 => if r9 = 0 then (Pa_parseTypes_86 F rc41 σ7 x2 x4)
  else (bi (Pa_parseType F 12 σ7 (0 : Int32)) (fun r13 σ12 => if r13 = 0 then (Pa_parseTypes_86 F rc41 σ12 x2 x4)
  else (Pa_parseTypes_87 F rc41 σ12 x2 x4 (1 : Int32))))))))))
def Pa_parseTypes_41 (F : Nat) : Nat → zS → Int32 → Int32 → Int32 → Option zS
  | 0, _, _, _, _ => none
  | n + 1, σ, x2, x3, x4 => Pa_parseTypes_b41 F (Pa_parseTypes_41 F n) σ x2 x3 x4
def Pa_parseTypes_37 (F : Nat) (σ : zS) (x2 : Int32) (s0 : Int32) : Option zS :=
  Pa_parseTypes_41 F F σ x2 s0 (1 : Int32)
def Pa_parseTypes_36 (F : Nat) (σ : zS) (x2 : Int32) : Option zS :=
  Pa_parseTypes_37 F σ x2 (0 : Int32)
def Pa_parseTypes (F : Nat) (σ : zS) (x1 : Nat) (x2 : Int32) : Option zS :=
  gd (isRow x1) (bi (Ro_beginTerm F (si (sr σ 605 x1) 606 (-1 : Int32)) x1 (-1 : Int32)) (fun r3 σ1 => if r3 = 0 then (Pa_parseTypes_36 F σ1 x2)
  else (bi (Pa_parseType F 12 σ1 (0 : Int32)) (fun r7 σ6 => if r7 = 0 then (Pa_parseTypes_36 F σ6 x2)
  else (Pa_parseTypes_37 F σ6 x2 (1 : Int32))))))
def Ch_checkLacks_108 (F : Nat) (σ : zS) : Option zS :=
  some σ
def Ch_checkLacks_102 (F : Nat) (rc2 : zS → Int32 → Option zS) (σ : zS) (x1 : Int32) : Option zS :=
  rc2 σ (x1 + (1 : Int32))
def Ch_checkLacks_41 (F : Nat) (rc2 : zS → Int32 → Option zS) (σ : zS) (x1 : Int32) (s0 : Int32) : Option zS :=
  gd (inb x1 600) (bi (Te_findSynonym F σ s0 (gb σ 44 x1.toNatClampNeg)) (fun r3 σ2 => if r3 < 0 then (Ch_checkLacks_102 F rc2 σ2 x1)
  else (gd (inb r3 16) (if (ga σ2 32 r3.toNatClampNeg) ≤ (ga σ2 47 x1.toNatClampNeg) then (Ch_checkLacks_102 F rc2 σ2 x1)
  else (bv (Fa_raise F σ2 (5 : Int32) (ga σ2 45 x1.toNatClampNeg)) (fun σ8 => Ch_checkLacks_102 F rc2 σ8 x1))))))
def Ch_checkLacks_b2 (F : Nat) (rc2 : zS → Int32 → Option zS) (σ : zS) (x1 : Int32) : Option zS :=
  if (gi σ 505) ≤ x1 then (Ch_checkLacks_108 F σ)
  else (bi (Fa_isThere F σ) (fun r3 σ2 => if r3 = 0 then (gd (inb x1 600) (if (ga σ2 43 x1.toNatClampNeg) = (5 : Int32) then (Ch_checkLacks_41 F rc2 σ2 x1 (2 : Int32))
  else (Ch_checkLacks_41 F rc2 σ2 x1 (3 : Int32))))
  else (Ch_checkLacks_108 F σ2)))
def Ch_checkLacks_2 (F : Nat) : Nat → zS → Int32 → Option zS
  | 0, _, _ => none
  | n + 1, σ, x1 => Ch_checkLacks_b2 F (Ch_checkLacks_2 F n) σ x1
def Ch_checkLacks (F : Nat) (σ : zS) : Option zS :=
  Ch_checkLacks_2 F F σ (0 : Int32)
def Ch_isStrange_41 (F : Nat) (σ : zS) (s0 : Int32) : Option (Int32 × zS) :=
  gd (isB s0) (some (s0, σ))
def Ch_isStrange_40 (F : Nat) (σ : zS) : Option (Int32 × zS) :=
  Ch_isStrange_41 F σ (0 : Int32)
def Ch_isStrange (F : Nat) (σ : zS) (x1 : Int32) (x2 : Int64) : Option (Int32 × zS) :=
  bi (Te_has F σ x1) (fun r2 σ1 => if r2 = 0 then (Ch_isStrange_40 F σ1)
  else (gd (inb x1 16) (if (ga σ1 29 x1.toNatClampNeg) = (2 : Int32) then (Ch_isStrange_40 F σ1)
  else (bi (Te_findParam F σ1 x1 x2) (fun r8 σ7 => if 0 ≤ r8 then (Ch_isStrange_40 F σ7)
  else (Ch_isStrange_41 F σ7 (1 : Int32)))))))
def Ch_isBadName_84 (F : Nat) (σ : zS) (s0 : Int32) : Option (Int32 × zS) :=
  gd (isB s0) (some (s0, σ))
def Ch_isBadName_79 (F : Nat) (σ : zS) : Option (Int32 × zS) :=
  Ch_isBadName_84 F σ (1 : Int32)
def Ch_isBadName_112 (F : Nat) (σ : zS) (s0 : Int32) : Option (Int32 × zS) :=
  gd (isB s0) (some (s0, σ))
def Ch_isBadName_107 (F : Nat) (σ : zS) : Option (Int32 × zS) :=
  Ch_isBadName_112 F σ (1 : Int32)
def Ch_isBadName_137 (F : Nat) (σ : zS) (s0 : Int32) : Option (Int32 × zS) :=
  gd (isB s0) (some (s0, σ))
def Ch_isBadName_136 (F : Nat) (σ : zS) : Option (Int32 × zS) :=
  Ch_isBadName_137 F σ (0 : Int32)
def Ch_isBadName (F : Nat) (σ : zS) (x1 : Int32) : Option (Int32 × zS) :=
  gd (inb x1 600) (if (ga σ 43 x1.toNatClampNeg) = (0 : Int32) then (if (lg_cmp (gb σ 44 x1.toNatClampNeg) (4812404 : Int64)) = 0 then (Ch_isBadName_79 F σ)
  else (bi (Me_wasTold F σ x1) (fun r4 σ3 => if r4 = 0 then (Ch_isBadName_84 F σ3 (0 : Int32))
  else (Ch_isBadName_79 F σ3))))
  else if (ga σ 43 x1.toNatClampNeg) = (1 : Int32) then (bi (Me_wasTold F σ x1) (fun r9 σ8 => gd (isB r9) (some (r9, σ8))))
  else if (ga σ 43 x1.toNatClampNeg) = (2 : Int32) then (bi (Me_wasTold F σ x1) (fun r14 σ13 => gd (isB r14) (some (r14, σ13))))
  else if (ga σ 43 x1.toNatClampNeg) = (3 : Int32) then (bi (Me_wasTold F σ x1) (fun r19 σ18 => gd (isB r19) (some (r19, σ18))))
  else if (ga σ 43 x1.toNatClampNeg) = (4 : Int32) then (bi (Te_findDeclared F σ (gb σ 44 x1.toNatClampNeg)) (fun r24 σ23 => if r24 < 0 then (Ch_isBadName_107 F σ23)
  else (bi (Me_wasTold F σ23 x1) (fun r28 σ27 => if r28 = 0 then (Ch_isBadName_112 F σ27 (0 : Int32))
  else (Ch_isBadName_107 F σ27)))))
  else if (ga σ 43 x1.toNatClampNeg) = (5 : Int32) then (if (lg_cmp (gb σ 44 x1.toNatClampNeg) (4812404 : Int64)) = 0 then (Ch_isBadName_136 F σ)
  else (bi (Te_findType F σ (gb σ 44 x1.toNatClampNeg)) (fun r34 σ33 => if 0 ≤ r34 then (Ch_isBadName_136 F σ33)
  else (Ch_isBadName_137 F σ33 (1 : Int32)))))
  else if (ga σ 43 x1.toNatClampNeg) = (6 : Int32) then (bi (Ch_isStrange F σ (ga σ 46 x1.toNatClampNeg) (gb σ 44 x1.toNatClampNeg)) (fun r39 σ38 => gd (isB r39) (some (r39, σ38))))
  else (bi (Me_wasTold F σ x1) (fun r44 σ43 => gd (isB r44) (some (r44, σ43)))))
def Ch_checkNames_54 (F : Nat) (σ : zS) : Option zS :=
  some σ
def Ch_checkNames_48 (F : Nat) (rc2 : zS → Int32 → Option zS) (σ : zS) (x1 : Int32) : Option zS :=
  rc2 σ (x1 + (1 : Int32))
def Ch_checkNames_b2 (F : Nat) (rc2 : zS → Int32 → Option zS) (σ : zS) (x1 : Int32) : Option zS :=
  if (gi σ 505) ≤ x1 then (Ch_checkNames_54 F σ)
  else (bi (Fa_isThere F σ) (fun r3 σ2 => if r3 = 0 then (bi (Ch_isBadName F σ2 x1) (fun r7 σ6 => if r7 = 0 then (Ch_checkNames_48 F rc2 σ6 x1)
  else (gd (inb x1 600) (bv (Fa_raise F σ6 (3 : Int32) (ga σ6 45 x1.toNatClampNeg)) (fun σ11 => Ch_checkNames_48 F rc2 σ11 x1)))))
  else (Ch_checkNames_54 F σ2)))
def Ch_checkNames_2 (F : Nat) : Nat → zS → Int32 → Option zS
  | 0, _, _ => none
  | n + 1, σ, x1 => Ch_checkNames_b2 F (Ch_checkNames_2 F n) σ x1
def Ch_checkNames (F : Nat) (σ : zS) : Option zS :=
  Ch_checkNames_2 F F σ (0 : Int32)
def Ch_checkRings_167 (F : Nat) (σ : zS) : Option zS :=
  some σ
def Ch_checkRings_161 (F : Nat) (rc110 : zS → Int32 → Option zS) (σ : zS) (x2 : Int32) : Option zS :=
  rc110 σ (x2 + (1 : Int32))
def Ch_checkRings_b110 (F : Nat) (rc110 : zS → Int32 → Option zS) (σ : zS) (x2 : Int32) : Option zS :=
  if (gi σ 400) ≤ x2 then (Ch_checkRings_167 F σ)
  else (bi (Fa_isThere F σ) (fun r3 σ2 => if r3 = 0 then (gd (inb x2 16) (if (((ga σ2 48 x2.toNatClampNeg) >>> (x2 &&& 31)) &&& (1 : Int32)) = 0 then (Ch_checkRings_161 F rc110 σ2 x2)
  else (bv (Fa_raise F σ2 (4 : Int32) (ga σ2 31 x2.toNatClampNeg)) (fun σ8 => Ch_checkRings_161 F rc110 σ8 x2))))
  else (Ch_checkRings_167 F σ2)))
def Ch_checkRings_110 (F : Nat) : Nat → zS → Int32 → Option zS
  | 0, _, _ => none
  | n + 1, σ, x2 => Ch_checkRings_b110 F (Ch_checkRings_110 F n) σ x2
def Ch_checkRings_90 (F : Nat) (rc46 : zS → Int32 → Int32 → Option zS) (σ : zS) (x1 : Int32) (x2 : Int32) (s1 : Int32) (s2 : Int32) : Option zS :=
  gd (inb s1 16) (rc46 (sa σ 48 s1.toNatClampNeg s2) x1 (x2 + (1 : Int32)))
def Ch_checkRings_b46 (F : Nat) (rc46 : zS → Int32 → Int32 → Option zS) (σ : zS) (x1 : Int32) (x2 : Int32) : Option zS :=
  if (gi σ 400) ≤ x2 then (bv (Te_closeMasks F σ 48) (fun σ2 => Ch_checkRings_110 F F σ2 (0 : Int32)))
  else (gd (inb x2 16) (if (ga σ 29 x2.toNatClampNeg) = (1 : Int32) then (Ch_checkRings_90 F rc46 σ x1 x2 x2 ((ga σ 37 x2.toNatClampNeg) &&& x1))
  else (Ch_checkRings_90 F rc46 σ x1 x2 x2 (0 : Int32))))
def Ch_checkRings_46 (F : Nat) : Nat → zS → Int32 → Int32 → Option zS
  | 0, _, _, _ => none
  | n + 1, σ, x1, x2 => Ch_checkRings_b46 F (Ch_checkRings_46 F n) σ x1 x2
def Ch_checkRings_36 (F : Nat) (rc4 : zS → Int32 → Int32 → Option zS) (σ : zS) (x2 : Int32) (s0 : Int32) (s1 : Int32) : Option zS :=
  rc4 σ (s0 ||| s1) (x2 + (1 : Int32))
def Ch_checkRings_b4 (F : Nat) (rc4 : zS → Int32 → Int32 → Option zS) (σ : zS) (x1 : Int32) (x2 : Int32) : Option zS :=
  if (gi σ 400) ≤ x2 then (Ch_checkRings_46 F F σ x1 (0 : Int32))
  else (gd (inb x2 16) (if (ga σ 29 x2.toNatClampNeg) = (1 : Int32) then (Ch_checkRings_36 F rc4 σ x2 x1 ((1 : Int32) <<< (x2 &&& 31)))
  else (Ch_checkRings_36 F rc4 σ x2 x1 (0 : Int32))))
def Ch_checkRings_4 (F : Nat) : Nat → zS → Int32 → Int32 → Option zS
  | 0, _, _, _ => none
  | n + 1, σ, x1, x2 => Ch_checkRings_b4 F (Ch_checkRings_4 F n) σ x1 x2
def Ch_checkRings (F : Nat) (σ : zS) : Option zS :=
  Ch_checkRings_4 F F σ (0 : Int32) (0 : Int32)
def Ch_noteNames_87 (F : Nat) (rc2 : zS → Int32 → Option zS) (σ : zS) (x1 : Int32) : Option zS :=
  rc2 σ (x1 + (1 : Int32))
def Ch_noteNames_56 (F : Nat) (rc2 : zS → Int32 → Option zS) (σ : zS) (x1 : Int32) (x2 : Int32) (s0 : Int32) : Option zS :=
  if s0 < 0 then (Ch_noteNames_87 F rc2 σ x1)
  else (bi (Te_has F σ x2) (fun r3 σ2 => if r3 = 0 then (Ch_noteNames_87 F rc2 σ2 x1)
  else (gd (inb x2 16) (Ch_noteNames_87 F rc2 (sa σ2 37 x2.toNatClampNeg ((ga σ2 37 x2.toNatClampNeg) ||| ((1 : Int32) <<< (s0 &&& 31)))) x1))))
def Ch_noteNames_b2 (F : Nat) (rc2 : zS → Int32 → Option zS) (σ : zS) (x1 : Int32) : Option zS :=
  if (gi σ 505) ≤ x1 then (some σ)
  else (gd (inb x1 600) (if (ga σ 43 x1.toNatClampNeg) = (5 : Int32) then (bi (Te_findType F σ (gb σ 44 x1.toNatClampNeg)) (fun r5 σ4 => Ch_noteNames_56 F rc2 σ4 x1 (ga σ 46 x1.toNatClampNeg) r5))
  else (Ch_noteNames_56 F rc2 σ x1 (ga σ 46 x1.toNatClampNeg) (-1 : Int32))))
def Ch_noteNames_2 (F : Nat) : Nat → zS → Int32 → Option zS
  | 0, _, _ => none
  | n + 1, σ, x1 => Ch_noteNames_b2 F (Ch_noteNames_2 F n) σ x1
def Ch_noteNames (F : Nat) (σ : zS) : Option zS :=
  Ch_noteNames_2 F F σ (0 : Int32)
def Ch_checkText_22 (F : Nat) (σ : zS) : Option zS :=
  bv (Ch_checkLacks F σ) (fun σ1 => some σ1)
def Ch_checkText (F : Nat) (σ : zS) : Option zS :=
  bv (Ch_checkNames F σ) (fun σ1 => bi (Fa_isThere F σ1) (fun r4 σ3 => if r4 = 0 then (bv (Ch_noteNames F σ3) (fun σ7 => bv (Ch_checkRings F σ7) (fun σ9 => Ch_checkText_22 F σ9)))
  else (Ch_checkText_22 F σ3)))
def Ch_checkTypes (F : Nat) (σ : zS) : Option zS :=
  bv (Ch_checkNames F σ) (fun σ1 => bv (Ch_checkLacks F σ1) (fun σ3 => some σ3))
def So_countOpens_78 (F : Nat) (rc2 : zS → Int32 → Int32 → Option zS) (σ : zS) (x1 : Int32) (x2 : Int32) : Option zS :=
  rc2 σ x1 (x2 + (1 : Int32))
def So_countOpens_72 (F : Nat) (rc2 : zS → Int32 → Int32 → Option zS) (rc15 : zS → Int32 → Int32 → Int32 → Option zS) (σ : zS) (x1 : Int32) (x2 : Int32) (x3 : Int32) : Option zS :=
  rc15 σ x1 x2 (x3 + (1 : Int32))
def So_countOpens_b15 (F : Nat) (rc2 : zS → Int32 → Int32 → Option zS) (rc15 : zS → Int32 → Int32 → Int32 → Option zS) (σ : zS) (x1 : Int32) (x2 : Int32) (x3 : Int32) : Option zS :=
  gd (inb x2 16) (if (ga σ 32 x2.toNatClampNeg) ≤ x3 then (So_countOpens_78 F rc2 σ x1 x2)
  else (if ((x1 >>> (x2 &&& 31)) &&& (1 : Int32)) = 0 then (So_countOpens_78 F rc2 σ x1 x2)
  else (gd (inb ((x2 * (3 : Int32)) + x3) 48) (bi (Ki_hasOpen F σ (ga σ 41 ((x2 * (3 : Int32)) + x3).toNatClampNeg)) (fun r6 σ5 => if r6 = 0 then (So_countOpens_72 F rc2 rc15 σ5 x1 x2 x3)
  else (So_countOpens_72 F rc2 rc15 (sa σ5 35 x2.toNatClampNeg ((ga σ5 35 x2.toNatClampNeg) + (1 : Int32))) x1 x2 x3))))))
def So_countOpens_15 (F : Nat) (rc2 : zS → Int32 → Int32 → Option zS) : Nat → zS → Int32 → Int32 → Int32 → Option zS
  | 0, _, _, _, _ => none
  | n + 1, σ, x1, x2, x3 => So_countOpens_b15 F rc2 (So_countOpens_15 F rc2 n) σ x1 x2 x3
def So_countOpens_b2 (F : Nat) (rc2 : zS → Int32 → Int32 → Option zS) (σ : zS) (x1 : Int32) (x2 : Int32) : Option zS :=
  if (gi σ 400) ≤ x2 then (some σ)
  else (So_countOpens_15 F rc2 F σ x1 x2 (0 : Int32))
def So_countOpens_2 (F : Nat) : Nat → zS → Int32 → Int32 → Option zS
  | 0, _, _, _ => none
  | n + 1, σ, x1, x2 => So_countOpens_b2 F (So_countOpens_2 F n) σ x1 x2
def So_countOpens (F : Nat) (σ : zS) (x1 : Int32) : Option zS :=
  So_countOpens_2 F F σ x1 (0 : Int32)
def So_equate_50 (F : Nat) (σ : zS) : Option zS :=
  some σ
def So_equate (F : Nat) (σ : zS) (x1 : Int32) (x2 : Int32) (x3 : Int32) : Option zS :=
  if (216 : Int32) ≤ (gi σ 807) then (So_equate_50 F σ)
  else (gd (inb (gi σ 807) 216) (So_equate_50 F (si (sa (sa (sa σ 49 (gi σ 807).toNatClampNeg x1) 50 (gi σ 807).toNatClampNeg x2) 51 (gi σ 807).toNatClampNeg x3) 807 ((gi σ 807) + (1 : Int32)))))
def So_joinFrame_69 (F : Nat) (σ : zS) (x2 : Int32) : Option zS :=
  gd (inb x2 200) (some (sa σ 54 x2.toNatClampNeg ((ga σ 54 x2.toNatClampNeg) + (1 : Int32))))
def So_joinFrame (F : Nat) (σ : zS) (x1 : Nat) (x2 : Int32) (x3 : Int32) (x4 : Int32) : Option zS :=
  gd (inb x2 200) (gd (isRow x1) (bi (Ro_fixedOf F σ x1 (ga σ 52 x2.toNatClampNeg)) (fun r4 σ2 => if r4 ≤ (ga σ 54 x2.toNatClampNeg) then (bi (Ki_makeOpen F σ2) (fun r8 σ7 => bi (Ki_makeArrow F σ7 x3 r8) (fun r11 σ10 => bv (So_equate F σ10 (ga σ7 53 x2.toNatClampNeg) r11 x4) (fun σ13 => So_joinFrame_69 F (sa σ13 53 x2.toNatClampNeg r8) x2))))
  else (bv (So_equate F σ2 x3 (0 : Int32) x4) (fun σ15 => So_joinFrame_69 F σ15 x2)))))
def So_closeFrames_111 (F : Nat) (σ : zS) : Option zS :=
  some σ
def So_closeFrames_105 (F : Nat) (rc2 : zS → Nat → Int32 → Option zS) (σ : zS) (x1 : Nat) (x2 : Int32) : Option zS :=
  rc2 σ x1 (x2 + (1 : Int32))
def So_closeFrames_b2 (F : Nat) (rc2 : zS → Nat → Int32 → Option zS) (σ : zS) (x1 : Nat) (x2 : Int32) : Option zS :=
  if (200 : Int32) ≤ x2 then (So_closeFrames_111 F σ)
  else (if (gi σ 811) ≤ 0 then (So_closeFrames_111 F σ)
  else (gd (inb ((gi σ 811) - (1 : Int32)) 200) (gd (isRow x1) (gd (inb (ga σ 52 ((gi σ 811) - (1 : Int32)).toNatClampNeg) 200) (if (ma σ (rA x1 2) (ga σ 52 ((gi σ 811) - (1 : Int32)).toNatClampNeg).toNatClampNeg) ≤ (ga σ 54 ((gi σ 811) - (1 : Int32)).toNatClampNeg) then (if ((gi σ 811) - (1 : Int32)) = 0 then (gd (inb (0 : Int32) 200) (So_closeFrames_105 F rc2 (si (si σ 811 ((gi σ 811) - (1 : Int32))) 815 (ga σ 53 (0 : Int32).toNatClampNeg)) x1 x2))
  else (bv (So_joinFrame F (si σ 811 ((gi σ 811) - (1 : Int32))) x1 (((gi σ 811) - (1 : Int32)) - (1 : Int32)) (ga σ 53 ((gi σ 811) - (1 : Int32)).toNatClampNeg) (ma σ (rA x1 3) (ga σ 52 ((gi σ 811) - (1 : Int32)).toNatClampNeg).toNatClampNeg)) (fun σ8 => So_closeFrames_105 F rc2 σ8 x1 x2)))
  else (some σ))))))
def So_closeFrames_2 (F : Nat) : Nat → zS → Nat → Int32 → Option zS
  | 0, _, _, _ => none
  | n + 1, σ, x1, x2 => So_closeFrames_b2 F (So_closeFrames_2 F n) σ x1 x2
def So_closeFrames (F : Nat) (σ : zS) (x1 : Nat) : Option zS :=
  So_closeFrames_2 F F σ x1 (0 : Int32)
def So_freeKind_82 (F : Nat) (σ : zS) (x3 : Int32) : Option (Int32 × zS) :=
  some (x3, σ)
def So_freeKind_b2 (F : Nat) (rc2 : zS → Int64 → Int32 → Option (Int32 × zS)) (σ : zS) (x1 : Int64) (x3 : Int32) : Option (Int32 × zS) :=
  if (gi σ 814) ≤ x3 then (bi (Ki_makeOpen F σ) (fun r3 σ2 => if (200 : Int32) ≤ (gi σ2 814) then (So_freeKind_82 F σ2 r3)
  else (gd (inb (gi σ2 814) 200) (So_freeKind_82 F (si (sa (sb σ2 55 (gi σ2 814).toNatClampNeg x1) 56 (gi σ2 814).toNatClampNeg r3) 814 ((gi σ2 814) + (1 : Int32))) r3))))
  else (gd (inb x3 200) (if (lg_cmp (gb σ 55 x3.toNatClampNeg) x1) = 0 then (some ((ga σ 56 x3.toNatClampNeg), σ))
  else (rc2 σ x1 (x3 + (1 : Int32)))))
def So_freeKind_2 (F : Nat) : Nat → zS → Int64 → Int32 → Option (Int32 × zS)
  | 0, _, _, _ => none
  | n + 1, σ, x1, x3 => So_freeKind_b2 F (So_freeKind_2 F n) σ x1 x3
def So_freeKind (F : Nat) (σ : zS) (x1 : Int64) : Option (Int32 × zS) :=
  So_freeKind_2 F F σ x1 (0 : Int32)
def So_startKind_116 (F : Nat) (σ : zS) (s0 : Int32) : Option (Int32 × zS) :=
  some (s0, σ)
def So_startKind_86 (F : Nat) (σ : zS) (x3 : Int32) (x4 : Int64) (s0 : Int32) : Option (Int32 × zS) :=
  if 0 ≤ s0 then (gd (inb ((x3 * (3 : Int32)) + s0) 48) (So_startKind_116 F σ (ga σ 41 ((x3 * (3 : Int32)) + s0).toNatClampNeg)))
  else (bi (So_freeKind F σ x4) (fun r4 σ3 => So_startKind_116 F σ3 r4))
def So_startKind_48 (F : Nat) (σ : zS) (s0 : Int32) : Option (Int32 × zS) :=
  some (s0, σ)
def So_startKind (F : Nat) (σ : zS) (x1 : Nat) (x2 : Int32) (x3 : Int32) : Option (Int32 × zS) :=
  gd (isRow x1) (gd (inb x2 200) (if (ma σ (rA x1 0) x2.toNatClampNeg) = (2 : Int32) then (bi (Te_findType F σ (mb σ (rA x1 1) x2.toNatClampNeg)) (fun r13 σ12 => if 0 ≤ r13 then (gd (inb r13 16) (So_startKind_48 F σ12 (ga σ12 40 r13.toNatClampNeg)))
  else (So_startKind_48 F σ12 (0 : Int32))))
  else (if (ma σ (rA x1 0) x2.toNatClampNeg) = (3 : Int32) then (bi (Te_has F σ x3) (fun r6 σ5 => if r6 = 0 then (So_startKind_86 F σ5 x3 (mb σ (rA x1 1) x2.toNatClampNeg) (-1 : Int32))
  else (bi (Te_findParam F σ5 x3 (mb σ (rA x1 1) x2.toNatClampNeg)) (fun r10 σ9 => So_startKind_86 F σ9 x3 (mb σ (rA x1 1) x2.toNatClampNeg) r10))))
  else (some ((0 : Int32), σ)))))
def So_listTerm_108 (F : Nat) (σ : zS) : Option zS :=
  some σ
def So_listTerm_b32 (F : Nat) (rc32 : zS → Nat → Int32 → Int32 → Int32 → Option zS) (σ : zS) (x1 : Nat) (x3 : Int32) (x4 : Int32) (x5 : Int32) : Option zS :=
  if x4 ≤ x5 then (So_listTerm_108 F σ)
  else (if (200 : Int32) ≤ (gi σ 811) then (So_listTerm_108 F σ)
  else (gd (inb (gi σ 811) 200) (bi (So_startKind F (sa σ 52 (gi σ 811).toNatClampNeg x5) x1 x5 x3) (fun r5 σ4 => gd (inb (gi σ4 811) 200) (bv (So_closeFrames F (si (sa (sa σ4 53 (gi σ 811).toNatClampNeg r5) 54 (gi σ4 811).toNatClampNeg (0 : Int32)) 811 ((gi σ4 811) + (1 : Int32))) x1) (fun σ8 => rc32 σ8 x1 x3 x4 (x5 + (1 : Int32))))))))
def So_listTerm_32 (F : Nat) : Nat → zS → Nat → Int32 → Int32 → Int32 → Option zS
  | 0, _, _, _, _, _ => none
  | n + 1, σ, x1, x3, x4, x5 => So_listTerm_b32 F (So_listTerm_32 F n) σ x1 x3 x4 x5
def So_listTerm (F : Nat) (σ : zS) (x1 : Nat) (x2 : Int32) : Option zS :=
  gd (isRow x1) (gd (inb x2 201) (bi (Ro_termEnd F (si (si σ 814 (0 : Int32)) 811 (0 : Int32)) x1 x2) (fun r4 σ3 => So_listTerm_32 F F σ3 x1 (ma σ (rA x1 5) x2.toNatClampNeg) r4 (ma σ3 (rA x1 4) x2.toNatClampNeg))))
def So_listMembers_82 (F : Nat) (rc10 : zS → Int32 → Nat → Int32 → Option zS) (σ : zS) (x1 : Int32) (x2 : Nat) (x3 : Int32) : Option zS :=
  rc10 σ x1 x2 (x3 + (1 : Int32))
def So_listMembers_b10 (F : Nat) (rc10 : zS → Int32 → Nat → Int32 → Option zS) (σ : zS) (x1 : Int32) (x2 : Nat) (x3 : Int32) : Option zS :=
  gd (isRow x2) (if (mi σ (100 * x2 + 7)) ≤ x3 then (some σ)
  else (gd (inb x3 201) (bi (Te_has F σ (ma σ (rA x2 5) x3.toNatClampNeg)) (fun r5 σ4 => if r5 = 0 then (So_listMembers_82 F rc10 σ4 x1 x2 x3)
  else (if ((x1 >>> ((ma σ (rA x2 5) x3.toNatClampNeg) &&& 31)) &&& (1 : Int32)) = 0 then (So_listMembers_82 F rc10 σ4 x1 x2 x3)
  else (bv (So_listTerm F σ4 x2 x3) (fun σ9 => gd (inb (ma σ (rA x2 5) x3.toNatClampNeg) 16) (gd (inb (ma σ9 (rA x2 4) x3.toNatClampNeg) 200) (bv (So_equate F σ9 (gi σ9 815) (ga σ9 42 (ma σ (rA x2 5) x3.toNatClampNeg).toNatClampNeg) (ma σ9 (rA x2 3) (ma σ9 (rA x2 4) x3.toNatClampNeg).toNatClampNeg)) (fun σ13 => So_listMembers_82 F rc10 σ13 x1 x2 x3))))))))))
def So_listMembers_10 (F : Nat) : Nat → zS → Int32 → Nat → Int32 → Option zS
  | 0, _, _, _, _ => none
  | n + 1, σ, x1, x2, x3 => So_listMembers_b10 F (So_listMembers_10 F n) σ x1 x2 x3
def So_listMembers (F : Nat) (σ : zS) (x1 : Int32) : Option zS :=
  So_listMembers_10 F F σ x1 10 (0 : Int32)
def So_listTold_90 (F : Nat) (rc2 : zS → Int32 → Int32 → Option zS) (σ : zS) (x1 : Int32) (x2 : Int32) : Option zS :=
  rc2 σ x1 (x2 + (1 : Int32))
def So_listTold_46 (F : Nat) (rc2 : zS → Int32 → Int32 → Option zS) (σ : zS) (x1 : Int32) (x2 : Int32) (s0 : Int32) : Option zS :=
  if s0 < 0 then (So_listTold_90 F rc2 σ x1 x2)
  else (if ((x1 >>> (s0 &&& 31)) &&& (1 : Int32)) = 0 then (So_listTold_90 F rc2 σ x1 x2)
  else (gd (inb s0 16) (gd (inb x2 600) (bv (So_equate F σ (ga σ 40 s0.toNatClampNeg) (ga σ 47 x2.toNatClampNeg) (ga σ 45 x2.toNatClampNeg)) (fun σ5 => So_listTold_90 F rc2 σ5 x1 x2)))))
def So_listTold_b2 (F : Nat) (rc2 : zS → Int32 → Int32 → Option zS) (σ : zS) (x1 : Int32) (x2 : Int32) : Option zS :=
  if (gi σ 505) ≤ x2 then (some σ)
  else (gd (inb x2 600) (if (ga σ 43 x2.toNatClampNeg) = (4 : Int32) then (bi (Te_findDeclared F σ (gb σ 44 x2.toNatClampNeg)) (fun r5 σ4 => So_listTold_46 F rc2 σ4 x1 x2 r5))
  else (So_listTold_46 F rc2 σ x1 x2 (-1 : Int32))))
def So_listTold_2 (F : Nat) : Nat → zS → Int32 → Int32 → Option zS
  | 0, _, _, _ => none
  | n + 1, σ, x1, x2 => So_listTold_b2 F (So_listTold_2 F n) σ x1 x2
def So_listTold (F : Nat) (σ : zS) (x1 : Int32) : Option zS :=
  So_listTold_2 F F σ x1 (0 : Int32)
def So_wholeKind_b50 (F : Nat) (rc50 : zS → Int32 → Int32 → Int32 → Option (Int32 × zS)) (σ : zS) (x2 : Int32) (x3 : Int32) (x4 : Int32) : Option (Int32 × zS) :=
  if x4 < 0 then (some (x3, σ))
  else (gd (inb (x2 + x4) 48) (bi (Ki_makeArrow F σ (ga σ 41 (x2 + x4).toNatClampNeg) x3) (fun r4 σ3 => rc50 σ3 x2 r4 (x4 + (-1 : Int32)))))
def So_wholeKind_50 (F : Nat) : Nat → zS → Int32 → Int32 → Int32 → Option (Int32 × zS)
  | 0, _, _, _, _ => none
  | n + 1, σ, x2, x3, x4 => So_wholeKind_b50 F (So_wholeKind_50 F n) σ x2 x3 x4
def So_wholeKind (F : Nat) (σ : zS) (x1 : Int32) : Option (Int32 × zS) :=
  gd (inb x1 16) (if (ga σ 29 x1.toNatClampNeg) = (2 : Int32) then (gd (inb (x1 * (3 : Int32)) 48) (some ((ga σ 41 (x1 * (3 : Int32)).toNatClampNeg), σ)))
  else (So_wholeKind_50 F F σ (x1 * (3 : Int32)) (ga σ 42 x1.toNatClampNeg) ((ga σ 32 x1.toNatClampNeg) - (1 : Int32))))
def So_makeKinds_112 (F : Nat) (rc2 : zS → Int32 → Int32 → Option zS) (σ : zS) (x1 : Int32) (x2 : Int32) : Option zS :=
  rc2 σ x1 (x2 + (1 : Int32))
def So_makeKinds_97 (F : Nat) (rc2 : zS → Int32 → Int32 → Option zS) (σ : zS) (x1 : Int32) (x2 : Int32) (s1 : Int32) (s2 : Int32) : Option zS :=
  gd (inb s1 16) (bi (So_wholeKind F (sa σ 42 s1.toNatClampNeg s2) x2) (fun r3 σ2 => gd (inb x2 16) (So_makeKinds_112 F rc2 (sa σ2 40 x2.toNatClampNeg r3) x1 x2)))
def So_makeKinds_b26 (F : Nat) (rc2 : zS → Int32 → Int32 → Option zS) (rc26 : zS → Int32 → Int32 → Int32 → Option zS) (σ : zS) (x1 : Int32) (x2 : Int32) (x3 : Int32) : Option zS :=
  gd (inb x2 16) (if (ga σ 32 x2.toNatClampNeg) ≤ x3 then (if (ga σ 29 x2.toNatClampNeg) = (1 : Int32) then (bi (Ki_makeOpen F σ) (fun r5 σ4 => So_makeKinds_97 F rc2 σ4 x1 x2 x2 r5))
  else (So_makeKinds_97 F rc2 σ x1 x2 x2 (0 : Int32)))
  else (bi (Ki_makeOpen F σ) (fun r8 σ7 => gd (inb ((x2 * (3 : Int32)) + x3) 48) (rc26 (sa σ7 41 ((x2 * (3 : Int32)) + x3).toNatClampNeg r8) x1 x2 (x3 + (1 : Int32))))))
def So_makeKinds_26 (F : Nat) (rc2 : zS → Int32 → Int32 → Option zS) : Nat → zS → Int32 → Int32 → Int32 → Option zS
  | 0, _, _, _, _ => none
  | n + 1, σ, x1, x2, x3 => So_makeKinds_b26 F rc2 (So_makeKinds_26 F rc2 n) σ x1 x2 x3
def So_makeKinds_b2 (F : Nat) (rc2 : zS → Int32 → Int32 → Option zS) (σ : zS) (x1 : Int32) (x2 : Int32) : Option zS :=
  if (gi σ 400) ≤ x2 then (some σ)
  else (if ((x1 >>> (x2 &&& 31)) &&& (1 : Int32)) = 0 then (So_makeKinds_112 F rc2 σ x1 x2)
  else (So_makeKinds_26 F rc2 F σ x1 x2 (0 : Int32)))
def So_makeKinds_2 (F : Nat) : Nat → zS → Int32 → Int32 → Option zS
  | 0, _, _, _ => none
  | n + 1, σ, x1, x2 => So_makeKinds_b2 F (So_makeKinds_2 F n) σ x1 x2
def So_makeKinds (F : Nat) (σ : zS) (x1 : Int32) : Option zS :=
  So_makeKinds_2 F F σ x1 (0 : Int32)
def So_solveListed_86 (F : Nat) (σ : zS) : Option zS :=
  some σ
def So_solveListed_80 (F : Nat) (rc2 : zS → Int32 → Option zS) (σ : zS) (x1 : Int32) : Option zS :=
  rc2 σ (x1 + (1 : Int32))
def So_solveListed_b2 (F : Nat) (rc2 : zS → Int32 → Option zS) (σ : zS) (x1 : Int32) : Option zS :=
  if (gi σ 807) ≤ x1 then (So_solveListed_86 F σ)
  else (bi (Fa_isThere F σ) (fun r3 σ2 => if r3 = 0 then (gd (inb x1 216) (bi (Ki_unify F σ2 (ga σ2 49 x1.toNatClampNeg) (ga σ2 50 x1.toNatClampNeg)) (fun r8 σ7 => if r8 = 0 then (bv (Fa_raise F σ7 (6 : Int32) (ga σ7 51 x1.toNatClampNeg)) (fun σ11 => bv (Ki_showSides F σ11 (ga σ11 49 x1.toNatClampNeg) (ga σ11 50 x1.toNatClampNeg)) (fun σ13 => So_solveListed_80 F rc2 σ13 x1)))
  else (So_solveListed_80 F rc2 σ7 x1))))
  else (So_solveListed_86 F σ2)))
def So_solveListed_2 (F : Nat) : Nat → zS → Int32 → Option zS
  | 0, _, _ => none
  | n + 1, σ, x1 => So_solveListed_b2 F (So_solveListed_2 F n) σ x1
def So_solveListed (F : Nat) (σ : zS) : Option zS :=
  So_solveListed_2 F F σ (0 : Int32)
def So_solveText_75 (F : Nat) (σ : zS) : Option zS :=
  some σ
def So_solveText_b2 (F : Nat) (rc2 : zS → Int32 → Option zS) (σ : zS) (x1 : Int32) : Option zS :=
  if (gi σ 412) ≤ x1 then (So_solveText_75 F σ)
  else (bi (Fa_isThere F σ) (fun r3 σ2 => if r3 = 0 then (gd (inb x1 16) (bv (So_makeKinds F (si σ2 807 (0 : Int32)) (ga σ2 39 x1.toNatClampNeg)) (fun σ7 => bv (So_listTold F σ7 (ga σ2 39 x1.toNatClampNeg)) (fun σ9 => bv (So_listMembers F σ9 (ga σ2 39 x1.toNatClampNeg)) (fun σ11 => bv (So_solveListed F σ11) (fun σ13 => bv (So_countOpens F σ13 (ga σ2 39 x1.toNatClampNeg)) (fun σ15 => bv (Ki_closeGroup F σ15) (fun σ17 => rc2 σ17 (x1 + (1 : Int32))))))))))
  else (So_solveText_75 F σ2)))
def So_solveText_2 (F : Nat) : Nat → zS → Int32 → Option zS
  | 0, _, _ => none
  | n + 1, σ, x1 => So_solveText_b2 F (So_solveText_2 F n) σ x1
def So_solveText (F : Nat) (σ : zS) : Option zS :=
  So_solveText_2 F F σ (0 : Int32)
def So_solveAsked (F : Nat) (σ : zS) (x1 : Nat) (x2 : Int32) : Option zS :=
  bv (So_listTerm F (si σ 807 (0 : Int32)) x1 x2) (fun σ1 => bv (So_solveListed F σ1) (fun σ3 => some σ3))
def Pl_copyNodes_53 (F : Nat) (σ : zS) : Option zS :=
  some σ
def Pl_copyNodes_b3 (F : Nat) (rc3 : zS → Nat → Int32 → Nat → Int32 → Option zS) (σ : zS) (x1 : Nat) (x3 : Int32) (x4 : Nat) (x5 : Int32) : Option zS :=
  if x3 ≤ x5 then (Pl_copyNodes_53 F σ)
  else (if (gi σ 908) = 0 then (Pl_copyNodes_53 F σ)
  else (gd (isRow x1) (gd (inb x5 200) (gd (isRow x4) (bi (Ro_add F σ x4 (ma σ (rA x1 0) x5.toNatClampNeg) (mb σ (rA x1 1) x5.toNatClampNeg) (ma σ (rA x1 2) x5.toNatClampNeg) (0 : Int32)) (fun r7 σ5 => gd (isB r7) (rc3 (si σ5 908 r7) x1 x3 x4 (x5 + (1 : Int32)))))))))
def Pl_copyNodes_3 (F : Nat) : Nat → zS → Nat → Int32 → Nat → Int32 → Option zS
  | 0, _, _, _, _, _ => none
  | n + 1, σ, x1, x3, x4, x5 => Pl_copyNodes_b3 F (Pl_copyNodes_3 F n) σ x1 x3 x4 x5
def Pl_copyNodes (F : Nat) (σ : zS) (x1 : Nat) (x2 : Int32) (x3 : Int32) (x4 : Nat) : Option zS :=
  Pl_copyNodes_3 F F σ x1 x3 x4 x2
def Pl_copyRightSide_160 (F : Nat) (rc29 : zS → Int32 → Nat → Int32 → Int32 → Option zS) (σ : zS) (x1 : Int32) (x2 : Nat) (x4 : Int32) (x5 : Int32) : Option zS :=
  rc29 σ x1 x2 x4 (x5 + (1 : Int32))
def Pl_copyRightSide_66 (F : Nat) (rc29 : zS → Int32 → Nat → Int32 → Int32 → Option zS) (σ : zS) (x1 : Int32) (x2 : Nat) (x4 : Int32) (x5 : Int32) (s0 : Int32) : Option zS :=
  if 0 ≤ s0 then (gd (isRow (gr σ 902)) (gd (inb s0 4) (gd (inb (s0 + (1 : Int32)) 4) (bv (Pl_copyNodes F σ (gr σ 901) (ga σ 57 s0.toNatClampNeg) (ga σ 57 (s0 + (1 : Int32)).toNatClampNeg) (gr σ 902)) (fun σ5 => gd (isRow (gr σ5 902)) (if (mi σ5 (100 * (gr σ5 902) + 4)) ≤ (mi σ (100 * (gr σ 902) + 4)) then (Pl_copyRightSide_160 F rc29 σ5 x1 x2 x4 x5)
  else (gd (inb (mi σ (100 * (gr σ 902) + 4)) 200) (gd (isRow x2) (gd (inb x5 200) (Pl_copyRightSide_160 F rc29 (ta σ5 (rA (gr σ5 902) 2) (mi σ (100 * (gr σ 902) + 4)).toNatClampNeg ((ma σ5 (rA (gr σ5 902) 2) (mi σ (100 * (gr σ 902) + 4)).toNatClampNeg) + (ma σ5 (rA x2 2) x5.toNatClampNeg))) x1 x2 x4 x5))))))))))
  else (bv (Pl_copyNodes F σ x2 x5 (x5 + (1 : Int32)) (gr σ 902)) (fun σ12 => Pl_copyRightSide_160 F rc29 σ12 x1 x2 x4 x5))
def Pl_copyRightSide_b29 (F : Nat) (rc29 : zS → Int32 → Nat → Int32 → Int32 → Option zS) (σ : zS) (x1 : Int32) (x2 : Nat) (x4 : Int32) (x5 : Int32) : Option zS :=
  if x4 ≤ x5 then (some σ)
  else (gd (isRow x2) (gd (inb x5 200) (if (ma σ (rA x2 0) x5.toNatClampNeg) = (3 : Int32) then (bi (Te_findParam F σ x1 (mb σ (rA x2 1) x5.toNatClampNeg)) (fun r6 σ5 => Pl_copyRightSide_66 F rc29 σ5 x1 x2 x4 x5 r6))
  else (Pl_copyRightSide_66 F rc29 σ x1 x2 x4 x5 (-1 : Int32)))))
def Pl_copyRightSide_29 (F : Nat) : Nat → zS → Int32 → Nat → Int32 → Int32 → Option zS
  | 0, _, _, _, _, _ => none
  | n + 1, σ, x1, x2, x4, x5 => Pl_copyRightSide_b29 F (Pl_copyRightSide_29 F n) σ x1 x2 x4 x5
def Pl_copyRightSide (F : Nat) (σ : zS) (x1 : Int32) : Option zS :=
  gd (isRow 10) (bi (Ro_termOf F σ 10 x1) (fun r3 σ1 => bi (Ro_termEnd F σ1 10 r3) (fun r6 σ5 => gd (inb r3 201) (Pl_copyRightSide_29 F F σ5 x1 10 r6 (ma σ5 (rA 10 4) r3.toNatClampNeg)))))
def Pl_replace_128 (F : Nat) (σ : zS) (x3 : Int32) : Option zS :=
  gd (inb x3 4) (gd (isRow (gr σ 901)) (bv (Pl_copyNodes F σ (gr σ 901) (ga σ 57 x3.toNatClampNeg) (mi σ (100 * (gr σ 901) + 4)) (gr σ 902)) (fun σ3 => some (sr (sr σ3 901 (gr σ3 902)) 902 (gr σ3 901)))))
def Pl_replace_b22 (F : Nat) (rc22 : zS → Int32 → Int32 → Int32 → Int32 → Option zS) (σ : zS) (x1 : Int32) (x2 : Int32) (x3 : Int32) (x4 : Int32) : Option zS :=
  if x3 ≤ x4 then (gd (isRow (gr σ 902)) (bv (Ro_clear F σ (gr σ 902)) (fun σ2 => bv (Pl_copyNodes F σ2 (gr σ2 901) (0 : Int32) x1 (gr σ2 902)) (fun σ5 => gd (isRow (gr σ5 902)) (bv (Pl_copyRightSide F σ5 x2) (fun σ8 => gd (isRow (gr σ8 902)) (if (mi σ8 (100 * (gr σ8 902) + 4)) ≤ (mi σ5 (100 * (gr σ5 902) + 4)) then (Pl_replace_128 F σ8 x3)
  else (gd (inb (mi σ5 (100 * (gr σ5 902) + 4)) 200) (gd (isRow (gr σ8 901)) (gd (inb x1 200) (Pl_replace_128 F (ta σ8 (rA (gr σ8 902) 2) (mi σ5 (100 * (gr σ5 902) + 4)).toNatClampNeg ((ma σ8 (rA (gr σ8 902) 2) (mi σ5 (100 * (gr σ5 902) + 4)).toNatClampNeg) + ((ma σ8 (rA (gr σ8 901) 2) x1.toNatClampNeg) - x3))) x3)))))))))))
  else (gd (inb x4 4) (gd (isRow (gr σ 901)) (bi (Ro_endOf F σ (gr σ 901) (ga σ 57 x4.toNatClampNeg)) (fun r18 σ16 => gd (inb (x4 + (1 : Int32)) 4) (rc22 (sa σ16 57 (x4 + (1 : Int32)).toNatClampNeg r18) x1 x2 x3 (x4 + (1 : Int32)))))))
def Pl_replace_22 (F : Nat) : Nat → zS → Int32 → Int32 → Int32 → Int32 → Option zS
  | 0, _, _, _, _, _ => none
  | n + 1, σ, x1, x2, x3, x4 => Pl_replace_b22 F (Pl_replace_22 F n) σ x1 x2 x3 x4
def Pl_replace (F : Nat) (σ : zS) (x1 : Int32) (x2 : Int32) : Option zS :=
  gd (inb x2 16) (gd (inb (0 : Int32) 4) (Pl_replace_22 F F (sa σ 57 (0 : Int32).toNatClampNeg (x1 + (1 : Int32))) x1 x2 (ga σ 32 x2.toNatClampNeg) (0 : Int32)))
def Pl_replaceAll_135 (F : Nat) (σ : zS) : Option (Int32 × zS) :=
  some ((1 : Int32), σ)
def Pl_replaceAll_129 (F : Nat) (rc40 : zS → Int32 → Int32 → Int32 → Option (Int32 × zS)) (σ : zS) (x3 : Int32) (x4 : Int32) (x5 : Int32) : Option (Int32 × zS) :=
  rc40 σ x3 x4 (x5 + (1 : Int32))
def Pl_replaceAll_b40 (F : Nat) (rc40 : zS → Int32 → Int32 → Int32 → Option (Int32 × zS)) (σ : zS) (x3 : Int32) (x4 : Int32) (x5 : Int32) : Option (Int32 × zS) :=
  if (500 : Int32) < x5 then (Pl_replaceAll_135 F σ)
  else (gd (isRow (gr σ 901)) (if (mi σ (100 * (gr σ 901) + 4)) ≤ x4 then (Pl_replaceAll_135 F σ)
  else (gd (inb x4 200) (bi (Te_findSynonym F σ (ma σ (rA (gr σ 901) 0) x4.toNatClampNeg) (mb σ (rA (gr σ 901) 1) x4.toNatClampNeg)) (fun r6 σ5 => if 0 ≤ r6 then (if x3 = (300 : Int32) then (some ((0 : Int32), σ5))
  else (bv (Pl_replace F σ5 x4 r6) (fun σ10 => if (gi σ10 908) = 0 then (some ((0 : Int32), σ10))
  else (Pl_replaceAll_129 F rc40 σ10 (x3 + (1 : Int32)) x4 x5))))
  else (Pl_replaceAll_129 F rc40 σ5 x3 (x4 + (1 : Int32)) x5))))))
def Pl_replaceAll_40 (F : Nat) : Nat → zS → Int32 → Int32 → Int32 → Option (Int32 × zS)
  | 0, _, _, _, _ => none
  | n + 1, σ, x3, x4, x5 => Pl_replaceAll_b40 F (Pl_replaceAll_40 F n) σ x3 x4 x5
def Pl_replaceAll (F : Nat) (σ : zS) (x1 : Nat) (x2 : Int32) : Option (Int32 × zS) :=
  gd (isRow (gr σ 901)) (bv (Ro_clear F σ (gr σ 901)) (fun σ1 => gd (isRow x1) (gd (inb x2 201) (bi (Ro_termEnd F (si σ1 908 (1 : Int32)) x1 x2) (fun r7 σ6 => bv (Pl_copyNodes F σ6 x1 (ma σ1 (rA x1 4) x2.toNatClampNeg) r7 (gr σ6 901)) (fun σ9 => Pl_replaceAll_40 F F σ9 (0 : Int32) (0 : Int32) (0 : Int32)))))))
def Pl_keep (F : Nat) (σ : zS) : Option zS :=
  some (sr (sr σ 903 (gr σ 901)) 901 (gr σ 903))
def Pl_isAsKept (F : Nat) (σ : zS) : Option (Int32 × zS) :=
  gd (isRow (gr σ 901)) (bi (Ro_isLike F σ (gr σ 901) (gr σ 903)) (fun r3 σ1 => gd (isB r3) (some (r3, σ1))))
def Pl_isWrapped_112 (F : Nat) (σ : zS) (s0 : Int32) : Option (Int32 × zS) :=
  gd (isB s0) (some (s0, σ))
def Pl_isWrapped_111 (F : Nat) (σ : zS) : Option (Int32 × zS) :=
  Pl_isWrapped_112 F σ (0 : Int32)
def Pl_isWrapped_69 (F : Nat) (σ : zS) (s0 : Int32) : Option (Int32 × zS) :=
  gd (isB s0) (some (s0, σ))
def Pl_isWrapped_64 (F : Nat) (σ : zS) : Option (Int32 × zS) :=
  Pl_isWrapped_69 F σ (1 : Int32)
def Pl_isWrapped (F : Nat) (σ : zS) (x1 : Int32) (x2 : Int32) : Option (Int32 × zS) :=
  if 0 ≤ x2 then (gd (inb x2 200) (gd (isRow (gr σ 901)) (bi (Ro_fixedOf F σ (gr σ 901) (ga σ 58 x2.toNatClampNeg)) (fun r5 σ3 => if (ga σ 59 x2.toNatClampNeg) < r5 then (gd (isRow (gr σ3 901)) (gd (inb (ga σ 58 x2.toNatClampNeg) 200) (if (ma σ3 (rA (gr σ3 901) 0) (ga σ 58 x2.toNatClampNeg).toNatClampNeg) = (45 : Int32) then (if (ga σ3 59 x2.toNatClampNeg) = 0 then (gd (inb x1 200) (if (ma σ3 (rA (gr σ3 901) 0) x1.toNatClampNeg) = (45 : Int32) then (Pl_isWrapped_112 F σ3 (1 : Int32))
  else (Pl_isWrapped_111 F σ3)))
  else (Pl_isWrapped_111 F σ3))
  else (Pl_isWrapped_111 F σ3))))
  else (gd (isRow (gr σ3 901)) (gd (inb x1 200) (bi (Ro_fixedOf F σ3 (gr σ3 901) x1) (fun r17 σ16 => if r17 < (ma σ3 (rA (gr σ3 901) 2) x1.toNatClampNeg) then (Pl_isWrapped_64 F σ16)
  else (gd (isRow (gr σ16 901)) (if (ma σ16 (rA (gr σ16 901) 0) x1.toNatClampNeg) = (45 : Int32) then (Pl_isWrapped_64 F σ16)
  else (Pl_isWrapped_69 F σ16 (0 : Int32))))))))))))
  else (some ((0 : Int32), σ))
def Pl_beginNode_104 (F : Nat) (σ : zS) (x1 : Int32) (x2 : Nat) : Option zS :=
  gd (isRow (gr σ 901)) (gd (inb x1 200) (gd (isLine x2) (bv (Li_putName F σ x2 (mb σ (rA (gr σ 901) 1) x1.toNatClampNeg)) (fun σ3 => some σ3))))
def Pl_beginNode_84 (F : Nat) (σ : zS) (x1 : Int32) (x2 : Nat) : Option zS :=
  gd (isRow (gr σ 901)) (gd (inb x1 200) (if (ma σ (rA (gr σ 901) 0) x1.toNatClampNeg) = (91 : Int32) then (gd (isLine x2) (bv (Li_put F σ x2 (91 : Int32)) (fun σ4 => Pl_beginNode_104 F σ4 x1 x2)))
  else (Pl_beginNode_104 F σ x1 x2)))
def Pl_beginNode_64 (F : Nat) (σ : zS) (x1 : Int32) (x2 : Nat) : Option zS :=
  bi (Pl_isWrapped F σ x1 ((gi σ 907) - (1 : Int32))) (fun r2 σ1 => if r2 = 0 then (Pl_beginNode_84 F σ1 x1 x2)
  else (gd (isLine x2) (bv (Li_put F σ1 x2 (40 : Int32)) (fun σ5 => Pl_beginNode_84 F σ5 x1 x2))))
def Pl_beginNode (F : Nat) (σ : zS) (x1 : Int32) (x2 : Nat) : Option zS :=
  if (gi σ 907) ≤ 0 then (Pl_beginNode_64 F σ x1 x2)
  else (gd (inb ((gi σ 907) - (1 : Int32)) 200) (gd (isRow (gr σ 901)) (bi (Ro_fixedOf F σ (gr σ 901) (ga σ 58 ((gi σ 907) - (1 : Int32)).toNatClampNeg)) (fun r5 σ3 => if (ga σ 59 ((gi σ 907) - (1 : Int32)).toNatClampNeg) < r5 then (if (ga σ 59 ((gi σ 907) - (1 : Int32)).toNatClampNeg) = (1 : Int32) then (gd (isLine x2) (bv (Li_putArrow F σ3 x2) (fun σ9 => Pl_beginNode_64 F σ9 x1 x2)))
  else (Pl_beginNode_64 F σ3 x1 x2))
  else (gd (isLine x2) (bv (Li_put F σ3 x2 (32 : Int32)) (fun σ12 => Pl_beginNode_64 F σ12 x1 x2)))))))
def Pl_endNodes_145 (F : Nat) (σ : zS) : Option zS :=
  some σ
def Pl_endNodes_139 (F : Nat) (rc2 : zS → Nat → Int32 → Option zS) (σ : zS) (x1 : Nat) (x2 : Int32) : Option zS :=
  rc2 σ x1 (x2 + (1 : Int32))
def Pl_endNodes_117 (F : Nat) (rc2 : zS → Nat → Int32 → Option zS) (σ : zS) (x1 : Nat) (x2 : Int32) : Option zS :=
  if (gi σ 907) ≤ 0 then (Pl_endNodes_139 F rc2 σ x1 x2)
  else (gd (inb ((gi σ 907) - (1 : Int32)) 200) (Pl_endNodes_139 F rc2 (sa σ 59 ((gi σ 907) - (1 : Int32)).toNatClampNeg ((ga σ 59 ((gi σ 907) - (1 : Int32)).toNatClampNeg) + (1 : Int32))) x1 x2))
def Pl_endNodes_63 (F : Nat) (rc2 : zS → Nat → Int32 → Option zS) (σ : zS) (x1 : Nat) (x2 : Int32) (x3 : Int32) : Option zS :=
  gd (inb ((gi σ 907) - (1 : Int32)) 200) (gd (isRow (gr σ 901)) (gd (inb x3 200) (if (ma σ (rA (gr σ 901) 2) x3.toNatClampNeg) ≤ (ga σ 59 ((gi σ 907) - (1 : Int32)).toNatClampNeg) then (bi (Pl_isWrapped F (si σ 907 ((gi σ 907) - (1 : Int32))) x3 (((gi σ 907) - (1 : Int32)) - (1 : Int32))) (fun r6 σ5 => if r6 = 0 then (Pl_endNodes_117 F rc2 σ5 x1 x2)
  else (gd (isLine x1) (bv (Li_put F σ5 x1 (41 : Int32)) (fun σ9 => Pl_endNodes_117 F rc2 σ9 x1 x2)))))
  else (some σ))))
def Pl_endNodes_b2 (F : Nat) (rc2 : zS → Nat → Int32 → Option zS) (σ : zS) (x1 : Nat) (x2 : Int32) : Option zS :=
  if (200 : Int32) ≤ x2 then (Pl_endNodes_145 F σ)
  else (if (gi σ 907) ≤ 0 then (Pl_endNodes_145 F σ)
  else (gd (inb ((gi σ 907) - (1 : Int32)) 200) (gd (isRow (gr σ 901)) (gd (inb (ga σ 58 ((gi σ 907) - (1 : Int32)).toNatClampNeg) 200) (if (ma σ (rA (gr σ 901) 0) (ga σ 58 ((gi σ 907) - (1 : Int32)).toNatClampNeg).toNatClampNeg) = (91 : Int32) then (if (ga σ 59 ((gi σ 907) - (1 : Int32)).toNatClampNeg) = (1 : Int32) then (gd (isLine x1) (bv (Li_put F σ x1 (93 : Int32)) (fun σ8 => Pl_endNodes_63 F rc2 σ8 x1 x2 (ga σ 58 ((gi σ 907) - (1 : Int32)).toNatClampNeg))))
  else (Pl_endNodes_63 F rc2 σ x1 x2 (ga σ 58 ((gi σ 907) - (1 : Int32)).toNatClampNeg)))
  else (Pl_endNodes_63 F rc2 σ x1 x2 (ga σ 58 ((gi σ 907) - (1 : Int32)).toNatClampNeg)))))))
def Pl_endNodes_2 (F : Nat) : Nat → zS → Nat → Int32 → Option zS
  | 0, _, _, _ => none
  | n + 1, σ, x1, x2 => Pl_endNodes_b2 F (Pl_endNodes_2 F n) σ x1 x2
def Pl_endNodes (F : Nat) (σ : zS) (x1 : Nat) : Option zS :=
  Pl_endNodes_2 F F σ x1 (0 : Int32)
def Pl_show_79 (F : Nat) (σ : zS) : Option zS :=
  some σ
def Pl_show_b11 (F : Nat) (rc11 : zS → Nat → Int32 → Option zS) (σ : zS) (x1 : Nat) (x2 : Int32) : Option zS :=
  gd (isRow (gr σ 901)) (if (mi σ (100 * (gr σ 901) + 4)) ≤ x2 then (Pl_show_79 F σ)
  else (if (200 : Int32) ≤ (gi σ 907) then (Pl_show_79 F σ)
  else (bv (Pl_beginNode F σ x2 x1) (fun σ4 => gd (inb (gi σ4 907) 200) (bv (Pl_endNodes F (si (sa (sa σ4 58 (gi σ4 907).toNatClampNeg x2) 59 (gi σ4 907).toNatClampNeg (0 : Int32)) 907 ((gi σ4 907) + (1 : Int32))) x1) (fun σ7 => rc11 σ7 x1 (x2 + (1 : Int32))))))))
def Pl_show_11 (F : Nat) : Nat → zS → Nat → Int32 → Option zS
  | 0, _, _, _ => none
  | n + 1, σ, x1, x2 => Pl_show_b11 F (Pl_show_11 F n) σ x1 x2
def Pl_show (F : Nat) (σ : zS) (x1 : Nat) : Option zS :=
  gd (isLine x1) (bv (Li_clear F σ x1) (fun σ1 => Pl_show_11 F F (si σ1 907 (0 : Int32)) x1 (0 : Int32)))
def Q_feed (F : Nat) (σ : zS) (x1 : Int32) (x2 : Int32) (x3 : Int32) (x4 : Int32) (x5 : Int32) : Option (Int32 × zS) :=
  bi (Ta_hasRoom F σ) (fun r2 σ1 => if r2 = 0 then (some ((-4 : Int32), σ1))
  else (bv (Ta_append F σ1 x1) (fun σ5 => bv (Ta_append F σ5 x2) (fun σ7 => bv (Ta_append F σ7 x3) (fun σ9 => bv (Ta_append F σ9 x4) (fun σ11 => bv (Ta_append F σ11 x5) (fun σ13 => some ((gi σ13 101), σ13))))))))
def Q_cut_15 (F : Nat) (σ : zS) : Option (Int32 × zS) :=
  some ((-2 : Int32), σ)
def Q_cut (F : Nat) (σ : zS) (x1 : Int32) : Option (Int32 × zS) :=
  if x1 < 0 then (Q_cut_15 F σ)
  else (if x1 ≤ (gi σ 101) then (some (((gi σ 101) - x1), (si σ 101 x1)))
  else (Q_cut_15 F σ))
def Q_read_81 (F : Nat) (σ : zS) : Option (Int32 × zS) :=
  bi (Fa_isThere F σ) (fun r2 σ1 => if r2 = 0 then (some ((gi σ1 400), σ1))
  else (bv (Te_clear F σ1) (fun σ5 => some (((-10 : Int32) - (gi σ5 200)), σ5))))
def Q_read (F : Nat) (σ : zS) : Option (Int32 × zS) :=
  bv (Fa_clear F σ) (fun σ1 => bv (Me_clear F σ1) (fun σ3 => bv (Ki_clear F σ3) (fun σ5 => bv (Te_clear F σ5) (fun σ7 => bv (Ta_scan F σ7) (fun σ9 => bv (Pa_parseText F σ9) (fun σ11 => bv (Ch_checkText F (si σ11 101 (0 : Int32))) (fun σ13 => bi (Fa_isThere F σ13) (fun r16 σ15 => if r16 = 0 then (bv (Te_formGroups F σ15) (fun σ19 => bv (So_solveText F σ19) (fun σ21 => Q_read_81 F σ21)))
  else (Q_read_81 F σ15)))))))))
def Q_place_22 (F : Nat) (σ : zS) (s0 : Int32) : Option (Int32 × zS) :=
  some (s0, σ)
def Q_place (F : Nat) (σ : zS) : Option (Int32 × zS) :=
  bi (Fa_isThere F σ) (fun r2 σ1 => if r2 = 0 then (Q_place_22 F σ1 (-3 : Int32))
  else (Q_place_22 F σ1 (gi σ1 201)))
def Q_side_48 (F : Nat) (σ : zS) (s0 : Nat) : Option (Int32 × zS) :=
  gd (isLine s0) (if (mi σ (100 * s0 + 1)) ≤ (2000 : Int32) then (gd (isLine (gr σ 10)) (bv (Li_copy F σ (gr σ 10) s0) (fun σ3 => gd (isLine (gr σ3 10)) (some ((mi σ3 (100 * (gr σ3 10) + 1)), σ3)))))
  else (some ((-4 : Int32), σ)))
def Q_side_12 (F : Nat) (σ : zS) (x1 : Int32) : Option (Int32 × zS) :=
  if (gi σ 200) = (6 : Int32) then (if x1 = 0 then (Q_side_48 F σ 15)
  else (Q_side_48 F σ 16))
  else (some ((-3 : Int32), σ))
def Q_side (F : Nat) (σ : zS) (x1 : Int32) : Option (Int32 × zS) :=
  if x1 = 0 then (Q_side_12 F σ x1)
  else (if x1 = (1 : Int32) then (Q_side_12 F σ x1)
  else (some ((-2 : Int32), σ)))
def Q_out_28 (F : Nat) (σ : zS) (s0 : Int32) : Option (Int32 × zS) :=
  some (s0, σ)
def Q_out_27 (F : Nat) (σ : zS) : Option (Int32 × zS) :=
  Q_out_28 F σ (-1 : Int32)
def Q_out (F : Nat) (σ : zS) (x1 : Int32) : Option (Int32 × zS) :=
  if x1 < 0 then (Q_out_27 F σ)
  else (gd (isLine (gr σ 10)) (if (mi σ (100 * (gr σ 10) + 1)) ≤ x1 then (Q_out_27 F σ)
  else (gd (inb x1 2400) (Q_out_28 F σ (ma σ (lA (gr σ 10)) x1.toNatClampNeg)))))
def Q_told (F : Nat) (σ : zS) (x1 : Int32) (x2 : Int32) : Option (Int32 × zS) :=
  bi (Te_has F σ x1) (fun r2 σ1 => if r2 = 0 then (some ((-1 : Int32), σ1))
  else (if x2 = (0 : Int32) then (gd (inb x1 16) (some ((ga σ1 29 x1.toNatClampNeg), σ1)))
  else if x2 = (1 : Int32) then (gd (inb x1 16) (some ((ga σ1 32 x1.toNatClampNeg), σ1)))
  else if x2 = (2 : Int32) then (gd (inb x1 16) (some ((ga σ1 36 x1.toNatClampNeg), σ1)))
  else if x2 = (3 : Int32) then (gd (inb x1 16) (some ((ga σ1 31 x1.toNatClampNeg), σ1)))
  else if x2 = (4 : Int32) then (gd (inb x1 16) (some ((ga σ1 34 x1.toNatClampNeg), σ1)))
  else if x2 = (5 : Int32) then (gd (inb x1 16) (some ((ga σ1 35 x1.toNatClampNeg), σ1)))
  else (some ((-2 : Int32), σ1))))
def Q_swapLines (F : Nat) (σ : zS) : Option zS :=
  some (sr (sr σ 10 (gr σ 11)) 11 (gr σ 10))
def Q_showKind (F : Nat) (σ : zS) (x1 : Int32) : Option (Int32 × zS) :=
  gd (isLine (gr σ 11)) (bv (Li_clear F σ (gr σ 11)) (fun σ1 => bv (Ki_show F σ1 x1 (gr σ1 11) (0 : Int32)) (fun σ4 => gd (isLine (gr σ4 11)) (if (mi σ4 (100 * (gr σ4 11) + 1)) ≤ (2000 : Int32) then (bv (Q_swapLines F σ4) (fun σ8 => gd (isLine (gr σ8 10)) (some ((mi σ8 (100 * (gr σ8 10) + 1)), σ8))))
  else (some ((-4 : Int32), σ4))))))
def Q_kindOf_29 (F : Nat) (σ : zS) : Option (Int32 × zS) :=
  some ((-1 : Int32), σ)
def Q_kindOf_61 (F : Nat) (σ : zS) (s1 : Int32) : Option (Int32 × zS) :=
  bi (Q_showKind F σ s1) (fun r2 σ1 => some (r2, σ1))
def Q_kindOf (F : Nat) (σ : zS) (x1 : Int32) (x2 : Int32) : Option (Int32 × zS) :=
  bi (Te_has F σ x1) (fun r2 σ1 => if r2 = 0 then (Q_kindOf_29 F σ1)
  else (if x2 < (-1 : Int32) then (Q_kindOf_29 F σ1)
  else (gd (inb x1 16) (if x2 < (ga σ1 32 x1.toNatClampNeg) then (if 0 ≤ x2 then (gd (inb ((x1 * (3 : Int32)) + x2) 48) (Q_kindOf_61 F σ1 (ga σ1 41 ((x1 * (3 : Int32)) + x2).toNatClampNeg)))
  else (Q_kindOf_61 F σ1 (ga σ1 40 x1.toNatClampNeg)))
  else (Q_kindOf_29 F σ1)))))
def Q_groups (F : Nat) (σ : zS) : Option (Int32 × zS) :=
  some ((gi σ 412), σ)
def Q_member_19 (F : Nat) (σ : zS) : Option (Int32 × zS) :=
  some ((-1 : Int32), σ)
def Q_member (F : Nat) (σ : zS) (x1 : Int32) (x2 : Int32) : Option (Int32 × zS) :=
  if x1 < 0 then (Q_member_19 F σ)
  else (if (gi σ 412) ≤ x1 then (Q_member_19 F σ)
  else (if 0 ≤ x2 then (bi (Te_findMember F σ x1 x2) (fun r5 σ4 => some (r5, σ4)))
  else (Q_member_19 F σ)))
def Q_needs_22 (F : Nat) (σ : zS) : Option (Int32 × zS) :=
  some ((-1 : Int32), σ)
def Q_needs (F : Nat) (σ : zS) (x1 : Int32) (x2 : Int32) : Option (Int32 × zS) :=
  bi (Te_has F σ x1) (fun r2 σ1 => if r2 = 0 then (Q_needs_22 F σ1)
  else (bi (Te_has F σ1 x2) (fun r6 σ5 => if r6 = 0 then (Q_needs_22 F σ5)
  else (gd (inb x1 16) (some ((((ga σ5 38 x1.toNatClampNeg) >>> (x2 &&& 31)) &&& (1 : Int32)), σ5))))))
def Q_takeTypes_112 (F : Nat) (σ : zS) (s0 : Int32) : Option (Int32 × zS) :=
  gd (isB s0) (some (s0, σ))
def Q_takeTypes_97 (F : Nat) (σ : zS) : Option (Int32 × zS) :=
  bi (Fa_isThere F σ) (fun r2 σ1 => if r2 = 0 then (Q_takeTypes_112 F σ1 (1 : Int32))
  else (Q_takeTypes_112 F σ1 (0 : Int32)))
def Q_takeTypes_b64 (F : Nat) (rc64 : zS → Int32 → Int32 → Option (Int32 × zS)) (σ : zS) (x1 : Int32) (x2 : Int32) : Option (Int32 × zS) :=
  if x1 ≤ x2 then (Q_takeTypes_97 F σ)
  else (bi (Fa_isThere F σ) (fun r3 σ2 => if r3 = 0 then (bv (So_solveAsked F σ2 11 x2) (fun σ6 => rc64 σ6 x1 (x2 + (1 : Int32))))
  else (Q_takeTypes_97 F σ2)))
def Q_takeTypes_64 (F : Nat) : Nat → zS → Int32 → Int32 → Option (Int32 × zS)
  | 0, _, _, _ => none
  | n + 1, σ, x1, x2 => Q_takeTypes_b64 F (Q_takeTypes_64 F n) σ x1 x2
def Q_takeTypes (F : Nat) (σ : zS) (x1 : Int32) : Option (Int32 × zS) :=
  bv (Fa_clear F σ) (fun σ1 => bv (Me_clear F σ1) (fun σ3 => gd (isRow 11) (bv (Ro_clear F σ3 11) (fun σ5 => bv (Ki_dropAsked F σ5) (fun σ8 => bv (Ta_scan F σ8) (fun σ10 => bv (Pa_parseTypes F σ10 11 x1) (fun σ12 => bv (Ch_checkTypes F (si σ12 101 (0 : Int32))) (fun σ14 => Q_takeTypes_64 F F σ14 x1 (0 : Int32)))))))))
def Q_kind (F : Nat) (σ : zS) : Option (Int32 × zS) :=
  bi (Q_takeTypes F σ (1 : Int32)) (fun r2 σ1 => if r2 = 0 then (some (((-10 : Int32) - (gi σ1 200)), σ1))
  else (bi (Q_showKind F σ1 (gi σ1 815)) (fun r6 σ5 => some (r6, σ5))))
def Q_plain (F : Nat) (σ : zS) : Option (Int32 × zS) :=
  bi (Q_takeTypes F σ (1 : Int32)) (fun r2 σ1 => if r2 = 0 then (some (((-10 : Int32) - (gi σ1 200)), σ1))
  else (bi (Pl_replaceAll F σ1 11 (0 : Int32)) (fun r6 σ5 => if r6 = 0 then (some ((-4 : Int32), σ5))
  else (bv (Pl_show F σ5 (gr σ5 11)) (fun σ9 => bv (Q_swapLines F σ9) (fun σ11 => gd (isLine (gr σ11 10)) (some ((mi σ11 (100 * (gr σ11 10) + 1)), σ11))))))))
def Q_same_77 (F : Nat) (σ : zS) (s0 : Int32) : Option (Int32 × zS) :=
  some (s0, σ)
def Q_same (F : Nat) (σ : zS) : Option (Int32 × zS) :=
  bi (Q_takeTypes F σ (2 : Int32)) (fun r2 σ1 => if r2 = 0 then (some (((-10 : Int32) - (gi σ1 200)), σ1))
  else (bi (Pl_replaceAll F σ1 11 (0 : Int32)) (fun r6 σ5 => if r6 = 0 then (some ((-4 : Int32), σ5))
  else (bv (Pl_keep F σ5) (fun σ9 => bi (Pl_replaceAll F σ9 11 (1 : Int32)) (fun r12 σ11 => if r12 = 0 then (some ((-4 : Int32), σ11))
  else (bi (Pl_isAsKept F σ11) (fun r16 σ15 => if r16 = 0 then (Q_same_77 F σ15 (0 : Int32))
  else (Q_same_77 F σ15 (1 : Int32))))))))))
