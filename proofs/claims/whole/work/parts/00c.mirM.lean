/-! Mirrors of KindRoundsModel. Written by program (wip/gen). -/
def Md_feed_72 (F : Nat) (rc19 : zS → Int32 → Int32 → Int32 → Int32 → Int32 → Int32 → Option (Int32 × zS)) (σ : zS) (x1 : Int32) (x2 : Int32) (x3 : Int32) (x4 : Int32) (x5 : Int32) (x6 : Int32) (s0 : Int32) : Option (Int32 × zS) :=
  gd (inb (gi σ 2) 1200) (rc19 (si (sa σ 1 (gi σ 2).toNatClampNeg ((s0.toUInt32 >>> (Int32.toUInt32 ((24 : Int32) - ((8 : Int32) * (x6 - x6 / (4 : Int32) * (4 : Int32)))) &&& Int32.toUInt32 31)).toInt32 &&& (255 : Int32))) 2 ((gi σ 2) + (1 : Int32))) x1 x2 x3 x4 x5 (x6 + (1 : Int32)))
def Md_feed_b19 (F : Nat) (rc19 : zS → Int32 → Int32 → Int32 → Int32 → Int32 → Int32 → Option (Int32 × zS)) (σ : zS) (x1 : Int32) (x2 : Int32) (x3 : Int32) (x4 : Int32) (x5 : Int32) (x6 : Int32) : Option (Int32 × zS) :=
  if (20 : Int32) ≤ x6 then (some ((gi σ 2), σ))
  else (if (4 : Int32) ≤ x6 then (if (8 : Int32) ≤ x6 then (if (12 : Int32) ≤ x6 then (if (16 : Int32) ≤ x6 then (Md_feed_72 F rc19 σ x1 x2 x3 x4 x5 x6 x5)
  else (Md_feed_72 F rc19 σ x1 x2 x3 x4 x5 x6 x4))
  else (Md_feed_72 F rc19 σ x1 x2 x3 x4 x5 x6 x3))
  else (Md_feed_72 F rc19 σ x1 x2 x3 x4 x5 x6 x2))
  else (Md_feed_72 F rc19 σ x1 x2 x3 x4 x5 x6 x1))
def Md_feed_19 (F : Nat) : Nat → zS → Int32 → Int32 → Int32 → Int32 → Int32 → Int32 → Option (Int32 × zS)
  | 0, _, _, _, _, _, _, _ => none
  | n + 1, σ, x1, x2, x3, x4, x5, x6 => Md_feed_b19 F (Md_feed_19 F n) σ x1 x2 x3 x4 x5 x6
def Md_feed (F : Nat) (σ : zS) (x1 : Int32) (x2 : Int32) (x3 : Int32) (x4 : Int32) (x5 : Int32) : Option (Int32 × zS) :=
  if ((gi σ 2) + (20 : Int32)) ≤ (1200 : Int32) then (Md_feed_19 F F σ x1 x2 x3 x4 x5 (0 : Int32))
  else (some ((-4 : Int32), σ))
def Md_cut_12 (F : Nat) (σ : zS) : Option (Int32 × zS) :=
  some ((-2 : Int32), σ)
def Md_cut (F : Nat) (σ : zS) (x1 : Int32) : Option (Int32 × zS) :=
  if x1 < 0 then (Md_cut_12 F σ)
  else (if x1 ≤ (gi σ 2) then (some (((gi σ 2) - x1), (si σ 2 x1)))
  else (Md_cut_12 F σ))
def Md_wrong_17 (F : Nat) (σ : zS) : Option zS :=
  some σ
def Md_wrong (F : Nat) (σ : zS) (x1 : Int32) (x2 : Int32) : Option zS :=
  if (gi σ 8) = 0 then (Md_wrong_17 F (si (si σ 8 x1) 9 x2))
  else (Md_wrong_17 F σ)
def Md_byteAt_18 (F : Nat) (σ : zS) (s0 : Int32) : Option (Int32 × zS) :=
  some (s0, σ)
def Md_byteAt (F : Nat) (σ : zS) (x1 : Int32) : Option (Int32 × zS) :=
  if (gi σ 2) ≤ x1 then (Md_byteAt_18 F σ (-1 : Int32))
  else (gd (inb x1 1200) (Md_byteAt_18 F σ (ga σ 1 x1.toNatClampNeg)))
def Md_isUpper_17 (F : Nat) (σ : zS) (s0 : Int32) : Option (Int32 × zS) :=
  gd (isB s0) (some (s0, σ))
def Md_isUpper_16 (F : Nat) (σ : zS) : Option (Int32 × zS) :=
  Md_isUpper_17 F σ (0 : Int32)
def Md_isUpper (F : Nat) (σ : zS) (x0 : Int32) : Option (Int32 × zS) :=
  if x0 < (65 : Int32) then (Md_isUpper_16 F σ)
  else (if (90 : Int32) < x0 then (Md_isUpper_16 F σ)
  else (Md_isUpper_17 F σ (1 : Int32)))
def Md_isLower_17 (F : Nat) (σ : zS) (s0 : Int32) : Option (Int32 × zS) :=
  gd (isB s0) (some (s0, σ))
def Md_isLower_16 (F : Nat) (σ : zS) : Option (Int32 × zS) :=
  Md_isLower_17 F σ (0 : Int32)
def Md_isLower (F : Nat) (σ : zS) (x0 : Int32) : Option (Int32 × zS) :=
  if x0 < (97 : Int32) then (Md_isLower_16 F σ)
  else (if (122 : Int32) < x0 then (Md_isLower_16 F σ)
  else (Md_isLower_17 F σ (1 : Int32)))
def Md_isOf_31 (F : Nat) (σ : zS) (s0 : Int32) : Option (Int32 × zS) :=
  gd (isB s0) (some (s0, σ))
def Md_isOf_26 (F : Nat) (σ : zS) : Option (Int32 × zS) :=
  Md_isOf_31 F σ (1 : Int32)
def Md_isOf_30 (F : Nat) (σ : zS) : Option (Int32 × zS) :=
  Md_isOf_31 F σ (0 : Int32)
def Md_isOf (F : Nat) (σ : zS) (x0 : Int32) : Option (Int32 × zS) :=
  bi (Md_isUpper F σ x0) (fun r2 σ1 => if r2 = 0 then (bi (Md_isLower F σ1 x0) (fun r6 σ5 => if r6 = 0 then (if x0 < (48 : Int32) then (Md_isOf_30 F σ5)
  else (if (57 : Int32) < x0 then (Md_isOf_30 F σ5)
  else (Md_isOf_26 F σ5)))
  else (Md_isOf_26 F σ5)))
  else (Md_isOf_26 F σ1))
def Md_name_172 (F : Nat) (σ : zS) : Option zS :=
  some σ
def Md_name_149 (F : Nat) (σ : zS) (x2 : Int32) (s1 : Int32) : Option zS :=
  if x2 ≤ (8 : Int32) then (Md_name_172 F (si σ 4 s1))
  else (bv (Md_wrong F (si σ 4 s1) (1 : Int32) (gi σ 5)) (fun σ2 => Md_name_172 F (si σ2 4 (5 : Int32))))
def Md_name_148 (F : Nat) (σ : zS) (x2 : Int32) : Option zS :=
  Md_name_149 F σ x2 (2 : Int32)
def Md_name_144 (F : Nat) (σ : zS) (x2 : Int32) : Option zS :=
  Md_name_149 F σ x2 (3 : Int32)
def Md_name_128 (F : Nat) (σ : zS) (x2 : Int32) : Option zS :=
  if (lg_cmp (gl σ 6) (1802071652 : Int64)) = 0 then (if x2 = (4 : Int32) then (Md_name_144 F σ x2)
  else (Md_name_148 F σ x2))
  else (Md_name_148 F σ x2)
def Md_name_112 (F : Nat) (σ : zS) (x2 : Int32) : Option zS :=
  if (lg_cmp (gl σ 6) (427020088179 : Int64)) = 0 then (if x2 = (5 : Int32) then (Md_name_144 F σ x2)
  else (Md_name_128 F σ x2))
  else (Md_name_128 F σ x2)
def Md_name_96 (F : Nat) (σ : zS) (x2 : Int32) : Option zS :=
  if (lg_cmp (gl σ 6) (1954115685 : Int64)) = 0 then (if x2 = (4 : Int32) then (Md_name_144 F σ x2)
  else (Md_name_112 F σ x2))
  else (Md_name_112 F σ x2)
def Md_name_52 (F : Nat) (rc7 : zS → Int32 → Int32 → Option zS) (σ : zS) (x1 : Int32) (x2 : Int32) (s1 : Int64) : Option zS :=
  rc7 (si (sl σ 6 s1) 3 ((gi σ 3) + (1 : Int32))) x1 (x2 + (1 : Int32))
def Md_name_b7 (F : Nat) (rc7 : zS → Int32 → Int32 → Option zS) (σ : zS) (x1 : Int32) (x2 : Int32) : Option zS :=
  bi (Md_byteAt F σ (gi σ 3)) (fun r2 σ1 => bi (Md_isOf F σ1 r2) (fun r5 σ4 => if r5 = 0 then (if x1 = 0 then (if (lg_cmp (gl σ4 6) (1684108385 : Int64)) = 0 then (if x2 = (4 : Int32) then (Md_name_144 F σ4 x2)
  else (Md_name_96 F σ4 x2))
  else (Md_name_96 F σ4 x2))
  else (Md_name_149 F σ4 x2 (1 : Int32)))
  else (if (8 : Int32) ≤ x2 then (Md_name_52 F rc7 σ4 x1 x2 (gl σ4 6))
  else (bi (Md_byteAt F σ4 (gi σ4 3)) (fun r13 σ12 => Md_name_52 F rc7 σ12 x1 x2 (((gl σ4 6) <<< (Int32.toInt64 (8 : Int32) &&& 63)) ||| (Int32.toInt64 r13)))))))
def Md_name_7 (F : Nat) : Nat → zS → Int32 → Int32 → Option zS
  | 0, _, _, _ => none
  | n + 1, σ, x1, x2 => Md_name_b7 F (Md_name_7 F n) σ x1 x2
def Md_name (F : Nat) (σ : zS) (x1 : Int32) : Option zS :=
  Md_name_7 F F (sl σ 6 (0 : Int64)) x1 (0 : Int32)
def Md_next_26 (F : Nat) (rc0 : zS → Option zS) (σ : zS) : Option zS :=
  rc0 (si σ 3 ((gi σ 3) + (1 : Int32)))
def Md_next_67 (F : Nat) (σ : zS) : Option zS :=
  some (si σ 4 (5 : Int32))
def Md_next_87 (F : Nat) (σ : zS) (x1 : Int32) : Option zS :=
  bi (Md_isUpper F σ x1) (fun r2 σ1 => bv (Md_name F σ1 r2) (fun σ4 => some σ4))
def Md_next_271 (F : Nat) (σ : zS) : Option zS :=
  some σ
def Md_next_237 (F : Nat) (σ : zS) (x1 : Int32) (s0 : Int32) : Option zS :=
  if s0 = 0 then (bv (Md_wrong F (si (si σ 7 x1) 3 ((gi σ 3) + (1 : Int32))) (1 : Int32) (gi σ 5)) (fun σ2 => Md_next_271 F (si σ2 4 (5 : Int32))))
  else (Md_next_271 F (si (si σ 7 x1) 3 ((gi σ 3) + (1 : Int32))))
def Md_next_232 (F : Nat) (σ : zS) (x1 : Int32) : Option zS :=
  Md_next_237 F σ x1 (1 : Int32)
def Md_next_166 (F : Nat) (σ : zS) (x1 : Int32) : Option zS :=
  if x1 = (61 : Int32) then (Md_next_232 F σ x1)
  else (if x1 = (124 : Int32) then (Md_next_232 F σ x1)
  else (if x1 = (40 : Int32) then (Md_next_232 F σ x1)
  else (if x1 = (41 : Int32) then (Md_next_232 F σ x1)
  else (if x1 = (91 : Int32) then (Md_next_232 F σ x1)
  else (if x1 = (93 : Int32) then (Md_next_232 F σ x1)
  else (if x1 = (123 : Int32) then (Md_next_232 F σ x1)
  else (if x1 = (125 : Int32) then (Md_next_232 F σ x1)
  else (if x1 = (59 : Int32) then (Md_next_232 F σ x1)
  else (if x1 = (44 : Int32) then (Md_next_232 F σ x1)
  else (if x1 = (42 : Int32) then (Md_next_232 F σ x1)
  else (Md_next_237 F σ x1 (0 : Int32))))))))))))
def Md_next_152 (F : Nat) (σ : zS) (s1 : Int32) : Option zS :=
  some (si (si σ 7 s1) 3 ((gi σ 3) + (2 : Int32)))
def Md_next_136 (F : Nat) (σ : zS) (x1 : Int32) : Option zS :=
  if x1 = (58 : Int32) then (Md_next_152 F σ (1001 : Int32))
  else (Md_next_152 F σ (1000 : Int32))
def Md_next_124 (F : Nat) (σ : zS) (x1 : Int32) (x2 : Int32) : Option zS :=
  if x1 = (45 : Int32) then (if x2 = (62 : Int32) then (Md_next_136 F σ x1)
  else (Md_next_166 F σ x1))
  else (Md_next_166 F σ x1)
def Md_next_b0 (F : Nat) (rc0 : zS → Option zS) (σ : zS) : Option zS :=
  bi (Md_byteAt F σ (gi σ 3)) (fun r2 σ1 => if r2 = (32 : Int32) then (Md_next_26 F rc0 σ1)
  else (bi (Md_byteAt F σ1 (gi σ1 3)) (fun r6 σ5 => if r6 = (10 : Int32) then (Md_next_26 F rc0 σ5)
  else (bi (Md_byteAt F (si σ5 5 (gi σ5 3)) (gi σ5 3)) (fun r10 σ9 => if 0 < (gi σ9 8) then (Md_next_67 F σ9)
  else (if 0 ≤ r10 then (bi (Md_isUpper F σ9 r10) (fun r15 σ14 => if r15 = 0 then (bi (Md_isLower F σ14 r10) (fun r19 σ18 => if r19 = 0 then (bi (Md_byteAt F (si σ18 4 (4 : Int32)) ((gi σ18 3) + (1 : Int32))) (fun r23 σ22 => if r10 = (58 : Int32) then (if r23 = (58 : Int32) then (Md_next_136 F σ22 r10)
  else (Md_next_124 F σ22 r10 r23))
  else (Md_next_124 F σ22 r10 r23)))
  else (Md_next_87 F σ18 r10)))
  else (Md_next_87 F σ14 r10)))
  else (Md_next_67 F σ9)))))))
def Md_next_0 (F : Nat) : Nat → zS → Option zS
  | 0, _ => none
  | n + 1, σ => Md_next_b0 F (Md_next_0 F n) σ
def Md_next (F : Nat) (σ : zS) : Option zS :=
  Md_next_0 F F σ
def Md_isSign_28 (F : Nat) (σ : zS) (s0 : Int32) : Option (Int32 × zS) :=
  gd (isB s0) (some (s0, σ))
def Md_isSign_27 (F : Nat) (σ : zS) : Option (Int32 × zS) :=
  Md_isSign_28 F σ (0 : Int32)
def Md_isSign (F : Nat) (σ : zS) (x1 : Int32) : Option (Int32 × zS) :=
  if (gi σ 8) = 0 then (if (gi σ 4) = (4 : Int32) then (if (gi σ 7) = x1 then (Md_isSign_28 F σ (1 : Int32))
  else (Md_isSign_27 F σ))
  else (Md_isSign_27 F σ))
  else (Md_isSign_27 F σ)
def Md_cannot (F : Nat) (σ : zS) : Option zS :=
  bv (Md_wrong F σ (1 : Int32) (gi σ 5)) (fun σ1 => some σ1)
def Md_want_19 (F : Nat) (σ : zS) : Option zS :=
  some σ
def Md_want (F : Nat) (σ : zS) (x1 : Int32) : Option zS :=
  bi (Md_isSign F σ x1) (fun r2 σ1 => if r2 = 0 then (bv (Md_cannot F σ1) (fun σ5 => Md_want_19 F σ5))
  else (bv (Md_next F σ1) (fun σ7 => Md_want_19 F σ7)))
def Md_tell (F : Nat) (σ : zS) (x1 : Int32) (x2 : Int32) : Option zS :=
  gd (inb (gi σ 31) 1400) (some (si (sa (sa (sa (sa (sa (sb (sa σ 10 (gi σ 31).toNatClampNeg x1) 11 (gi σ 31).toNatClampNeg (gl σ 6)) 12 (gi σ 31).toNatClampNeg (gi σ 5)) 13 (gi σ 31).toNatClampNeg (gi σ 32)) 14 (gi σ 31).toNatClampNeg x2) 15 (gi σ 31).toNatClampNeg (vp_nar .boolean (1 : Int32))) 16 (gi σ 31).toNatClampNeg (0 : Int32)) 31 ((gi σ 31) + (1 : Int32))))
def Md_act (F : Nat) (σ : zS) (x1 : Int32) (x2 : Int32) (x3 : Int32) : Option zS :=
  gd (inb (gi σ 23) 1600) (some (si (sa (sa (sa σ 7 (gi σ 23).toNatClampNeg x1) 8 (gi σ 23).toNatClampNeg x2) 9 (gi σ 23).toNatClampNeg x3) 23 ((gi σ 23) + (1 : Int32))))
def Md_node (F : Nat) (σ : zS) (x1 : Int32) (x2 : Int32) (x3 : Int32) : Option (Int32 × zS) :=
  gd (inb (gi σ 16) 1000) (some ((((gi σ 16) + (1 : Int32)) - (1 : Int32)), (si (sa (sa (sa σ 2 (gi σ 16).toNatClampNeg x1) 4 (gi σ 16).toNatClampNeg x2) 5 (gi σ 16).toNatClampNeg x3) 16 ((gi σ 16) + (1 : Int32)))))
def Md_count_29 (F : Nat) (σ : zS) : Option zS :=
  some σ
def Md_count (F : Nat) (σ : zS) : Option zS :=
  if ((gi σ 17) + (1 : Int32)) ≤ (200 : Int32) then (Md_count_29 F (si σ 17 ((gi σ 17) + (1 : Int32))))
  else (bv (Md_wrong F (si σ 17 ((gi σ 17) + (1 : Int32))) (2 : Int32) (gi σ 5)) (fun σ2 => Md_count_29 F σ2))
def Md_deeper_28 (F : Nat) (σ : zS) : Option zS :=
  some σ
def Md_deeper (F : Nat) (σ : zS) : Option zS :=
  if ((gi σ 18) + (1 : Int32)) ≤ (8 : Int32) then (Md_deeper_28 F (si σ 18 ((gi σ 18) + (1 : Int32))))
  else (bv (Md_wrong F (si σ 18 ((gi σ 18) + (1 : Int32))) (2 : Int32) (gi σ 5)) (fun σ2 => Md_deeper_28 F σ2))
def Md_canBegin_46 (F : Nat) (σ : zS) (s0 : Int32) : Option (Int32 × zS) :=
  gd (isB s0) (some (s0, σ))
def Md_canBegin_45 (F : Nat) (σ : zS) : Option (Int32 × zS) :=
  Md_canBegin_46 F σ (0 : Int32)
def Md_canBegin_41 (F : Nat) (σ : zS) : Option (Int32 × zS) :=
  Md_canBegin_46 F σ (1 : Int32)
def Md_canBegin (F : Nat) (σ : zS) : Option (Int32 × zS) :=
  if (gi σ 8) = 0 then (if (gi σ 4) = (1 : Int32) then (Md_canBegin_41 F σ)
  else (if (gi σ 4) = (2 : Int32) then (Md_canBegin_41 F σ)
  else (bi (Md_isSign F σ (40 : Int32)) (fun r5 σ4 => if r5 = 0 then (bi (Md_isSign F σ4 (91 : Int32)) (fun r9 σ8 => if r9 = 0 then (Md_canBegin_45 F σ8)
  else (Md_canBegin_41 F σ8)))
  else (Md_canBegin_41 F σ4)))))
  else (Md_canBegin_45 F σ)
def Md_open (F : Nat) (σ : zS) (x1 : Int32) : Option zS :=
  gd (inb ((gi σ 42) + (1 : Int32)) 12) (some (sa (sa (sa (sa (sa (sa (si σ 42 ((gi σ 42) + (1 : Int32))) 17 ((gi σ 42) + (1 : Int32)).toNatClampNeg x1) 18 ((gi σ 42) + (1 : Int32)).toNatClampNeg (gi σ 5)) 19 ((gi σ 42) + (1 : Int32)).toNatClampNeg (-1 : Int32)) 23 ((gi σ 42) + (1 : Int32)).toNatClampNeg (-1 : Int32)) 24 ((gi σ 42) + (1 : Int32)).toNatClampNeg (-1 : Int32)) 25 ((gi σ 42) + (1 : Int32)).toNatClampNeg (-1 : Int32)))
def Md_addOne_98 (F : Nat) (σ : zS) (x1 : Int32) (x3 : Int32) : Option zS :=
  gd (inb (gi σ 42) 12) (bi (Md_node F σ (2 : Int32) (ga σ 19 (gi σ 42).toNatClampNeg) x1) (fun r3 σ2 => gd (inb (gi σ2 42) 12) (bv (Md_act F (sa σ2 19 (gi σ 42).toNatClampNeg r3) (0 : Int32) (ga (sa σ2 19 (gi σ 42).toNatClampNeg r3) 19 (gi σ2 42).toNatClampNeg) x3) (fun σ6 => gd (inb (gi σ6 42) 12) (some (sa σ6 21 (gi σ6 42).toNatClampNeg ((ga σ6 21 (gi σ6 42).toNatClampNeg) + (1 : Int32))))))))
def Md_addOne_85 (F : Nat) (σ : zS) (s1 : Int32) (s2 : Int32) : Option zS :=
  gd (inb s1 12) (some (sa σ 25 s1.toNatClampNeg s2))
def Md_addOne (F : Nat) (σ : zS) (x1 : Int32) (x2 : Int32) (x3 : Int32) : Option zS :=
  gd (inb (gi σ 42) 12) (if 0 ≤ (ga σ 19 (gi σ 42).toNatClampNeg) then (if x2 < 0 then (Md_addOne_98 F σ x1 x3)
  else (gd (inb x2 1400) (Md_addOne_98 F (sa σ 15 x2.toNatClampNeg (vp_nar .boolean (0 : Int32))) x1 x3)))
  else (if 0 ≤ (ga σ 25 (gi σ 42).toNatClampNeg) then (Md_addOne_85 F (sa (sa (sa (sa σ 19 (gi σ 42).toNatClampNeg x1) 20 (gi σ 42).toNatClampNeg x2) 21 (gi σ 42).toNatClampNeg (0 : Int32)) 22 (gi σ 42).toNatClampNeg x3) (gi σ 42) (ga σ 25 (gi σ 42).toNatClampNeg))
  else (Md_addOne_85 F (sa (sa (sa (sa σ 19 (gi σ 42).toNatClampNeg x1) 20 (gi σ 42).toNatClampNeg x2) 21 (gi σ 42).toNatClampNeg (0 : Int32)) 22 (gi σ 42).toNatClampNeg x3) (gi σ 42) x3)))
def Md_endSome_137 (F : Nat) (σ : zS) (x2 : Int32) : Option zS :=
  gd (inb (gi σ 42) 12) (some (sa σ 24 (gi σ 42).toNatClampNeg x2))
def Md_endSome_100 (F : Nat) (σ : zS) (x1 : Int32) (s1 : Int32) (s2 : Int32) : Option zS :=
  gd (inb (gi σ 42) 12) (bi (Md_node F σ s1 s2 (ga σ 19 (gi σ 42).toNatClampNeg)) (fun r3 σ2 => if 0 ≤ x1 then (gd (inb x1 1000) (Md_endSome_137 F (sa σ2 5 x1.toNatClampNeg r3) r3))
  else (gd (inb (gi σ2 42) 12) (Md_endSome_137 F (sa σ2 23 (gi σ2 42).toNatClampNeg r3) r3))))
def Md_endSome_35 (F : Nat) (σ : zS) : Option zS :=
  gd (inb (gi σ 42) 12) (if 0 ≤ (ga σ 23 (gi σ 42).toNatClampNeg) then (if 0 ≤ (ga σ 24 (gi σ 42).toNatClampNeg) then (gd (inb (ga σ 24 (gi σ 42).toNatClampNeg) 1000) (Md_endSome_100 F σ (ga σ 24 (gi σ 42).toNatClampNeg) (4 : Int32) (ga σ 5 (ga σ 24 (gi σ 42).toNatClampNeg).toNatClampNeg)))
  else (Md_endSome_100 F σ (ga σ 24 (gi σ 42).toNatClampNeg) (4 : Int32) (ga σ 23 (gi σ 42).toNatClampNeg)))
  else (some (sa σ 23 (gi σ 42).toNatClampNeg (ga σ 19 (gi σ 42).toNatClampNeg))))
def Md_endSome (F : Nat) (σ : zS) : Option zS :=
  gd (inb (gi σ 42) 12) (if (ga σ 20 (gi σ 42).toNatClampNeg) < 0 then (Md_endSome_35 F σ)
  else (gd (inb (ga σ 20 (gi σ 42).toNatClampNeg) 1400) (Md_endSome_35 F (sa σ 16 (ga σ 20 (gi σ 42).toNatClampNeg).toNatClampNeg (ga σ 21 (gi σ 42).toNatClampNeg)))))
def Md_beginOne_115 (F : Nat) (σ : zS) : Option zS :=
  some σ
def Md_beginOne_100 (F : Nat) (σ : zS) (x1 : Int32) (x2 : Int32) (x3 : Int32) (s1 : Int32) : Option zS :=
  bv (Md_tell F σ s1 x2) (fun σ1 => bv (Md_next F σ1) (fun σ3 => bv (Md_addOne F σ3 x2 x3 x1) (fun σ5 => Md_beginOne_115 F σ5)))
def Md_beginOne_84 (F : Nat) (σ : zS) (x1 : Int32) (x2 : Int32) (s0 : Int32) : Option zS :=
  if (gi σ 4) = (1 : Int32) then (Md_beginOne_100 F σ x1 x2 s0 (5 : Int32))
  else (Md_beginOne_100 F σ x1 x2 s0 (6 : Int32))
def Md_beginOne_46 (F : Nat) (σ : zS) (x1 : Int32) (s1 : Int32) : Option zS :=
  bi (Md_node F σ s1 (gi σ 32) (gi σ 67)) (fun r2 σ1 => gd (inb r2 1000) (if (gi σ1 4) = (1 : Int32) then (Md_beginOne_84 F (sb σ1 3 r2.toNatClampNeg (gl σ1 6)) x1 r2 (gi σ1 31))
  else (Md_beginOne_84 F (sb σ1 3 r2.toNatClampNeg (gl σ1 6)) x1 r2 (-1 : Int32))))
def Md_beginOne_21 (F : Nat) (σ : zS) (x1 : Int32) : Option zS :=
  bv (Md_count F σ) (fun σ1 => if (gi σ1 8) = 0 then (if (gi σ1 4) = (1 : Int32) then (Md_beginOne_46 F σ1 x1 (0 : Int32))
  else (Md_beginOne_46 F σ1 x1 (1 : Int32)))
  else (Md_beginOne_115 F σ1))
def Md_beginOne_166 (F : Nat) (σ : zS) : Option zS :=
  some σ
def Md_beginOne_159 (F : Nat) (σ : zS) (s1 : Int32) : Option zS :=
  bv (Md_open F σ s1) (fun σ1 => bv (Md_next F σ1) (fun σ3 => Md_beginOne_166 F σ3))
def Md_beginOne_142 (F : Nat) (σ : zS) (x2 : Int32) : Option zS :=
  if (gi σ 8) = 0 then (if x2 = 0 then (Md_beginOne_159 F σ (1 : Int32))
  else (Md_beginOne_159 F σ (2 : Int32)))
  else (Md_beginOne_166 F σ)
def Md_beginOne (F : Nat) (σ : zS) : Option zS :=
  if (gi σ 4) = (1 : Int32) then (Md_beginOne_21 F σ (gi σ 5))
  else (if (gi σ 4) = (2 : Int32) then (Md_beginOne_21 F σ (gi σ 5))
  else (bv (Md_deeper F σ) (fun σ3 => bi (Md_isSign F σ3 (91 : Int32)) (fun r6 σ5 => if (gi σ5 8) = 0 then (if r6 = 0 then (Md_beginOne_142 F σ5 r6)
  else (bv (Md_count F σ5) (fun σ10 => Md_beginOne_142 F σ10 r6)))
  else (Md_beginOne_142 F σ5 r6)))))
def Md_closeOne_109 (F : Nat) (σ : zS) (x3 : Int32) (s1 : Int32) : Option zS :=
  bv (Md_addOne F σ s1 (-1 : Int32) x3) (fun σ1 => some σ1)
def Md_closeOne_70 (F : Nat) (σ : zS) (x1 : Int32) (x2 : Int32) (x3 : Int32) (s1 : Int32) : Option zS :=
  bv (Md_want F σ s1) (fun σ1 => if x1 = 0 then (Md_closeOne_109 F (si (si σ1 18 ((gi σ1 18) - (1 : Int32))) 42 ((gi σ1 42) - (1 : Int32))) x3 x2)
  else (bi (Md_node F (si (si σ1 18 ((gi σ1 18) - (1 : Int32))) 42 ((gi σ1 42) - (1 : Int32))) (3 : Int32) x2 (0 : Int32)) (fun r5 σ4 => Md_closeOne_109 F σ4 x3 r5)))
def Md_closeOne_58 (F : Nat) (σ : zS) (x1 : Int32) (x2 : Int32) (x3 : Int32) : Option zS :=
  if x1 = 0 then (Md_closeOne_70 F σ x1 x2 x3 (41 : Int32))
  else (Md_closeOne_70 F σ x1 x2 x3 (93 : Int32))
def Md_closeOne_18 (F : Nat) (σ : zS) (s0 : Int32) : Option zS :=
  gd (inb (gi σ 42) 12) (if s0 = 0 then (Md_closeOne_58 F σ s0 (ga σ 23 (gi σ 42).toNatClampNeg) (ga σ 18 (gi σ 42).toNatClampNeg))
  else (bv (Md_act F σ (1 : Int32) (ga σ 23 (gi σ 42).toNatClampNeg) (ga σ 25 (gi σ 42).toNatClampNeg)) (fun σ3 => Md_closeOne_58 F σ3 s0 (ga σ 23 (gi σ 42).toNatClampNeg) (ga σ 18 (gi σ 42).toNatClampNeg))))
def Md_closeOne (F : Nat) (σ : zS) : Option zS :=
  gd (inb (gi σ 42) 12) (if (ga σ 17 (gi σ 42).toNatClampNeg) = (2 : Int32) then (Md_closeOne_18 F σ (1 : Int32))
  else (Md_closeOne_18 F σ (0 : Int32)))
def Md_readOpen_185 (F : Nat) (rc10 : zS → Int32 → Option (Int32 × zS)) (σ : zS) (x1 : Int32) : Option (Int32 × zS) :=
  if (gi σ 42) = 0 then (gd (inb (0 : Int32) 12) (some ((ga σ 23 (0 : Int32).toNatClampNeg), (si σ 19 (ga σ 25 (0 : Int32).toNatClampNeg)))))
  else (bv (Md_closeOne F σ) (fun σ2 => rc10 σ2 x1))
def Md_readOpen_55 (F : Nat) (rc10 : zS → Int32 → Option (Int32 × zS)) (σ : zS) (x1 : Int32) : Option (Int32 × zS) :=
  bi (Md_canBegin F σ) (fun r2 σ1 => if r2 = 0 then (gd (inb (gi σ1 42) 12) (if 0 ≤ (ga σ1 19 (gi σ1 42).toNatClampNeg) then (bi (Md_isSign F σ1 (1000 : Int32)) (fun r8 σ7 => if r8 = 0 then (bv (Md_endSome F σ7) (fun σ11 => gd (inb (gi σ11 42) 12) (if (ga σ11 24 (gi σ11 42).toNatClampNeg) < 0 then (Md_readOpen_185 F rc10 σ11 x1)
  else (bv (Md_act F σ11 (1 : Int32) (ga σ11 19 (gi σ11 42).toNatClampNeg) (ga σ11 22 (gi σ11 42).toNatClampNeg)) (fun σ15 => Md_readOpen_185 F rc10 σ15 x1)))))
  else (bv (Md_count F σ7) (fun σ17 => bv (Md_endSome F σ17) (fun σ19 => gd (inb (gi σ19 42) 12) (bv (Md_act F σ19 (1 : Int32) (ga σ19 19 (gi σ19 42).toNatClampNeg) (ga σ19 22 (gi σ19 42).toNatClampNeg)) (fun σ22 => gd (inb (gi σ22 42) 12) (bv (Md_next F (sa σ22 19 (gi σ22 42).toNatClampNeg (-1 : Int32))) (fun σ25 => rc10 σ25 x1)))))))))
  else (bv (Md_cannot F σ1) (fun σ27 => rc10 σ27 x1))))
  else (bv (Md_beginOne F σ1) (fun σ29 => rc10 σ29 x1)))
def Md_readOpen_b10 (F : Nat) (rc10 : zS → Int32 → Option (Int32 × zS)) (σ : zS) (x1 : Int32) : Option (Int32 × zS) :=
  if (gi σ 8) = 0 then (if (gi σ 42) = 0 then (if x1 = (3 : Int32) then (gd (inb (0 : Int32) 12) (if (ga σ 19 (0 : Int32).toNatClampNeg) < 0 then (Md_readOpen_55 F rc10 σ x1)
  else (some ((ga σ 19 (0 : Int32).toNatClampNeg), (si σ 19 (ga σ 25 (0 : Int32).toNatClampNeg))))))
  else (Md_readOpen_55 F rc10 σ x1))
  else (Md_readOpen_55 F rc10 σ x1))
  else (some ((0 : Int32), σ))
def Md_readOpen_10 (F : Nat) : Nat → zS → Int32 → Option (Int32 × zS)
  | 0, _, _ => none
  | n + 1, σ, x1 => Md_readOpen_b10 F (Md_readOpen_10 F n) σ x1
def Md_readOpen (F : Nat) (σ : zS) (x1 : Int32) : Option (Int32 × zS) :=
  bv (Md_open F (si σ 42 (-1 : Int32)) x1) (fun σ1 => Md_readOpen_10 F F σ1 x1)
def Md_readOne (F : Nat) (σ : zS) : Option (Int32 × zS) :=
  bi (Md_readOpen F σ (3 : Int32)) (fun r2 σ1 => some (r2, σ1))
def Md_readType (F : Nat) (σ : zS) : Option (Int32 × zS) :=
  bi (Md_readOpen F σ (0 : Int32)) (fun r2 σ1 => some (r2, σ1))
def Md_newKind (F : Nat) (σ : zS) (x1 : Int32) (x2 : Int32) (x3 : Int32) : Option (Int32 × zS) :=
  gd (inb (gi σ 48) 4000) (some ((((gi σ 48) + (1 : Int32)) - (1 : Int32)), (si (sa (sa (sa (sa σ 26 (gi σ 48).toNatClampNeg x1) 27 (gi σ 48).toNatClampNeg x2) 28 (gi σ 48).toNatClampNeg x3) 29 (gi σ 48).toNatClampNeg (gi σ 48)) 48 ((gi σ 48) + (1 : Int32)))))
def Md_top_b2 (F : Nat) (rc2 : zS → Int32 → Option (Int32 × zS)) (σ : zS) (x2 : Int32) : Option (Int32 × zS) :=
  gd (inb x2 4000) (if (ga σ 29 x2.toNatClampNeg) = x2 then (some (x2, σ))
  else (rc2 σ (ga σ 29 x2.toNatClampNeg)))
def Md_top_2 (F : Nat) : Nat → zS → Int32 → Option (Int32 × zS)
  | 0, _, _ => none
  | n + 1, σ, x2 => Md_top_b2 F (Md_top_2 F n) σ x2
def Md_top (F : Nat) (σ : zS) (x1 : Int32) : Option (Int32 × zS) :=
  Md_top_2 F F σ x1
def Md_addPart_86 (F : Nat) (σ : zS) (x3 : Int32) : Option zS :=
  gd (inb (gi σ 42) 12) (some (sa σ 32 (gi σ 42).toNatClampNeg x3))
def Md_addPart_57 (F : Nat) (σ : zS) (x1 : Int32) (x2 : Int32) (s1 : Int32) (s2 : Int32) : Option zS :=
  bi (Md_newKind F σ s1 s2 x1) (fun r2 σ1 => if 0 ≤ x2 then (gd (inb x2 4000) (Md_addPart_86 F (sa σ1 28 x2.toNatClampNeg r2) r2))
  else (gd (inb (gi σ1 42) 12) (Md_addPart_86 F (sa σ1 31 (gi σ1 42).toNatClampNeg r2) r2)))
def Md_addPart (F : Nat) (σ : zS) (x1 : Int32) : Option zS :=
  gd (inb (gi σ 42) 12) (if 0 ≤ (ga σ 31 (gi σ 42).toNatClampNeg) then (if 0 ≤ (ga σ 32 (gi σ 42).toNatClampNeg) then (gd (inb (ga σ 32 (gi σ 42).toNatClampNeg) 4000) (Md_addPart_57 F σ x1 (ga σ 32 (gi σ 42).toNatClampNeg) (2 : Int32) (ga σ 28 (ga σ 32 (gi σ 42).toNatClampNeg).toNatClampNeg)))
  else (Md_addPart_57 F σ x1 (ga σ 32 (gi σ 42).toNatClampNeg) (2 : Int32) (ga σ 31 (gi σ 42).toNatClampNeg)))
  else (some (sa σ 31 (gi σ 42).toNatClampNeg x1)))
def Md_openKind (F : Nat) (σ : zS) : Option zS :=
  gd (inb ((gi σ 42) + (1 : Int32)) 12) (some (sa (sa (si σ 42 ((gi σ 42) + (1 : Int32))) 31 ((gi σ 42) + (1 : Int32)).toNatClampNeg (-1 : Int32)) 32 ((gi σ 42) + (1 : Int32)).toNatClampNeg (-1 : Int32)))
def Md_readKind_76 (F : Nat) (rc11 : zS → Int32 → Option (Int32 × zS)) (σ : zS) (x1 : Int32) : Option (Int32 × zS) :=
  if x1 = 0 then (bi (Md_isSign F σ (1000 : Int32)) (fun r3 σ2 => if r3 = 0 then (if (gi σ2 42) = 0 then (gd (inb (0 : Int32) 12) (some ((ga σ2 31 (0 : Int32).toNatClampNeg), σ2)))
  else (bv (Md_want F σ2 (41 : Int32)) (fun σ7 => gd (inb (((gi σ7 42) - (1 : Int32)) + (1 : Int32)) 12) (bv (Md_addPart F (si (si σ7 18 ((gi σ7 18) - (1 : Int32))) 42 ((gi σ7 42) - (1 : Int32))) (ga σ7 31 (((gi σ7 42) - (1 : Int32)) + (1 : Int32)).toNatClampNeg)) (fun σ10 => rc11 σ10 x1)))))
  else (bv (Md_next F σ2) (fun σ13 => rc11 σ13 (1 : Int32)))))
  else (bv (Md_cannot F σ) (fun σ15 => rc11 σ15 x1))
def Md_readKind_48 (F : Nat) (rc11 : zS → Int32 → Option (Int32 × zS)) (σ : zS) (x1 : Int32) : Option (Int32 × zS) :=
  if x1 = 0 then (Md_readKind_76 F rc11 σ x1)
  else (bi (Md_isSign F σ (40 : Int32)) (fun r3 σ2 => if r3 = 0 then (Md_readKind_76 F rc11 σ2 x1)
  else (bv (Md_deeper F σ2) (fun σ6 => bv (Md_next F σ6) (fun σ8 => bv (Md_openKind F σ8) (fun σ10 => rc11 σ10 x1))))))
def Md_readKind_b11 (F : Nat) (rc11 : zS → Int32 → Option (Int32 × zS)) (σ : zS) (x1 : Int32) : Option (Int32 × zS) :=
  if (gi σ 8) = 0 then (if x1 = 0 then (Md_readKind_48 F rc11 σ x1)
  else (bi (Md_isSign F σ (42 : Int32)) (fun r4 σ3 => if r4 = 0 then (Md_readKind_48 F rc11 σ3 x1)
  else (bv (Md_addPart F σ3 (gi σ3 49)) (fun σ7 => bv (Md_next F σ7) (fun σ9 => rc11 σ9 (0 : Int32)))))))
  else (some ((gi σ 49), σ))
def Md_readKind_11 (F : Nat) : Nat → zS → Int32 → Option (Int32 × zS)
  | 0, _, _ => none
  | n + 1, σ, x1 => Md_readKind_b11 F (Md_readKind_11 F n) σ x1
def Md_readKind (F : Nat) (σ : zS) : Option (Int32 × zS) :=
  bv (Md_openKind F (si σ 42 (-1 : Int32))) (fun σ1 => Md_readKind_11 F F σ1 (1 : Int32))
def Md_begin (F : Nat) (σ : zS) : Option zS :=
  bv (Md_next F (si (si (si (si (si (si (si (si σ 3 (0 : Int32)) 8 (0 : Int32)) 9 (-3 : Int32)) 10 (0 : Int32)) 18 (0 : Int32)) 17 (0 : Int32)) 32 (-1 : Int32)) 67 (-1 : Int32))) (fun σ1 => some σ1)
def Md_wantName_15 (F : Nat) (σ : zS) : Option (Int32 × zS) :=
  bv (Md_cannot F σ) (fun σ1 => some ((0 : Int32), σ1))
def Md_wantName (F : Nat) (σ : zS) (x1 : Int32) : Option (Int32 × zS) :=
  if 0 < (gi σ 8) then (Md_wantName_15 F σ)
  else (if (gi σ 4) = x1 then (some ((1 : Int32), σ))
  else (Md_wantName_15 F σ))
def Md_readParam (F : Nat) (σ : zS) : Option zS :=
  gd (inb (gi σ 32) 17) (if (ga σ 36 (gi σ 32).toNatClampNeg) = (3 : Int32) then (bv (Md_wrong F σ (2 : Int32) (gi σ 5)) (fun σ9 => some σ9))
  else (bv (Md_tell F σ (1 : Int32) (-1 : Int32)) (fun σ3 => gd (inb (gi σ3 32) 17) (gd (inb (((3 : Int32) * (gi σ3 32)) + (ga σ3 36 (gi σ3 32).toNatClampNeg)) 51) (bv (Md_next F (sa (sb σ3 37 (((3 : Int32) * (gi σ3 32)) + (ga σ3 36 (gi σ3 32).toNatClampNeg)).toNatClampNeg (gl σ3 6)) 36 (gi σ3 32).toNatClampNeg ((ga σ3 36 (gi σ3 32).toNatClampNeg) + (1 : Int32)))) (fun σ7 => some σ7))))))
def Md_readClass_142 (F : Nat) (σ : zS) : Option zS :=
  bv (Md_want F σ (125 : Int32)) (fun σ1 => some σ1)
def Md_readClass_b19 (F : Nat) (rc19 : zS → Option zS) (σ : zS) : Option zS :=
  if (gi σ 8) = 0 then (if (gi σ 4) = (2 : Int32) then (gd (inb (gi σ 32) 17) (if (ga σ 38 (gi σ 32).toNatClampNeg) = (4 : Int32) then (bv (Md_wrong F σ (2 : Int32) (gi σ 5)) (fun σ19 => some σ19))
  else (bv (Md_tell F (sa σ 38 (gi σ 32).toNatClampNeg ((ga σ 38 (gi σ 32).toNatClampNeg) + (1 : Int32))) (3 : Int32) (-1 : Int32)) (fun σ5 => bv (Md_next F (si (si σ5 67 (gi σ5 66)) 66 ((gi σ5 66) + (1 : Int32)))) (fun σ7 => bv (Md_want F σ7 (1001 : Int32)) (fun σ9 => if (gi σ9 8) ≤ 0 then (bi (Md_readType F σ9) (fun r13 σ12 => bv (Md_act F σ12 (1 : Int32) r13 (gi σ12 19)) (fun σ15 => bv (Md_want F (si σ15 67 (-1 : Int32)) (59 : Int32)) (fun σ17 => rc19 σ17))))
  else (some σ9)))))))
  else (Md_readClass_142 F σ))
  else (Md_readClass_142 F σ)
def Md_readClass_19 (F : Nat) : Nat → zS → Option zS
  | 0, _ => none
  | n + 1, σ => Md_readClass_b19 F (Md_readClass_19 F n) σ
def Md_readClass (F : Nat) (σ : zS) : Option zS :=
  bi (Md_wantName F σ (2 : Int32)) (fun r2 σ1 => if r2 = 0 then (some σ1)
  else (bv (Md_readParam F σ1) (fun σ5 => bv (Md_want F σ5 (123 : Int32)) (fun σ7 => Md_readClass_19 F F σ7))))
def Md_readCon_b56 (F : Nat) (rc56 : zS → Option zS) (σ : zS) : Option zS :=
  bi (Md_canBegin F σ) (fun r2 σ1 => if r2 = 0 then (some σ1)
  else (bi (Md_readOne F σ1) (fun r6 σ5 => bv (Md_act F σ5 (1 : Int32) r6 (gi σ5 19)) (fun σ8 => rc56 σ8))))
def Md_readCon_56 (F : Nat) : Nat → zS → Option zS
  | 0, _ => none
  | n + 1, σ => Md_readCon_b56 F (Md_readCon_56 F n) σ
def Md_readCon (F : Nat) (σ : zS) : Option zS :=
  bi (Md_wantName F σ (1 : Int32)) (fun r2 σ1 => if r2 = 0 then (some σ1)
  else (gd (inb (gi σ1 32) 17) (if (ga σ1 38 (gi σ1 32).toNatClampNeg) = (6 : Int32) then (bv (Md_wrong F σ1 (2 : Int32) (gi σ1 5)) (fun σ11 => some σ11))
  else (bv (Md_tell F (sa σ1 38 (gi σ1 32).toNatClampNeg ((ga σ1 38 (gi σ1 32).toNatClampNeg) + (1 : Int32))) (2 : Int32) (-1 : Int32)) (fun σ7 => bv (Md_next F σ7) (fun σ9 => Md_readCon_56 F F σ9))))))
def Md_readSides_b71 (F : Nat) (rc71 : zS → Option zS) (σ : zS) : Option zS :=
  bi (Md_isSign F σ (124 : Int32)) (fun r2 σ1 => if r2 = 0 then (some σ1)
  else (bv (Md_next F σ1) (fun σ5 => bv (Md_readCon F σ5) (fun σ7 => rc71 σ7))))
def Md_readSides_71 (F : Nat) : Nat → zS → Option zS
  | 0, _ => none
  | n + 1, σ => Md_readSides_b71 F (Md_readSides_71 F n) σ
def Md_readSides_22 (F : Nat) (σ : zS) (x1 : Int32) : Option zS :=
  bv (Md_want F σ (61 : Int32)) (fun σ1 => if (gi σ1 8) ≤ 0 then (if x1 = (1 : Int32) then (bi (Md_readType F σ1) (fun r8 σ7 => gd (inb (gi σ7 32) 17) (bv (Md_act F (sa σ7 41 (gi σ7 32).toNatClampNeg r8) (2 : Int32) r8 (gi σ7 19)) (fun σ11 => some σ11))))
  else (bv (Md_readCon F σ1) (fun σ5 => Md_readSides_71 F F σ5)))
  else (some σ1))
def Md_readSides_b0 (F : Nat) (rc0 : zS → Int32 → Option zS) (σ : zS) (x1 : Int32) : Option zS :=
  if (gi σ 8) = 0 then (if (gi σ 4) = (2 : Int32) then (bv (Md_readParam F σ) (fun σ3 => rc0 σ3 x1))
  else (Md_readSides_22 F σ x1))
  else (Md_readSides_22 F σ x1)
def Md_readSides_0 (F : Nat) : Nat → zS → Int32 → Option zS
  | 0, _, _ => none
  | n + 1, σ, x1 => Md_readSides_b0 F (Md_readSides_0 F n) σ x1
def Md_readSides (F : Nat) (σ : zS) (x1 : Int32) : Option zS :=
  Md_readSides_0 F F σ x1
def Md_readWish_68 (F : Nat) (σ : zS) : Option zS :=
  some (si σ 62 ((gi σ 62) + (1 : Int32)))
def Md_readWish (F : Nat) (σ : zS) : Option zS :=
  bv (Md_tell F (si σ 32 (-1 : Int32)) (4 : Int32) (-1 : Int32)) (fun σ1 => gd (inb (gi σ1 62) 300) (bv (Md_next F (sa (sb σ1 42 (gi σ1 62).toNatClampNeg (gl σ1 6)) 43 (gi σ1 62).toNatClampNeg (gi σ1 5))) (fun σ4 => bv (Md_want F σ4 (1001 : Int32)) (fun σ6 => if (gi σ6 8) = 0 then (bi (Md_readKind F σ6) (fun r10 σ9 => gd (inb (gi σ6 62) 300) (Md_readWish_68 F (sa σ9 44 (gi σ6 62).toNatClampNeg r10))))
  else (Md_readWish_68 F σ6)))))
def Md_readDecl_216 (F : Nat) (σ : zS) : Option zS :=
  gd (inb (gi σ 32) 17) (some (sa σ 40 (gi σ 32).toNatClampNeg (gi σ 23)))
def Md_readDecl_46 (F : Nat) (σ : zS) (s0 : Int32) : Option zS :=
  if (gi σ 4) = (3 : Int32) then (bv (Md_next F σ) (fun σ2 => bi (Md_wantName F σ2 (1 : Int32)) (fun r5 σ4 => if r5 = 0 then (some σ4)
  else (if s0 = (3 : Int32) then (bv (Md_readWish F σ4) (fun σ22 => some σ22))
  else (if (gi σ4 52) = (16 : Int32) then (bv (Md_wrong F σ4 (2 : Int32) (gi σ4 5)) (fun σ20 => some σ20))
  else (gd (inb (gi σ4 52) 17) (bv (Md_tell F (sa (sa (sa (sa (sb (sa (si (si σ4 32 (gi σ4 52)) 52 ((gi σ4 52) + (1 : Int32))) 33 (gi σ4 52).toNatClampNeg s0) 34 (gi σ4 52).toNatClampNeg (gl σ4 6)) 35 (gi σ4 52).toNatClampNeg (gi σ4 5)) 36 (gi σ4 52).toNatClampNeg (0 : Int32)) 38 (gi σ4 52).toNatClampNeg (0 : Int32)) 39 (gi σ4 52).toNatClampNeg (gi σ4 23)) (0 : Int32) (-1 : Int32)) (fun σ11 => bv (Md_next F σ11) (fun σ13 => if s0 = (2 : Int32) then (bv (Md_readClass F σ13) (fun σ18 => Md_readDecl_216 F σ18))
  else (bv (Md_readSides F σ13 s0) (fun σ16 => Md_readDecl_216 F σ16)))))))))))
  else (bv (Md_cannot F σ) (fun σ24 => some σ24))
def Md_readDecl (F : Nat) (σ : zS) : Option zS :=
  if (lg_cmp (gl σ 6) (1684108385 : Int64)) = 0 then (Md_readDecl_46 F σ (0 : Int32))
  else (if (lg_cmp (gl σ 6) (1954115685 : Int64)) = 0 then (Md_readDecl_46 F σ (1 : Int32))
  else (if (lg_cmp (gl σ 6) (427020088179 : Int64)) = 0 then (Md_readDecl_46 F σ (2 : Int32))
  else (Md_readDecl_46 F σ (3 : Int32))))
def Md_readText_78 (F : Nat) (σ : zS) : Option zS :=
  some σ
def Md_readText_b50 (F : Nat) (rc50 : zS → Option zS) (σ : zS) : Option zS :=
  if (gi σ 8) = 0 then (if (gi σ 4) = (5 : Int32) then (Md_readText_78 F σ)
  else (bv (Md_readDecl F σ) (fun σ3 => bv (Md_want F σ3 (59 : Int32)) (fun σ5 => rc50 σ5))))
  else (Md_readText_78 F σ)
def Md_readText_50 (F : Nat) : Nat → zS → Option zS
  | 0, _ => none
  | n + 1, σ => Md_readText_b50 F (Md_readText_50 F n) σ
def Md_readText (F : Nat) (σ : zS) : Option zS :=
  bi (Md_newKind F (si (si (si (si (si (si (si σ 52 (0 : Int32)) 62 (0 : Int32)) 66 (0 : Int32)) 31 (0 : Int32)) 23 (0 : Int32)) 16 (0 : Int32)) 48 (0 : Int32)) (1 : Int32) (0 : Int32) (0 : Int32)) (fun r2 σ1 => bv (Md_begin F (si σ1 49 r2)) (fun σ4 => Md_readText_50 F F σ4))
def Md_declOf_b2 (F : Nat) (rc2 : zS → Int64 → Int32 → Option (Int32 × zS)) (σ : zS) (x1 : Int64) (x3 : Int32) : Option (Int32 × zS) :=
  if (gi σ 52) ≤ x3 then (some ((-1 : Int32), σ))
  else (gd (inb x3 17) (if (lg_cmp (gb σ 34 x3.toNatClampNeg) x1) = 0 then (some (x3, σ))
  else (rc2 σ x1 (x3 + (1 : Int32)))))
def Md_declOf_2 (F : Nat) : Nat → zS → Int64 → Int32 → Option (Int32 × zS)
  | 0, _, _, _ => none
  | n + 1, σ, x1, x3 => Md_declOf_b2 F (Md_declOf_2 F n) σ x1 x3
def Md_declOf (F : Nat) (σ : zS) (x1 : Int64) : Option (Int32 × zS) :=
  Md_declOf_2 F F σ x1 (0 : Int32)
def Md_typeOf_33 (F : Nat) (rc2 : zS → Int64 → Int32 → Option (Int32 × zS)) (σ : zS) (x1 : Int64) (x3 : Int32) : Option (Int32 × zS) :=
  rc2 σ x1 (x3 + (1 : Int32))
def Md_typeOf_b2 (F : Nat) (rc2 : zS → Int64 → Int32 → Option (Int32 × zS)) (σ : zS) (x1 : Int64) (x3 : Int32) : Option (Int32 × zS) :=
  if (gi σ 52) ≤ x3 then (some ((-1 : Int32), σ))
  else (gd (inb x3 17) (if (lg_cmp (gb σ 34 x3.toNatClampNeg) x1) = 0 then (if (2 : Int32) ≤ (ga σ 33 x3.toNatClampNeg) then (Md_typeOf_33 F rc2 σ x1 x3)
  else (some (x3, σ)))
  else (Md_typeOf_33 F rc2 σ x1 x3)))
def Md_typeOf_2 (F : Nat) : Nat → zS → Int64 → Int32 → Option (Int32 × zS)
  | 0, _, _, _ => none
  | n + 1, σ, x1, x3 => Md_typeOf_b2 F (Md_typeOf_2 F n) σ x1 x3
def Md_typeOf (F : Nat) (σ : zS) (x1 : Int64) : Option (Int32 × zS) :=
  Md_typeOf_2 F F σ x1 (0 : Int32)
def Md_isParam_b3 (F : Nat) (rc3 : zS → Int32 → Int64 → Int32 → Option (Int32 × zS)) (σ : zS) (x1 : Int32) (x2 : Int64) (x4 : Int32) : Option (Int32 × zS) :=
  gd (inb x1 17) (if (ga σ 36 x1.toNatClampNeg) ≤ x4 then (some ((0 : Int32), σ))
  else (gd (inb (((3 : Int32) * x1) + x4) 51) (if (lg_cmp (gb σ 37 (((3 : Int32) * x1) + x4).toNatClampNeg) x2) = 0 then (some ((1 : Int32), σ))
  else (rc3 σ x1 x2 (x4 + (1 : Int32))))))
def Md_isParam_3 (F : Nat) : Nat → zS → Int32 → Int64 → Int32 → Option (Int32 × zS)
  | 0, _, _, _, _ => none
  | n + 1, σ, x1, x2, x4 => Md_isParam_b3 F (Md_isParam_3 F n) σ x1 x2 x4
def Md_isParam (F : Nat) (σ : zS) (x1 : Int32) (x2 : Int64) : Option (Int32 × zS) :=
  Md_isParam_3 F F σ x1 x2 (0 : Int32)
def Md_wasTold_65 (F : Nat) (rc2 : zS → Int32 → Int32 → Option (Int32 × zS)) (σ : zS) (x1 : Int32) (x2 : Int32) : Option (Int32 × zS) :=
  rc2 σ x1 (x2 + (1 : Int32))
def Md_wasTold_63 (F : Nat) (σ : zS) : Option (Int32 × zS) :=
  some ((1 : Int32), σ)
def Md_wasTold_b2 (F : Nat) (rc2 : zS → Int32 → Int32 → Option (Int32 × zS)) (σ : zS) (x1 : Int32) (x2 : Int32) : Option (Int32 × zS) :=
  if x1 ≤ x2 then (some ((0 : Int32), σ))
  else (gd (inb x2 1400) (gd (inb x1 1400) (if (ga σ 10 x2.toNatClampNeg) = (ga σ 10 x1.toNatClampNeg) then (if (lg_cmp (gb σ 11 x2.toNatClampNeg) (gb σ 11 x1.toNatClampNeg)) = 0 then (if (ga σ 10 x1.toNatClampNeg) = (1 : Int32) then (if (ga σ 13 x2.toNatClampNeg) = (ga σ 13 x1.toNatClampNeg) then (Md_wasTold_63 F σ)
  else (Md_wasTold_65 F rc2 σ x1 x2))
  else (Md_wasTold_63 F σ))
  else (Md_wasTold_65 F rc2 σ x1 x2))
  else (Md_wasTold_65 F rc2 σ x1 x2))))
def Md_wasTold_2 (F : Nat) : Nat → zS → Int32 → Int32 → Option (Int32 × zS)
  | 0, _, _, _ => none
  | n + 1, σ, x1, x2 => Md_wasTold_b2 F (Md_wasTold_2 F n) σ x1 x2
def Md_wasTold (F : Nat) (σ : zS) (x1 : Int32) : Option (Int32 × zS) :=
  Md_wasTold_2 F F σ x1 (0 : Int32)
def Md_isWrongName_130 (F : Nat) (σ : zS) (s0 : Int32) : Option (Int32 × zS) :=
  gd (isB s0) (some (s0, σ))
def Md_isWrongName_125 (F : Nat) (σ : zS) : Option (Int32 × zS) :=
  Md_isWrongName_130 F σ (1 : Int32)
def Md_isWrongName_129 (F : Nat) (σ : zS) : Option (Int32 × zS) :=
  Md_isWrongName_130 F σ (0 : Int32)
def Md_isWrongName_111 (F : Nat) (σ : zS) (x3 : Int32) (x4 : Int64) : Option (Int32 × zS) :=
  if x3 = (4 : Int32) then (bi (Md_declOf F σ x4) (fun r3 σ2 => if 0 ≤ r3 then (Md_isWrongName_129 F σ2)
  else (Md_isWrongName_125 F σ2)))
  else (Md_isWrongName_129 F σ)
def Md_isWrongName_89 (F : Nat) (σ : zS) (s0 : Int32) : Option (Int32 × zS) :=
  gd (isB s0) (some (s0, σ))
def Md_isWrongName_88 (F : Nat) (σ : zS) : Option (Int32 × zS) :=
  Md_isWrongName_89 F σ (0 : Int32)
def Md_isWrongName_43 (F : Nat) (σ : zS) (s0 : Int32) : Option (Int32 × zS) :=
  gd (isB s0) (some (s0, σ))
def Md_isWrongName_42 (F : Nat) (σ : zS) : Option (Int32 × zS) :=
  Md_isWrongName_43 F σ (0 : Int32)
def Md_isWrongName (F : Nat) (σ : zS) (x1 : Int32) (x2 : Int32) : Option (Int32 × zS) :=
  gd (inb x1 1400) (if (ga σ 10 x1.toNatClampNeg) = (5 : Int32) then (if (lg_cmp (gb σ 11 x1.toNatClampNeg) (4812404 : Int64)) = 0 then (Md_isWrongName_42 F σ)
  else (bi (Md_typeOf F σ (gb σ 11 x1.toNatClampNeg)) (fun r19 σ18 => if 0 ≤ r19 then (Md_isWrongName_42 F σ18)
  else (Md_isWrongName_43 F σ18 (1 : Int32)))))
  else (if (ga σ 10 x1.toNatClampNeg) = (6 : Int32) then (if x2 = 0 then (Md_isWrongName_88 F σ)
  else (gd (inb (ga σ 13 x1.toNatClampNeg) 17) (if (2 : Int32) ≤ (ga σ 33 (ga σ 13 x1.toNatClampNeg).toNatClampNeg) then (Md_isWrongName_88 F σ)
  else (bi (Md_isParam F σ (ga σ 13 x1.toNatClampNeg) (gb σ 11 x1.toNatClampNeg)) (fun r14 σ13 => if r14 = 0 then (Md_isWrongName_89 F σ13 (1 : Int32))
  else (Md_isWrongName_88 F σ13))))))
  else (bi (Md_wasTold F σ x1) (fun r5 σ4 => if r5 = 0 then (if (ga σ 10 x1.toNatClampNeg) = 0 then (if (lg_cmp (gb σ 11 x1.toNatClampNeg) (4812404 : Int64)) = 0 then (Md_isWrongName_125 F σ4)
  else (Md_isWrongName_111 F σ4 (ga σ 10 x1.toNatClampNeg) (gb σ 11 x1.toNatClampNeg)))
  else (Md_isWrongName_111 F σ4 (ga σ 10 x1.toNatClampNeg) (gb σ 11 x1.toNatClampNeg)))
  else (Md_isWrongName_125 F σ4)))))
def Md_lookNames_43 (F : Nat) (σ : zS) : Option zS :=
  some σ
def Md_lookNames_37 (F : Nat) (rc2 : zS → Int32 → Int32 → Option zS) (σ : zS) (x1 : Int32) (x2 : Int32) : Option zS :=
  rc2 σ x1 (x2 + (1 : Int32))
def Md_lookNames_b2 (F : Nat) (rc2 : zS → Int32 → Int32 → Option zS) (σ : zS) (x1 : Int32) (x2 : Int32) : Option zS :=
  if (gi σ 31) ≤ x2 then (Md_lookNames_43 F σ)
  else (if (gi σ 8) = 0 then (bi (Md_isWrongName F σ x2 x1) (fun r4 σ3 => if r4 = 0 then (Md_lookNames_37 F rc2 σ3 x1 x2)
  else (gd (inb x2 1400) (bv (Md_wrong F σ3 (3 : Int32) (ga σ3 12 x2.toNatClampNeg)) (fun σ8 => Md_lookNames_37 F rc2 σ8 x1 x2)))))
  else (Md_lookNames_43 F σ))
def Md_lookNames_2 (F : Nat) : Nat → zS → Int32 → Int32 → Option zS
  | 0, _, _, _ => none
  | n + 1, σ, x1, x2 => Md_lookNames_b2 F (Md_lookNames_2 F n) σ x1 x2
def Md_lookNames (F : Nat) (σ : zS) (x1 : Int32) : Option zS :=
  Md_lookNames_2 F F σ x1 (0 : Int32)
def Md_close_69 (F : Nat) (rc2 : zS → Nat → Int32 → Option zS) (rc10 : zS → Nat → Int32 → Int32 → Option zS) (rc18 : zS → Nat → Int32 → Int32 → Int32 → Option zS) (σ : zS) (x0 : Nat) (x1 : Int32) (x2 : Int32) (x3 : Int32) (s0 : Nat) (s1 : Int32) (s2 : Int32) : Option zS :=
  gd (isNd s0) (gd (inb s1 256) (rc18 (sa σ s0 s1.toNatClampNeg (vp_nar .boolean s2)) x0 x1 x2 (x3 + (1 : Int32))))
def Md_close_64 (F : Nat) (rc2 : zS → Nat → Int32 → Option zS) (rc10 : zS → Nat → Int32 → Int32 → Option zS) (rc18 : zS → Nat → Int32 → Int32 → Int32 → Option zS) (σ : zS) (x0 : Nat) (x1 : Int32) (x2 : Int32) (x3 : Int32) (s0 : Nat) (s1 : Int32) : Option zS :=
  Md_close_69 F rc2 rc10 rc18 σ x0 x1 x2 x3 s0 s1 (1 : Int32)
def Md_close_68 (F : Nat) (rc2 : zS → Nat → Int32 → Option zS) (rc10 : zS → Nat → Int32 → Int32 → Option zS) (rc18 : zS → Nat → Int32 → Int32 → Int32 → Option zS) (σ : zS) (x0 : Nat) (x1 : Int32) (x2 : Int32) (x3 : Int32) (s0 : Nat) (s1 : Int32) : Option zS :=
  Md_close_69 F rc2 rc10 rc18 σ x0 x1 x2 x3 s0 s1 (0 : Int32)
def Md_close_b18 (F : Nat) (rc2 : zS → Nat → Int32 → Option zS) (rc10 : zS → Nat → Int32 → Int32 → Option zS) (rc18 : zS → Nat → Int32 → Int32 → Int32 → Option zS) (σ : zS) (x0 : Nat) (x1 : Int32) (x2 : Int32) (x3 : Int32) : Option zS :=
  if (16 : Int32) ≤ x3 then (rc10 σ x0 x1 (x2 + (1 : Int32)))
  else (gd (isNd x0) (gd (inb (((16 : Int32) * x2) + x3) 256) (if (ga σ x0 (((16 : Int32) * x2) + x3).toNatClampNeg) = 0 then (gd (inb (((16 : Int32) * x2) + x1) 256) (if (ga σ x0 (((16 : Int32) * x2) + x1).toNatClampNeg) = 0 then (Md_close_68 F rc2 rc10 rc18 σ x0 x1 x2 x3 x0 (((16 : Int32) * x2) + x3))
  else (gd (inb (((16 : Int32) * x1) + x3) 256) (if (ga σ x0 (((16 : Int32) * x1) + x3).toNatClampNeg) = 0 then (Md_close_68 F rc2 rc10 rc18 σ x0 x1 x2 x3 x0 (((16 : Int32) * x2) + x3))
  else (Md_close_64 F rc2 rc10 rc18 σ x0 x1 x2 x3 x0 (((16 : Int32) * x2) + x3))))))
  else (Md_close_64 F rc2 rc10 rc18 σ x0 x1 x2 x3 x0 (((16 : Int32) * x2) + x3)))))
def Md_close_18 (F : Nat) (rc2 : zS → Nat → Int32 → Option zS) (rc10 : zS → Nat → Int32 → Int32 → Option zS) : Nat → zS → Nat → Int32 → Int32 → Int32 → Option zS
  | 0, _, _, _, _, _ => none
  | n + 1, σ, x0, x1, x2, x3 => Md_close_b18 F rc2 rc10 (Md_close_18 F rc2 rc10 n) σ x0 x1 x2 x3
def Md_close_b10 (F : Nat) (rc2 : zS → Nat → Int32 → Option zS) (rc10 : zS → Nat → Int32 → Int32 → Option zS) (σ : zS) (x0 : Nat) (x1 : Int32) (x2 : Int32) : Option zS :=
  if (16 : Int32) ≤ x2 then (rc2 σ x0 (x1 + (1 : Int32)))
  else (Md_close_18 F rc2 rc10 F σ x0 x1 x2 (0 : Int32))
def Md_close_10 (F : Nat) (rc2 : zS → Nat → Int32 → Option zS) : Nat → zS → Nat → Int32 → Int32 → Option zS
  | 0, _, _, _, _ => none
  | n + 1, σ, x0, x1, x2 => Md_close_b10 F rc2 (Md_close_10 F rc2 n) σ x0 x1 x2
def Md_close_b2 (F : Nat) (rc2 : zS → Nat → Int32 → Option zS) (σ : zS) (x0 : Nat) (x1 : Int32) : Option zS :=
  if (16 : Int32) ≤ x1 then (some σ)
  else (Md_close_10 F rc2 F σ x0 x1 (0 : Int32))
def Md_close_2 (F : Nat) : Nat → zS → Nat → Int32 → Option zS
  | 0, _, _, _ => none
  | n + 1, σ, x0, x1 => Md_close_b2 F (Md_close_2 F n) σ x0 x1
def Md_close (F : Nat) (σ : zS) (x0 : Nat) : Option zS :=
  Md_close_2 F F σ x0 (0 : Int32)
def Md_findNeeds_123 (F : Nat) (rc31 : zS → Int32 → Option zS) (σ : zS) (x1 : Int32) : Option zS :=
  rc31 σ (x1 + (1 : Int32))
def Md_findNeeds_122 (F : Nat) (rc31 : zS → Int32 → Option zS) (σ : zS) (x1 : Int32) (s1 : Int32) (s2 : Int32) : Option zS :=
  gd (inb s1 256) (Md_findNeeds_123 F rc31 (sa σ 47 s1.toNatClampNeg (vp_nar .boolean s2)) x1)
def Md_findNeeds_121 (F : Nat) (rc31 : zS → Int32 → Option zS) (σ : zS) (x1 : Int32) (s1 : Int32) : Option zS :=
  Md_findNeeds_122 F rc31 σ x1 s1 (0 : Int32)
def Md_findNeeds_63 (F : Nat) (rc31 : zS → Int32 → Option zS) (σ : zS) (x1 : Int32) (s0 : Int32) : Option zS :=
  if s0 < 0 then (Md_findNeeds_123 F rc31 σ x1)
  else (gd (inb x1 1400) (gd (inb (((16 : Int32) * (ga σ 13 x1.toNatClampNeg)) + s0) 256) (gd (inb (ga σ 13 x1.toNatClampNeg) 17) (if (ga σ 33 (ga σ 13 x1.toNatClampNeg).toNatClampNeg) = (1 : Int32) then (gd (inb s0 17) (if (ga σ 33 s0.toNatClampNeg) = (1 : Int32) then (Md_findNeeds_122 F rc31 (sa σ 46 (((16 : Int32) * (ga σ 13 x1.toNatClampNeg)) + s0).toNatClampNeg (vp_nar .boolean (1 : Int32))) x1 (((16 : Int32) * (ga σ 13 x1.toNatClampNeg)) + s0) (1 : Int32))
  else (Md_findNeeds_121 F rc31 (sa σ 46 (((16 : Int32) * (ga σ 13 x1.toNatClampNeg)) + s0).toNatClampNeg (vp_nar .boolean (1 : Int32))) x1 (((16 : Int32) * (ga σ 13 x1.toNatClampNeg)) + s0))))
  else (Md_findNeeds_121 F rc31 (sa σ 46 (((16 : Int32) * (ga σ 13 x1.toNatClampNeg)) + s0).toNatClampNeg (vp_nar .boolean (1 : Int32))) x1 (((16 : Int32) * (ga σ 13 x1.toNatClampNeg)) + s0))))))
def Md_findNeeds_b31 (F : Nat) (rc31 : zS → Int32 → Option zS) (σ : zS) (x1 : Int32) : Option zS :=
  if (gi σ 31) ≤ x1 then (bv (Md_close F σ 46) (fun σ2 => bv (Md_close F σ2 47) (fun σ4 => some σ4)))
  else (gd (inb x1 1400) (if (ga σ 10 x1.toNatClampNeg) = (5 : Int32) then (bi (Md_typeOf F σ (gb σ 11 x1.toNatClampNeg)) (fun r9 σ8 => Md_findNeeds_63 F rc31 σ8 x1 r9))
  else (Md_findNeeds_63 F rc31 σ x1 (-1 : Int32))))
def Md_findNeeds_31 (F : Nat) : Nat → zS → Int32 → Option zS
  | 0, _, _ => none
  | n + 1, σ, x1 => Md_findNeeds_b31 F (Md_findNeeds_31 F n) σ x1
def Md_findNeeds_b2 (F : Nat) (rc2 : zS → Int32 → Option zS) (σ : zS) (x1 : Int32) : Option zS :=
  if (256 : Int32) ≤ x1 then (Md_findNeeds_31 F F σ (0 : Int32))
  else (gd (inb x1 256) (rc2 (sa (sa σ 46 x1.toNatClampNeg (vp_nar .boolean (0 : Int32))) 47 x1.toNatClampNeg (vp_nar .boolean (0 : Int32))) (x1 + (1 : Int32))))
def Md_findNeeds_2 (F : Nat) : Nat → zS → Int32 → Option zS
  | 0, _, _ => none
  | n + 1, σ, x1 => Md_findNeeds_b2 F (Md_findNeeds_2 F n) σ x1
def Md_findNeeds (F : Nat) (σ : zS) : Option zS :=
  Md_findNeeds_2 F F σ (0 : Int32)
def Md_lookRings_60 (F : Nat) (σ : zS) : Option zS :=
  some σ
def Md_lookRings_54 (F : Nat) (rc6 : zS → Int32 → Option zS) (σ : zS) (x1 : Int32) : Option zS :=
  rc6 σ (x1 + (1 : Int32))
def Md_lookRings_b6 (F : Nat) (rc6 : zS → Int32 → Option zS) (σ : zS) (x1 : Int32) : Option zS :=
  if (gi σ 52) ≤ x1 then (Md_lookRings_60 F σ)
  else (if (gi σ 8) = 0 then (gd (inb x1 17) (if (ga σ 33 x1.toNatClampNeg) = (1 : Int32) then (gd (inb ((17 : Int32) * x1) 256) (if (ga σ 47 ((17 : Int32) * x1).toNatClampNeg) = 0 then (Md_lookRings_54 F rc6 σ x1)
  else (bv (Md_wrong F σ (4 : Int32) (ga σ 35 x1.toNatClampNeg)) (fun σ7 => Md_lookRings_54 F rc6 σ7 x1))))
  else (Md_lookRings_54 F rc6 σ x1)))
  else (Md_lookRings_60 F σ))
def Md_lookRings_6 (F : Nat) : Nat → zS → Int32 → Option zS
  | 0, _, _ => none
  | n + 1, σ, x1 => Md_lookRings_b6 F (Md_lookRings_6 F n) σ x1
def Md_lookRings (F : Nat) (σ : zS) : Option zS :=
  bv (Md_findNeeds F σ) (fun σ1 => Md_lookRings_6 F F σ1 (0 : Int32))
def Md_lookTakes_106 (F : Nat) (σ : zS) : Option zS :=
  some σ
def Md_lookTakes_100 (F : Nat) (rc2 : zS → Int32 → Option zS) (σ : zS) (x1 : Int32) : Option zS :=
  rc2 σ (x1 + (1 : Int32))
def Md_lookTakes_89 (F : Nat) (rc2 : zS → Int32 → Option zS) (σ : zS) (x1 : Int32) : Option zS :=
  gd (inb x1 1400) (bv (Md_wrong F σ (5 : Int32) (ga σ 12 x1.toNatClampNeg)) (fun σ2 => Md_lookTakes_100 F rc2 σ2 x1))
def Md_lookTakes_41 (F : Nat) (rc2 : zS → Int32 → Option zS) (σ : zS) (x1 : Int32) (s0 : Int32) : Option zS :=
  if s0 < 0 then (Md_lookTakes_100 F rc2 σ x1)
  else (gd (inb s0 17) (if (ga σ 33 s0.toNatClampNeg) = (1 : Int32) then (if (ga σ 36 s0.toNatClampNeg) ≤ 0 then (Md_lookTakes_100 F rc2 σ x1)
  else (gd (inb x1 1400) (if (ga σ 15 x1.toNatClampNeg) = 0 then (Md_lookTakes_89 F rc2 σ x1)
  else (if (ga σ 36 s0.toNatClampNeg) ≤ (ga σ 16 x1.toNatClampNeg) then (Md_lookTakes_100 F rc2 σ x1)
  else (Md_lookTakes_89 F rc2 σ x1)))))
  else (Md_lookTakes_100 F rc2 σ x1)))
def Md_lookTakes_b2 (F : Nat) (rc2 : zS → Int32 → Option zS) (σ : zS) (x1 : Int32) : Option zS :=
  if (gi σ 31) ≤ x1 then (Md_lookTakes_106 F σ)
  else (if (gi σ 8) = 0 then (gd (inb x1 1400) (if (ga σ 10 x1.toNatClampNeg) = (5 : Int32) then (bi (Md_typeOf F σ (gb σ 11 x1.toNatClampNeg)) (fun r6 σ5 => Md_lookTakes_41 F rc2 σ5 x1 r6))
  else (Md_lookTakes_41 F rc2 σ x1 (-1 : Int32))))
  else (Md_lookTakes_106 F σ))
def Md_lookTakes_2 (F : Nat) : Nat → zS → Int32 → Option zS
  | 0, _, _ => none
  | n + 1, σ, x1 => Md_lookTakes_b2 F (Md_lookTakes_2 F n) σ x1
def Md_lookTakes (F : Nat) (σ : zS) : Option zS :=
  Md_lookTakes_2 F F σ (0 : Int32)
def Md_isTogether_38 (F : Nat) (σ : zS) (s0 : Int32) : Option (Int32 × zS) :=
  gd (isB s0) (some (s0, σ))
def Md_isTogether_33 (F : Nat) (σ : zS) : Option (Int32 × zS) :=
  Md_isTogether_38 F σ (1 : Int32)
def Md_isTogether_37 (F : Nat) (σ : zS) : Option (Int32 × zS) :=
  Md_isTogether_38 F σ (0 : Int32)
def Md_isTogether (F : Nat) (σ : zS) (x1 : Int32) (x2 : Int32) : Option (Int32 × zS) :=
  if x1 = x2 then (Md_isTogether_33 F σ)
  else (gd (inb (((16 : Int32) * x1) + x2) 256) (if (ga σ 46 (((16 : Int32) * x1) + x2).toNatClampNeg) = 0 then (Md_isTogether_37 F σ)
  else (gd (inb (((16 : Int32) * x2) + x1) 256) (if (ga σ 46 (((16 : Int32) * x2) + x1).toNatClampNeg) = 0 then (Md_isTogether_37 F σ)
  else (Md_isTogether_33 F σ)))))
def Md_canCome_69 (F : Nat) (rc2 : zS → Int32 → Int32 → Option (Int32 × zS)) (σ : zS) (x1 : Int32) (x2 : Int32) : Option (Int32 × zS) :=
  rc2 σ x1 (x2 + (1 : Int32))
def Md_canCome_63 (F : Nat) (rc2 : zS → Int32 → Int32 → Option (Int32 × zS)) (rc12 : zS → Int32 → Int32 → Int32 → Option (Int32 × zS)) (σ : zS) (x1 : Int32) (x2 : Int32) (x3 : Int32) : Option (Int32 × zS) :=
  rc12 σ x1 x2 (x3 + (1 : Int32))
def Md_canCome_b12 (F : Nat) (rc2 : zS → Int32 → Int32 → Option (Int32 × zS)) (rc12 : zS → Int32 → Int32 → Int32 → Option (Int32 × zS)) (σ : zS) (x1 : Int32) (x2 : Int32) (x3 : Int32) : Option (Int32 × zS) :=
  if (gi σ 52) ≤ x3 then (Md_canCome_69 F rc2 σ x1 x2)
  else (bi (Md_isTogether F σ x1 x2) (fun r3 σ2 => if r3 = 0 then (Md_canCome_69 F rc2 σ2 x1 x2)
  else (gd (inb (((16 : Int32) * x2) + x3) 256) (if (ga σ2 46 (((16 : Int32) * x2) + x3).toNatClampNeg) = 0 then (Md_canCome_63 F rc2 rc12 σ2 x1 x2 x3)
  else (gd (inb x3 16) (if 0 ≤ (ga σ2 48 x3.toNatClampNeg) then (Md_canCome_63 F rc2 rc12 σ2 x1 x2 x3)
  else (bi (Md_isTogether F σ2 x1 x3) (fun r11 σ10 => if r11 = 0 then (some ((0 : Int32), σ10))
  else (Md_canCome_63 F rc2 rc12 σ10 x1 x2 x3)))))))))
def Md_canCome_12 (F : Nat) (rc2 : zS → Int32 → Int32 → Option (Int32 × zS)) : Nat → zS → Int32 → Int32 → Int32 → Option (Int32 × zS)
  | 0, _, _, _, _ => none
  | n + 1, σ, x1, x2, x3 => Md_canCome_b12 F rc2 (Md_canCome_12 F rc2 n) σ x1 x2 x3
def Md_canCome_b2 (F : Nat) (rc2 : zS → Int32 → Int32 → Option (Int32 × zS)) (σ : zS) (x1 : Int32) (x2 : Int32) : Option (Int32 × zS) :=
  if (gi σ 52) ≤ x2 then (some ((1 : Int32), σ))
  else (Md_canCome_12 F rc2 F σ x1 x2 (0 : Int32))
def Md_canCome_2 (F : Nat) : Nat → zS → Int32 → Int32 → Option (Int32 × zS)
  | 0, _, _, _ => none
  | n + 1, σ, x1, x2 => Md_canCome_b2 F (Md_canCome_2 F n) σ x1 x2
def Md_canCome (F : Nat) (σ : zS) (x1 : Int32) : Option (Int32 × zS) :=
  Md_canCome_2 F F σ x1 (0 : Int32)
def Md_unmark_b2 (F : Nat) (rc2 : zS → Int32 → Option zS) (σ : zS) (x1 : Int32) : Option zS :=
  if (gi σ 48) ≤ x1 then (some σ)
  else (gd (inb x1 4000) (rc2 (sa σ 54 x1.toNatClampNeg (0 : Int32)) (x1 + (1 : Int32))))
def Md_unmark_2 (F : Nat) : Nat → zS → Int32 → Option zS
  | 0, _, _ => none
  | n + 1, σ, x1 => Md_unmark_b2 F (Md_unmark_2 F n) σ x1
def Md_unmark (F : Nat) (σ : zS) : Option zS :=
  Md_unmark_2 F F σ (0 : Int32)
def Md_hasOpen_90 (F : Nat) (rc13 : zS → Int32 → Option (Int32 × zS)) (σ : zS) (x2 : Int32) (x3 : Int32) : Option (Int32 × zS) :=
  gd (inb x3 4000) (rc13 (sa σ 54 x3.toNatClampNeg (1 : Int32)) x2)
def Md_hasOpen_b13 (F : Nat) (rc13 : zS → Int32 → Option (Int32 × zS)) (σ : zS) (x2 : Int32) : Option (Int32 × zS) :=
  if x2 ≤ 0 then (some ((0 : Int32), σ))
  else (gd (inb (x2 + (-1 : Int32)) 16000) (bi (Md_top F σ (ga σ 53 (x2 + (-1 : Int32)).toNatClampNeg)) (fun r4 σ3 => gd (inb r4 4000) (if (ga σ3 26 r4.toNatClampNeg) = 0 then (some ((1 : Int32), σ3))
  else (if (ga σ3 26 r4.toNatClampNeg) = (2 : Int32) then (if (ga σ3 54 r4.toNatClampNeg) = 0 then (gd (inb ((x2 + (-1 : Int32)) + (1 : Int32)) 16000) (Md_hasOpen_90 F rc13 (sa (sa σ3 53 (x2 + (-1 : Int32)).toNatClampNeg (ga σ3 28 r4.toNatClampNeg)) 53 ((x2 + (-1 : Int32)) + (1 : Int32)).toNatClampNeg (ga σ3 27 r4.toNatClampNeg)) ((x2 + (-1 : Int32)) + (2 : Int32)) r4))
  else (Md_hasOpen_90 F rc13 σ3 (x2 + (-1 : Int32)) r4))
  else (Md_hasOpen_90 F rc13 σ3 (x2 + (-1 : Int32)) r4))))))
def Md_hasOpen_13 (F : Nat) : Nat → zS → Int32 → Option (Int32 × zS)
  | 0, _, _ => none
  | n + 1, σ, x2 => Md_hasOpen_b13 F (Md_hasOpen_13 F n) σ x2
def Md_hasOpen (F : Nat) (σ : zS) (x1 : Int32) : Option (Int32 × zS) :=
  bv (Md_unmark F σ) (fun σ1 => gd (inb (0 : Int32) 16000) (Md_hasOpen_13 F F (sa σ1 53 (0 : Int32).toNatClampNeg x1) (1 : Int32)))
def Md_closeGroup_129 (F : Nat) (rc87 : zS → Int32 → Option zS) (σ : zS) (x2 : Int32) (s1 : Int32) (s2 : Int32) : Option zS :=
  gd (inb s1 4000) (rc87 (sa σ 26 s1.toNatClampNeg s2) (x2 + (1 : Int32)))
def Md_closeGroup_123 (F : Nat) (rc87 : zS → Int32 → Option zS) (σ : zS) (x2 : Int32) (s1 : Int32) : Option zS :=
  gd (inb x2 4000) (Md_closeGroup_129 F rc87 σ x2 s1 (ga σ 26 x2.toNatClampNeg))
def Md_closeGroup_b87 (F : Nat) (rc87 : zS → Int32 → Option zS) (σ : zS) (x2 : Int32) : Option zS :=
  if (gi σ 48) ≤ x2 then (some σ)
  else (gd (inb x2 4000) (if (ga σ 26 x2.toNatClampNeg) = 0 then (if (ga σ 29 x2.toNatClampNeg) = x2 then (Md_closeGroup_129 F rc87 σ x2 x2 (1 : Int32))
  else (Md_closeGroup_123 F rc87 σ x2 x2))
  else (Md_closeGroup_123 F rc87 σ x2 x2)))
def Md_closeGroup_87 (F : Nat) : Nat → zS → Int32 → Option zS
  | 0, _, _ => none
  | n + 1, σ, x2 => Md_closeGroup_b87 F (Md_closeGroup_87 F n) σ x2
def Md_closeGroup_79 (F : Nat) (rc2 : zS → Int32 → Int32 → Option zS) (σ : zS) (x1 : Int32) (x2 : Int32) : Option zS :=
  rc2 σ x1 (x2 + (1 : Int32))
def Md_closeGroup_71 (F : Nat) (rc2 : zS → Int32 → Int32 → Option zS) (rc32 : zS → Int32 → Int32 → Int32 → Option zS) (σ : zS) (x1 : Int32) (x2 : Int32) (x3 : Int32) (s1 : Int32) (s2 : Int32) (s3 : Int32) : Option zS :=
  gd (inb s1 16) (rc32 (sa σ 52 s1.toNatClampNeg (s2 + s3)) x1 x2 (x3 + (1 : Int32)))
def Md_closeGroup_b32 (F : Nat) (rc2 : zS → Int32 → Int32 → Option zS) (rc32 : zS → Int32 → Int32 → Int32 → Option zS) (σ : zS) (x1 : Int32) (x2 : Int32) (x3 : Int32) : Option zS :=
  gd (inb x2 17) (if (ga σ 36 x2.toNatClampNeg) ≤ x3 then (Md_closeGroup_79 F rc2 σ x1 x2)
  else (gd (inb x2 16) (gd (inb (((3 : Int32) * x2) + x3) 48) (bi (Md_hasOpen F σ (ga σ 50 (((3 : Int32) * x2) + x3).toNatClampNeg)) (fun r6 σ5 => if r6 = 0 then (Md_closeGroup_71 F rc2 rc32 σ5 x1 x2 x3 x2 (ga σ 52 x2.toNatClampNeg) (0 : Int32))
  else (Md_closeGroup_71 F rc2 rc32 σ5 x1 x2 x3 x2 (ga σ 52 x2.toNatClampNeg) (1 : Int32)))))))
def Md_closeGroup_32 (F : Nat) (rc2 : zS → Int32 → Int32 → Option zS) : Nat → zS → Int32 → Int32 → Int32 → Option zS
  | 0, _, _, _, _ => none
  | n + 1, σ, x1, x2, x3 => Md_closeGroup_b32 F rc2 (Md_closeGroup_32 F rc2 n) σ x1 x2 x3
def Md_closeGroup_b2 (F : Nat) (rc2 : zS → Int32 → Int32 → Option zS) (σ : zS) (x1 : Int32) (x2 : Int32) : Option zS :=
  if (gi σ 52) ≤ x2 then (Md_closeGroup_87 F F σ (0 : Int32))
  else (gd (inb x2 16) (if (ga σ 48 x2.toNatClampNeg) = x1 then (Md_closeGroup_32 F rc2 F (sa σ 52 x2.toNatClampNeg (0 : Int32)) x1 x2 (0 : Int32))
  else (Md_closeGroup_79 F rc2 σ x1 x2)))
def Md_closeGroup_2 (F : Nat) : Nat → zS → Int32 → Int32 → Option zS
  | 0, _, _, _ => none
  | n + 1, σ, x1, x2 => Md_closeGroup_b2 F (Md_closeGroup_2 F n) σ x1 x2
def Md_closeGroup (F : Nat) (σ : zS) (x1 : Int32) : Option zS :=
  Md_closeGroup_2 F F σ x1 (0 : Int32)
def Md_copy_b2 (F : Nat) (rc2 : zS → Nat → Nat → Int32 → Int32 → Option zS) (σ : zS) (x0 : Nat) (x1 : Nat) (x2 : Int32) (x3 : Int32) : Option zS :=
  if x2 ≤ x3 then (some σ)
  else (gd (isUp x0) (gd (inb x3 4000) (gd (isUp x1) (rc2 (sa σ x1 x3.toNatClampNeg (ga σ x0 x3.toNatClampNeg)) x0 x1 x2 (x3 + (1 : Int32))))))
def Md_copy_2 (F : Nat) : Nat → zS → Nat → Nat → Int32 → Int32 → Option zS
  | 0, _, _, _, _, _ => none
  | n + 1, σ, x0, x1, x2, x3 => Md_copy_b2 F (Md_copy_2 F n) σ x0 x1 x2 x3
def Md_copy (F : Nat) (σ : zS) (x0 : Nat) (x1 : Nat) (x2 : Int32) : Option zS :=
  Md_copy_2 F F σ x0 x1 x2 (0 : Int32)
def Md_isOnWay_19 (F : Nat) (σ : zS) (s0 : Int32) : Option (Int32 × zS) :=
  gd (isB s0) (some (s0, σ))
def Md_isOnWay (F : Nat) (σ : zS) (x1 : Int32) : Option (Int32 × zS) :=
  bi (Md_top F σ x1) (fun r2 σ1 => gd (inb r2 4000) (if (ga σ1 54 r2.toNatClampNeg) = (1 : Int32) then (Md_isOnWay_19 F σ1 (1 : Int32))
  else (Md_isOnWay_19 F σ1 (0 : Int32))))
def Md_goesRound_73 (F : Nat) (rc13 : zS → Int32 → Option (Int32 × zS)) (σ : zS) (x2 : Int32) : Option (Int32 × zS) :=
  rc13 σ (x2 + (-1 : Int32))
def Md_goesRound_112 (F : Nat) (σ : zS) : Option (Int32 × zS) :=
  some ((1 : Int32), σ)
def Md_goesRound_b13 (F : Nat) (rc13 : zS → Int32 → Option (Int32 × zS)) (σ : zS) (x2 : Int32) : Option (Int32 × zS) :=
  if x2 ≤ 0 then (some ((0 : Int32), σ))
  else (gd (inb (x2 - (1 : Int32)) 16000) (bi (Md_top F σ (ga σ 53 (x2 - (1 : Int32)).toNatClampNeg)) (fun r4 σ3 => gd (inb r4 4000) (if (ga σ3 54 r4.toNatClampNeg) = (1 : Int32) then (rc13 (sa σ3 54 r4.toNatClampNeg (2 : Int32)) (x2 + (-1 : Int32)))
  else (if (ga σ3 54 r4.toNatClampNeg) = (2 : Int32) then (Md_goesRound_73 F rc13 σ3 x2)
  else (if (ga σ3 26 r4.toNatClampNeg) = (2 : Int32) then (bi (Md_isOnWay F (sa σ3 54 r4.toNatClampNeg (1 : Int32)) (ga σ3 27 r4.toNatClampNeg)) (fun r11 σ10 => if r11 = 0 then (bi (Md_isOnWay F σ10 (ga σ10 28 r4.toNatClampNeg)) (fun r15 σ14 => if r15 = 0 then (gd (inb x2 16000) (gd (inb (x2 + (1 : Int32)) 16000) (rc13 (sa (sa σ14 53 x2.toNatClampNeg (ga σ14 28 r4.toNatClampNeg)) 53 (x2 + (1 : Int32)).toNatClampNeg (ga σ14 27 r4.toNatClampNeg)) (x2 + (2 : Int32)))))
  else (Md_goesRound_112 F σ14)))
  else (Md_goesRound_112 F σ10)))
  else (Md_goesRound_73 F rc13 σ3 x2)))))))
def Md_goesRound_13 (F : Nat) : Nat → zS → Int32 → Option (Int32 × zS)
  | 0, _, _ => none
  | n + 1, σ, x2 => Md_goesRound_b13 F (Md_goesRound_13 F n) σ x2
def Md_goesRound (F : Nat) (σ : zS) (x1 : Int32) : Option (Int32 × zS) :=
  bv (Md_unmark F σ) (fun σ1 => gd (inb (0 : Int32) 16000) (Md_goesRound_13 F F (sa σ1 53 (0 : Int32).toNatClampNeg x1) (1 : Int32)))
def Md_join_203 (F : Nat) (rc16 : zS → Int32 → Option (Int32 × zS)) (σ : zS) (x3 : Int32) : Option (Int32 × zS) :=
  rc16 σ x3
def Md_join_b16 (F : Nat) (rc16 : zS → Int32 → Option (Int32 × zS)) (σ : zS) (x3 : Int32) : Option (Int32 × zS) :=
  if x3 ≤ 0 then (some ((1 : Int32), σ))
  else (gd (inb (x3 + (-2 : Int32)) 16000) (bi (Md_top F σ (ga σ 53 (x3 + (-2 : Int32)).toNatClampNeg)) (fun r4 σ3 => gd (inb ((x3 + (-2 : Int32)) + (1 : Int32)) 16000) (bi (Md_top F σ3 (ga σ3 53 ((x3 + (-2 : Int32)) + (1 : Int32)).toNatClampNeg)) (fun r8 σ7 => if r4 = r8 then (rc16 σ7 (x3 + (-2 : Int32)))
  else (gd (inb r4 4000) (if (ga σ7 26 r4.toNatClampNeg) = 0 then (Md_join_203 F rc16 (sa σ7 29 r4.toNatClampNeg r8) (x3 + (-2 : Int32)))
  else (gd (inb r8 4000) (if (ga σ7 26 r8.toNatClampNeg) = 0 then (Md_join_203 F rc16 (sa σ7 29 r8.toNatClampNeg r4) (x3 + (-2 : Int32)))
  else (if (ga σ7 26 r4.toNatClampNeg) = (ga σ7 26 r8.toNatClampNeg) then (if (ga σ7 26 r4.toNatClampNeg) = (2 : Int32) then (gd (inb ((x3 + (-2 : Int32)) + (2 : Int32)) 16000) (gd (inb ((x3 + (-2 : Int32)) + (3 : Int32)) 16000) (Md_join_203 F rc16 (sa (sa (sa (sa (sa σ7 29 r4.toNatClampNeg r8) 53 (x3 + (-2 : Int32)).toNatClampNeg (ga σ7 28 r4.toNatClampNeg)) 53 ((x3 + (-2 : Int32)) + (1 : Int32)).toNatClampNeg (ga σ7 28 r8.toNatClampNeg)) 53 ((x3 + (-2 : Int32)) + (2 : Int32)).toNatClampNeg (ga σ7 27 r4.toNatClampNeg)) 53 ((x3 + (-2 : Int32)) + (3 : Int32)).toNatClampNeg (ga σ7 27 r8.toNatClampNeg)) ((x3 + (-2 : Int32)) + (4 : Int32)))))
  else (Md_join_203 F rc16 (sa σ7 29 r4.toNatClampNeg r8) (x3 + (-2 : Int32))))
  else (some ((0 : Int32), σ7))))))))))))
def Md_join_16 (F : Nat) : Nat → zS → Int32 → Option (Int32 × zS)
  | 0, _, _ => none
  | n + 1, σ, x3 => Md_join_b16 F (Md_join_16 F n) σ x3
def Md_join (F : Nat) (σ : zS) (x1 : Int32) (x2 : Int32) : Option (Int32 × zS) :=
  gd (inb (0 : Int32) 16000) (gd (inb (1 : Int32) 16000) (Md_join_16 F F (sa (sa σ 53 (0 : Int32).toNatClampNeg x1) 53 (1 : Int32).toNatClampNeg x2) (2 : Int32)))
def Md_equate_77 (F : Nat) (σ : zS) : Option zS :=
  some σ
def Md_equate_40 (F : Nat) (σ : zS) (x1 : Int32) (x2 : Int32) (x3 : Int32) : Option zS :=
  bv (Md_copy F σ 30 29 (gi σ 48)) (fun σ1 => bv (Md_wrong F σ1 (6 : Int32) x3) (fun σ3 => Md_equate_77 F (si (si (si σ3 10 (1 : Int32)) 79 x1) 80 x2)))
def Md_equate (F : Nat) (σ : zS) (x1 : Int32) (x2 : Int32) (x3 : Int32) : Option zS :=
  if (gi σ 8) ≤ 0 then (bv (Md_copy F σ 29 30 (gi σ 48)) (fun σ2 => bi (Md_join F σ2 x1 x2) (fun r5 σ4 => if r5 = 0 then (Md_equate_40 F σ4 x1 x2 x3)
  else (bi (Md_goesRound F σ4 x1) (fun r9 σ8 => if r9 = 0 then (Md_equate_77 F σ8)
  else (Md_equate_40 F σ8 x1 x2 x3))))))
  else (some σ)
def Md_doAct_118 (F : Nat) (σ : zS) : Option zS :=
  some σ
def Md_doAct_109 (F : Nat) (σ : zS) (x1 : Int32) (s1 : Int32) (s2 : Int32) : Option zS :=
  gd (inb x1 1600) (bv (Md_equate F σ s1 s2 (ga σ 9 x1.toNatClampNeg)) (fun σ2 => Md_doAct_118 F σ2))
def Md_doAct (F : Nat) (σ : zS) (x1 : Int32) (x2 : Int32) : Option zS :=
  gd (inb x1 1600) (if (ga σ 7 x1.toNatClampNeg) = 0 then (bi (Md_newKind F σ (0 : Int32) (0 : Int32) (0 : Int32)) (fun r7 σ6 => gd (inb (ga σ 8 x1.toNatClampNeg) 1000) (gd (inb (ga σ6 5 (ga σ 8 x1.toNatClampNeg).toNatClampNeg) 1000) (bi (Md_newKind F σ6 (2 : Int32) (ga σ6 6 (ga σ6 5 (ga σ 8 x1.toNatClampNeg).toNatClampNeg).toNatClampNeg) r7) (fun r12 σ11 => gd (inb (ga σ11 4 (ga σ 8 x1.toNatClampNeg).toNatClampNeg) 1000) (bv (Md_equate F σ11 (ga σ11 6 (ga σ11 4 (ga σ 8 x1.toNatClampNeg).toNatClampNeg).toNatClampNeg) r12 (ga σ11 9 x1.toNatClampNeg)) (fun σ15 => Md_doAct_118 F (sa σ15 6 (ga σ 8 x1.toNatClampNeg).toNatClampNeg r7))))))))
  else (gd (inb (ga σ 8 x1.toNatClampNeg) 1000) (if (ga σ 7 x1.toNatClampNeg) = (1 : Int32) then (Md_doAct_109 F σ x1 (ga σ 6 (ga σ 8 x1.toNatClampNeg).toNatClampNeg) (gi σ 49))
  else (gd (inb x2 16) (Md_doAct_109 F σ x1 (ga σ 6 (ga σ 8 x1.toNatClampNeg).toNatClampNeg) (ga σ 51 x2.toNatClampNeg))))))
def Md_kindOfSmall_141 (F : Nat) (rc67 : zS → Int32 → Int32 → Option (Int32 × zS)) (σ : zS) (x1 : Int32) (x4 : Int32) : Option (Int32 × zS) :=
  rc67 σ x1 (x4 + (1 : Int32))
def Md_kindOfSmall_b67 (F : Nat) (rc67 : zS → Int32 → Int32 → Option (Int32 × zS)) (σ : zS) (x1 : Int32) (x4 : Int32) : Option (Int32 × zS) :=
  if x1 ≤ x4 then (bi (Md_newKind F σ (0 : Int32) (0 : Int32) (0 : Int32)) (fun r3 σ2 => some (r3, σ2)))
  else (gd (inb x4 1000) (if (ga σ 2 x4.toNatClampNeg) = (1 : Int32) then (gd (inb x1 1000) (if (ga σ 4 x4.toNatClampNeg) = (ga σ 4 x1.toNatClampNeg) then (if (ga σ 5 x4.toNatClampNeg) = (ga σ 5 x1.toNatClampNeg) then (if (lg_cmp (gb σ 3 x4.toNatClampNeg) (gb σ 3 x1.toNatClampNeg)) = 0 then (some ((ga σ 6 x4.toNatClampNeg), σ))
  else (Md_kindOfSmall_141 F rc67 σ x1 x4))
  else (Md_kindOfSmall_141 F rc67 σ x1 x4))
  else (Md_kindOfSmall_141 F rc67 σ x1 x4)))
  else (Md_kindOfSmall_141 F rc67 σ x1 x4)))
def Md_kindOfSmall_67 (F : Nat) : Nat → zS → Int32 → Int32 → Option (Int32 × zS)
  | 0, _, _, _ => none
  | n + 1, σ, x1, x4 => Md_kindOfSmall_b67 F (Md_kindOfSmall_67 F n) σ x1 x4
def Md_kindOfSmall_64 (F : Nat) (σ : zS) (x1 : Int32) (x2 : Int32) : Option (Int32 × zS) :=
  Md_kindOfSmall_67 F F σ x1 x2
def Md_kindOfSmall_b10 (F : Nat) (rc10 : zS → Int32 → Int32 → Int32 → Int32 → Option (Int32 × zS)) (σ : zS) (x1 : Int32) (x2 : Int32) (x3 : Int32) (x4 : Int32) : Option (Int32 × zS) :=
  if x3 < 0 then (Md_kindOfSmall_64 F σ x1 x2)
  else (gd (inb x3 17) (if (ga σ 36 x3.toNatClampNeg) ≤ x4 then (Md_kindOfSmall_64 F σ x1 x2)
  else (gd (inb (((3 : Int32) * x3) + x4) 51) (gd (inb x1 1000) (if (lg_cmp (gb σ 37 (((3 : Int32) * x3) + x4).toNatClampNeg) (gb σ 3 x1.toNatClampNeg)) = 0 then (gd (inb (((3 : Int32) * x3) + x4) 48) (some ((ga σ 50 (((3 : Int32) * x3) + x4).toNatClampNeg), σ)))
  else (rc10 σ x1 x2 x3 (x4 + (1 : Int32))))))))
def Md_kindOfSmall_10 (F : Nat) : Nat → zS → Int32 → Int32 → Int32 → Int32 → Option (Int32 × zS)
  | 0, _, _, _, _, _ => none
  | n + 1, σ, x1, x2, x3, x4 => Md_kindOfSmall_b10 F (Md_kindOfSmall_10 F n) σ x1 x2 x3 x4
def Md_kindOfSmall (F : Nat) (σ : zS) (x1 : Int32) (x2 : Int32) : Option (Int32 × zS) :=
  gd (inb x1 1000) (Md_kindOfSmall_10 F F σ x1 x2 (ga σ 4 x1.toNatClampNeg) (0 : Int32))
def Md_layKind_108 (F : Nat) (σ : zS) : Option zS :=
  some σ
def Md_layKind_20 (F : Nat) (σ : zS) (x1 : Int32) : Option zS :=
  gd (inb x1 1000) (Md_layKind_108 F (sa σ 6 x1.toNatClampNeg (gi σ 49)))
def Md_layKind_82 (F : Nat) (σ : zS) (s1 : Int32) (s2 : Int32) : Option zS :=
  gd (inb s1 1000) (Md_layKind_108 F (sa σ 6 s1.toNatClampNeg s2))
def Md_layKind (F : Nat) (σ : zS) (x1 : Int32) (x2 : Int32) : Option zS :=
  gd (inb x1 1000) (if (ga σ 2 x1.toNatClampNeg) = (3 : Int32) then (Md_layKind_20 F σ x1)
  else (if (ga σ 2 x1.toNatClampNeg) = (4 : Int32) then (Md_layKind_20 F σ x1)
  else (if (ga σ 2 x1.toNatClampNeg) = 0 then (if (lg_cmp (gb σ 3 x1.toNatClampNeg) (4812404 : Int64)) = 0 then (Md_layKind_82 F σ x1 (gi σ 49))
  else (bi (Md_typeOf F σ (gb σ 3 x1.toNatClampNeg)) (fun r11 σ10 => gd (inb r11 16) (Md_layKind_82 F σ10 x1 (ga σ10 49 r11.toNatClampNeg)))))
  else (if (ga σ 2 x1.toNatClampNeg) = (1 : Int32) then (bi (Md_kindOfSmall F σ x1 x2) (fun r7 σ6 => Md_layKind_108 F (sa σ6 6 x1.toNatClampNeg r7)))
  else (Md_layKind_108 F σ)))))
def Md_layKindOnce_16 (F : Nat) (σ : zS) : Option zS :=
  some σ
def Md_layKindOnce (F : Nat) (σ : zS) (x1 : Int32) : Option zS :=
  gd (inb x1 1000) (if (ga σ 2 x1.toNatClampNeg) = (2 : Int32) then (Md_layKindOnce_16 F σ)
  else (bv (Md_layKind F σ x1 (0 : Int32)) (fun σ3 => Md_layKindOnce_16 F σ3)))
def Md_prepare_145 (F : Nat) (σ : zS) (s1 : Int32) (s2 : Int32) : Option zS :=
  gd (inb s1 16) (some (sa σ 49 s1.toNatClampNeg s2))
def Md_prepare_118 (F : Nat) (σ : zS) (x1 : Int32) (x2 : Int32) : Option zS :=
  gd (inb x1 17) (if (ga σ 33 x1.toNatClampNeg) = (2 : Int32) then (gd (inb ((3 : Int32) * x1) 48) (Md_prepare_145 F σ x1 (ga σ 50 ((3 : Int32) * x1).toNatClampNeg)))
  else (Md_prepare_145 F σ x1 x2))
def Md_prepare_b81 (F : Nat) (rc81 : zS → Int32 → Int32 → Int32 → Option zS) (σ : zS) (x1 : Int32) (x2 : Int32) (x3 : Int32) : Option zS :=
  if x3 < 0 then (Md_prepare_118 F σ x1 x2)
  else (gd (inb x1 17) (if (2 : Int32) ≤ (ga σ 33 x1.toNatClampNeg) then (Md_prepare_118 F σ x1 x2)
  else (gd (inb (((3 : Int32) * x1) + x3) 48) (bi (Md_newKind F σ (2 : Int32) (ga σ 50 (((3 : Int32) * x1) + x3).toNatClampNeg) x2) (fun r6 σ5 => rc81 σ5 x1 r6 (x3 + (-1 : Int32)))))))
def Md_prepare_81 (F : Nat) : Nat → zS → Int32 → Int32 → Int32 → Option zS
  | 0, _, _, _, _ => none
  | n + 1, σ, x1, x2, x3 => Md_prepare_b81 F (Md_prepare_81 F n) σ x1 x2 x3
def Md_prepare_64 (F : Nat) (σ : zS) (x1 : Int32) (s1 : Int32) (s2 : Int32) : Option zS :=
  gd (inb s1 16) (gd (inb x1 16) (gd (inb x1 17) (Md_prepare_81 F F (sa σ 51 s1.toNatClampNeg s2) x1 (ga (sa σ 51 s1.toNatClampNeg s2) 51 x1.toNatClampNeg) ((ga σ 36 x1.toNatClampNeg) - (1 : Int32)))))
def Md_prepare_b2 (F : Nat) (rc2 : zS → Int32 → Int32 → Option zS) (σ : zS) (x1 : Int32) (x2 : Int32) : Option zS :=
  gd (inb x1 17) (if (ga σ 36 x1.toNatClampNeg) ≤ x2 then (if (ga σ 33 x1.toNatClampNeg) = (1 : Int32) then (bi (Md_newKind F σ (0 : Int32) (0 : Int32) (0 : Int32)) (fun r5 σ4 => Md_prepare_64 F σ4 x1 x1 r5))
  else (Md_prepare_64 F σ x1 x1 (gi σ 49)))
  else (bi (Md_newKind F σ (0 : Int32) (0 : Int32) (0 : Int32)) (fun r8 σ7 => gd (inb (((3 : Int32) * x1) + x2) 48) (rc2 (sa σ7 50 (((3 : Int32) * x1) + x2).toNatClampNeg r8) x1 (x2 + (1 : Int32))))))
def Md_prepare_2 (F : Nat) : Nat → zS → Int32 → Int32 → Option zS
  | 0, _, _, _ => none
  | n + 1, σ, x1, x2 => Md_prepare_b2 F (Md_prepare_2 F n) σ x1 x2
def Md_prepare (F : Nat) (σ : zS) (x1 : Int32) : Option zS :=
  Md_prepare_2 F F σ x1 (0 : Int32)
def Md_solve_236 (F : Nat) (σ : zS) : Option zS :=
  some σ
def Md_solve_218 (F : Nat) (rc164 : zS → Int32 → Int32 → Option zS) (σ : zS) (x1 : Int32) (x2 : Int32) : Option zS :=
  rc164 σ x1 (x2 + (1 : Int32))
def Md_solve_b179 (F : Nat) (rc164 : zS → Int32 → Int32 → Option zS) (rc179 : zS → Int32 → Int32 → Int32 → Option zS) (σ : zS) (x1 : Int32) (x2 : Int32) (x3 : Int32) : Option zS :=
  gd (inb x2 17) (if (ga σ 40 x2.toNatClampNeg) ≤ x3 then (Md_solve_218 F rc164 σ x1 x2)
  else (if (gi σ 8) = 0 then (gd (inb x2 16) (if (ga σ 48 x2.toNatClampNeg) = x1 then (bv (Md_doAct F σ x3 x2) (fun σ6 => rc179 σ6 x1 x2 (x3 + (1 : Int32))))
  else (Md_solve_218 F rc164 σ x1 x2)))
  else (Md_solve_218 F rc164 σ x1 x2)))
def Md_solve_179 (F : Nat) (rc164 : zS → Int32 → Int32 → Option zS) : Nat → zS → Int32 → Int32 → Int32 → Option zS
  | 0, _, _, _, _ => none
  | n + 1, σ, x1, x2, x3 => Md_solve_b179 F rc164 (Md_solve_179 F rc164 n) σ x1 x2 x3
def Md_solve_b164 (F : Nat) (rc164 : zS → Int32 → Int32 → Option zS) (σ : zS) (x1 : Int32) (x2 : Int32) : Option zS :=
  if (gi σ 52) ≤ x2 then (if (gi σ 8) = 0 then (bv (Md_closeGroup F σ x1) (fun σ3 => Md_solve_236 F σ3))
  else (Md_solve_236 F σ))
  else (gd (inb x2 17) (Md_solve_179 F rc164 F σ x1 x2 (ga σ 39 x2.toNatClampNeg)))
def Md_solve_164 (F : Nat) : Nat → zS → Int32 → Int32 → Option zS
  | 0, _, _, _ => none
  | n + 1, σ, x1, x2 => Md_solve_b164 F (Md_solve_164 F n) σ x1 x2
def Md_solve_162 (F : Nat) (σ : zS) (x1 : Int32) : Option zS :=
  Md_solve_164 F F σ x1 (0 : Int32)
def Md_solve_156 (F : Nat) (rc98 : zS → Int32 → Int32 → Option zS) (σ : zS) (x1 : Int32) (x2 : Int32) : Option zS :=
  rc98 σ x1 (x2 + (1 : Int32))
def Md_solve_b98 (F : Nat) (rc98 : zS → Int32 → Int32 → Option zS) (σ : zS) (x1 : Int32) (x2 : Int32) : Option zS :=
  if (gi σ 62) ≤ x2 then (Md_solve_162 F σ x1)
  else (if (gi σ 8) = 0 then (gd (inb x2 300) (bi (Md_declOf F σ (gb σ 42 x2.toNatClampNeg)) (fun r5 σ4 => gd (inb r5 16) (if (ga σ4 48 r5.toNatClampNeg) = x1 then (bv (Md_equate F σ4 (ga σ4 49 r5.toNatClampNeg) (ga σ4 44 x2.toNatClampNeg) (ga σ4 43 x2.toNatClampNeg)) (fun σ9 => Md_solve_156 F rc98 σ9 x1 x2))
  else (Md_solve_156 F rc98 σ4 x1 x2)))))
  else (Md_solve_162 F σ x1))
def Md_solve_98 (F : Nat) : Nat → zS → Int32 → Int32 → Option zS
  | 0, _, _, _ => none
  | n + 1, σ, x1, x2 => Md_solve_b98 F (Md_solve_98 F n) σ x1 x2
def Md_solve_90 (F : Nat) (rc33 : zS → Int32 → Int32 → Option zS) (σ : zS) (x1 : Int32) (x2 : Int32) : Option zS :=
  rc33 σ x1 (x2 + (1 : Int32))
def Md_solve_85 (F : Nat) (rc33 : zS → Int32 → Int32 → Option zS) (σ : zS) (x1 : Int32) (x2 : Int32) : Option zS :=
  bv (Md_layKindOnce F σ x2) (fun σ1 => Md_solve_90 F rc33 σ1 x1 x2)
def Md_solve_65 (F : Nat) (rc33 : zS → Int32 → Int32 → Option zS) (σ : zS) (x1 : Int32) (x2 : Int32) (s0 : Int32) : Option zS :=
  if s0 = 0 then (Md_solve_85 F rc33 σ x1 x2)
  else (gd (inb x2 1000) (gd (inb (ga σ 4 x2.toNatClampNeg) 16) (if (ga σ 48 (ga σ 4 x2.toNatClampNeg).toNatClampNeg) = x1 then (Md_solve_85 F rc33 σ x1 x2)
  else (Md_solve_90 F rc33 σ x1 x2))))
def Md_solve_60 (F : Nat) (rc33 : zS → Int32 → Int32 → Option zS) (σ : zS) (x1 : Int32) (x2 : Int32) : Option zS :=
  Md_solve_65 F rc33 σ x1 x2 (1 : Int32)
def Md_solve_b33 (F : Nat) (rc33 : zS → Int32 → Int32 → Option zS) (σ : zS) (x1 : Int32) (x2 : Int32) : Option zS :=
  if (gi σ 16) ≤ x2 then (Md_solve_98 F F σ x1 (0 : Int32))
  else (gd (inb x2 1000) (if (ga σ 2 x2.toNatClampNeg) = 0 then (Md_solve_60 F rc33 σ x1 x2)
  else (if (ga σ 2 x2.toNatClampNeg) = (1 : Int32) then (Md_solve_60 F rc33 σ x1 x2)
  else (Md_solve_65 F rc33 σ x1 x2 (0 : Int32)))))
def Md_solve_33 (F : Nat) : Nat → zS → Int32 → Int32 → Option zS
  | 0, _, _, _ => none
  | n + 1, σ, x1, x2 => Md_solve_b33 F (Md_solve_33 F n) σ x1 x2
def Md_solve_25 (F : Nat) (rc2 : zS → Int32 → Int32 → Option zS) (σ : zS) (x1 : Int32) (x2 : Int32) : Option zS :=
  rc2 σ x1 (x2 + (1 : Int32))
def Md_solve_b2 (F : Nat) (rc2 : zS → Int32 → Int32 → Option zS) (σ : zS) (x1 : Int32) (x2 : Int32) : Option zS :=
  if (gi σ 52) ≤ x2 then (Md_solve_33 F F σ x1 (0 : Int32))
  else (gd (inb x2 16) (if (ga σ 48 x2.toNatClampNeg) = x1 then (bv (Md_prepare F σ x2) (fun σ4 => Md_solve_25 F rc2 σ4 x1 x2))
  else (Md_solve_25 F rc2 σ x1 x2)))
def Md_solve_2 (F : Nat) : Nat → zS → Int32 → Int32 → Option zS
  | 0, _, _, _ => none
  | n + 1, σ, x1, x2 => Md_solve_b2 F (Md_solve_2 F n) σ x1 x2
def Md_solve (F : Nat) (σ : zS) (x1 : Int32) : Option zS :=
  Md_solve_2 F F σ x1 (0 : Int32)
def Md_solveAll_159 (F : Nat) (σ : zS) : Option zS :=
  some σ
def Md_solveAll_153 (F : Nat) (rc30 : zS → Int32 → Option zS) (σ : zS) (x1 : Int32) : Option zS :=
  rc30 σ (x1 + (1 : Int32))
def Md_solveAll_128 (F : Nat) (rc30 : zS → Int32 → Option zS) (rc93 : zS → Int32 → Int32 → Int32 → Option zS) (σ : zS) (x1 : Int32) (x2 : Int32) (x3 : Int32) (s1 : Int32) (s2 : Int32) : Option zS :=
  gd (inb s1 16) (rc93 (sa σ 48 s1.toNatClampNeg s2) x1 x2 (x3 + (1 : Int32)))
def Md_solveAll_b93 (F : Nat) (rc30 : zS → Int32 → Option zS) (rc93 : zS → Int32 → Int32 → Int32 → Option zS) (σ : zS) (x1 : Int32) (x2 : Int32) (x3 : Int32) : Option zS :=
  if (gi σ 52) ≤ x3 then (bv (Md_solve F σ (gi σ 71)) (fun σ2 => Md_solveAll_153 F rc30 (si σ2 71 ((gi σ2 71) + (1 : Int32))) x1))
  else (bi (Md_isTogether F σ x2 x3) (fun r5 σ4 => if r5 = 0 then (gd (inb x3 16) (Md_solveAll_128 F rc30 rc93 σ4 x1 x2 x3 x3 (ga σ4 48 x3.toNatClampNeg)))
  else (Md_solveAll_128 F rc30 rc93 σ4 x1 x2 x3 x3 (gi σ4 71))))
def Md_solveAll_93 (F : Nat) (rc30 : zS → Int32 → Option zS) : Nat → zS → Int32 → Int32 → Int32 → Option zS
  | 0, _, _, _, _ => none
  | n + 1, σ, x1, x2, x3 => Md_solveAll_b93 F rc30 (Md_solveAll_93 F rc30 n) σ x1 x2 x3
def Md_solveAll_80 (F : Nat) (rc30 : zS → Int32 → Option zS) (rc54 : zS → Int32 → Int32 → Int32 → Option zS) (σ : zS) (x1 : Int32) (x3 : Int32) (s0 : Int32) : Option zS :=
  rc54 σ x1 s0 (x3 + (-1 : Int32))
def Md_solveAll_79 (F : Nat) (rc30 : zS → Int32 → Option zS) (rc54 : zS → Int32 → Int32 → Int32 → Option zS) (σ : zS) (x1 : Int32) (x2 : Int32) (x3 : Int32) : Option zS :=
  Md_solveAll_80 F rc30 rc54 σ x1 x3 x2
def Md_solveAll_b54 (F : Nat) (rc30 : zS → Int32 → Option zS) (rc54 : zS → Int32 → Int32 → Int32 → Option zS) (σ : zS) (x1 : Int32) (x2 : Int32) (x3 : Int32) : Option zS :=
  if x3 < 0 then (if x2 < 0 then (Md_solveAll_153 F rc30 σ x1)
  else (Md_solveAll_93 F rc30 F σ x1 x2 (0 : Int32)))
  else (gd (inb x3 16) (if 0 ≤ (ga σ 48 x3.toNatClampNeg) then (Md_solveAll_79 F rc30 rc54 σ x1 x2 x3)
  else (bi (Md_canCome F σ x3) (fun r6 σ5 => if r6 = 0 then (Md_solveAll_79 F rc30 rc54 σ5 x1 x2 x3)
  else (Md_solveAll_80 F rc30 rc54 σ5 x1 x3 x3)))))
def Md_solveAll_54 (F : Nat) (rc30 : zS → Int32 → Option zS) : Nat → zS → Int32 → Int32 → Int32 → Option zS
  | 0, _, _, _, _ => none
  | n + 1, σ, x1, x2, x3 => Md_solveAll_b54 F rc30 (Md_solveAll_54 F rc30 n) σ x1 x2 x3
def Md_solveAll_b30 (F : Nat) (rc30 : zS → Int32 → Option zS) (σ : zS) (x1 : Int32) : Option zS :=
  if (gi σ 52) ≤ x1 then (Md_solveAll_159 F σ)
  else (if (gi σ 8) = 0 then (Md_solveAll_54 F rc30 F σ x1 (-1 : Int32) ((gi σ 52) - (1 : Int32)))
  else (Md_solveAll_159 F σ))
def Md_solveAll_30 (F : Nat) : Nat → zS → Int32 → Option zS
  | 0, _, _ => none
  | n + 1, σ, x1 => Md_solveAll_b30 F (Md_solveAll_30 F n) σ x1
def Md_solveAll_b7 (F : Nat) (rc7 : zS → Int32 → Option zS) (σ : zS) (x1 : Int32) : Option zS :=
  if (gi σ 52) ≤ x1 then (Md_solveAll_30 F F σ (0 : Int32))
  else (gd (inb x1 16) (rc7 (sa σ 48 x1.toNatClampNeg (-1 : Int32)) (x1 + (1 : Int32))))
def Md_solveAll_7 (F : Nat) : Nat → zS → Int32 → Option zS
  | 0, _, _ => none
  | n + 1, σ, x1 => Md_solveAll_b7 F (Md_solveAll_7 F n) σ x1
def Md_solveAll (F : Nat) (σ : zS) : Option zS :=
  Md_solveAll_7 F F (si σ 71 (0 : Int32)) (0 : Int32)
def Md_put_20 (F : Nat) (σ : zS) : Option zS :=
  some (si σ 82 ((gi σ 82) + (1 : Int32)))
def Md_put (F : Nat) (σ : zS) (x1 : Int32) : Option zS :=
  if (5990 : Int32) ≤ (gi σ 82) then (Md_put_20 F σ)
  else (gd (inb (gi σ 82) 6000) (Md_put_20 F (sa σ 55 (gi σ 82).toNatClampNeg x1)))
def Md_commit_b2 (F : Nat) (rc2 : zS → Int32 → Option (Int32 × zS)) (σ : zS) (x1 : Int32) : Option (Int32 × zS) :=
  if (gi σ 82) ≤ x1 then (some ((gi σ 82), (si σ 84 (gi σ 82))))
  else (gd (inb x1 6000) (rc2 (sa σ 56 x1.toNatClampNeg (ga σ 55 x1.toNatClampNeg)) (x1 + (1 : Int32))))
def Md_commit_2 (F : Nat) : Nat → zS → Int32 → Option (Int32 × zS)
  | 0, _, _ => none
  | n + 1, σ, x1 => Md_commit_b2 F (Md_commit_2 F n) σ x1
def Md_commit (F : Nat) (σ : zS) : Option (Int32 × zS) :=
  Md_commit_2 F F σ (0 : Int32)
def Md_giveLetters_130 (F : Nat) (rc9 : zS → Int32 → Option zS) (σ : zS) (x2 : Int32) (x3 : Int32) : Option zS :=
  gd (inb x3 4000) (rc9 (sa σ 54 x3.toNatClampNeg (1 : Int32)) x2)
def Md_giveLetters_82 (F : Nat) (rc9 : zS → Int32 → Option zS) (σ : zS) (x2 : Int32) (x3 : Int32) : Option zS :=
  gd (inb x3 4000) (if (ga σ 54 x3.toNatClampNeg) = 0 then (if (ga σ 26 x3.toNatClampNeg) = (2 : Int32) then (gd (inb x2 16000) (gd (inb (x2 + (1 : Int32)) 16000) (Md_giveLetters_130 F rc9 (sa (sa σ 53 x2.toNatClampNeg (ga σ 28 x3.toNatClampNeg)) 53 (x2 + (1 : Int32)).toNatClampNeg (ga σ 27 x3.toNatClampNeg)) (x2 + (2 : Int32)) x3)))
  else (Md_giveLetters_130 F rc9 σ x2 x3))
  else (Md_giveLetters_130 F rc9 σ x2 x3))
def Md_giveLetters_71 (F : Nat) (rc9 : zS → Int32 → Option zS) (σ : zS) (x2 : Int32) (x3 : Int32) (s1 : Int32) (s2 : Int32) : Option zS :=
  gd (inb s1 4000) (Md_giveLetters_82 F rc9 (si (sa σ 57 s1.toNatClampNeg s2) 87 ((gi σ 87) + (1 : Int32))) x2 x3)
def Md_giveLetters_b9 (F : Nat) (rc9 : zS → Int32 → Option zS) (σ : zS) (x2 : Int32) : Option zS :=
  if x2 ≤ 0 then (some σ)
  else (gd (inb (x2 + (-1 : Int32)) 16000) (bi (Md_top F σ (ga σ 53 (x2 + (-1 : Int32)).toNatClampNeg)) (fun r4 σ3 => gd (inb r4 4000) (if (ga σ3 54 r4.toNatClampNeg) = 0 then (if (ga σ3 26 r4.toNatClampNeg) = 0 then (if (25 : Int32) ≤ (gi σ3 87) then (Md_giveLetters_71 F rc9 σ3 (x2 + (-1 : Int32)) r4 r4 (122 : Int32))
  else (Md_giveLetters_71 F rc9 σ3 (x2 + (-1 : Int32)) r4 r4 ((97 : Int32) + (gi σ3 87))))
  else (Md_giveLetters_82 F rc9 σ3 (x2 + (-1 : Int32)) r4))
  else (Md_giveLetters_82 F rc9 σ3 (x2 + (-1 : Int32)) r4)))))
def Md_giveLetters_9 (F : Nat) : Nat → zS → Int32 → Option zS
  | 0, _, _ => none
  | n + 1, σ, x2 => Md_giveLetters_b9 F (Md_giveLetters_9 F n) σ x2
def Md_giveLetters (F : Nat) (σ : zS) (x1 : Int32) : Option zS :=
  gd (inb (0 : Int32) 16000) (Md_giveLetters_9 F F (sa σ 53 (0 : Int32).toNatClampNeg x1) (1 : Int32))
def Md_layKindOf_119 (F : Nat) (σ : zS) (x1 : Int32) (x4 : Int32) : Option (Int32 × zS) :=
  gd (inb x1 4000) (gd (inb x4 16000) (some ((x4 + (1 : Int32)), (sa σ 53 x4.toNatClampNeg (ga σ 27 x1.toNatClampNeg)))))
def Md_layKindOf_67 (F : Nat) (σ : zS) (x1 : Int32) (x2 : Int32) (s0 : Int32) : Option (Int32 × zS) :=
  gd (inb x1 4000) (gd (inb x2 16000) (gd (inb (x2 + (1 : Int32)) 16000) (if s0 = 0 then (Md_layKindOf_119 F (sa (sa σ 53 x2.toNatClampNeg (ga σ 28 x1.toNatClampNeg)) 53 (x2 + (1 : Int32)).toNatClampNeg (-2 : Int32)) x1 (x2 + (2 : Int32)))
  else (bv (Md_put F (sa (sa σ 53 x2.toNatClampNeg (ga σ 28 x1.toNatClampNeg)) 53 (x2 + (1 : Int32)).toNatClampNeg (-2 : Int32)) (40 : Int32)) (fun σ5 => gd (inb (x2 + (2 : Int32)) 16000) (Md_layKindOf_119 F (sa σ5 53 (x2 + (2 : Int32)).toNatClampNeg (-1 : Int32)) x1 ((x2 + (2 : Int32)) + (1 : Int32))))))))
def Md_layKindOf_38 (F : Nat) (σ : zS) (x2 : Int32) (s1 : Int32) : Option (Int32 × zS) :=
  bv (Md_put F σ s1) (fun σ1 => some (x2, σ1))
def Md_layKindOf_36 (F : Nat) (σ : zS) (x2 : Int32) : Option (Int32 × zS) :=
  Md_layKindOf_38 F σ x2 (42 : Int32)
def Md_layKindOf (F : Nat) (σ : zS) (x1 : Int32) (x2 : Int32) : Option (Int32 × zS) :=
  gd (inb x1 4000) (if (ga σ 26 x1.toNatClampNeg) = (2 : Int32) then (bi (Md_top F σ (ga σ 27 x1.toNatClampNeg)) (fun r4 σ3 => gd (inb r4 4000) (if (ga σ3 26 r4.toNatClampNeg) = (2 : Int32) then (Md_layKindOf_67 F σ3 x1 x2 (1 : Int32))
  else (Md_layKindOf_67 F σ3 x1 x2 (0 : Int32)))))
  else (if (ga σ 26 x1.toNatClampNeg) = 0 then (if (gi σ 85) = 0 then (Md_layKindOf_36 F σ x2)
  else (Md_layKindOf_38 F σ x2 (ga σ 57 x1.toNatClampNeg)))
  else (Md_layKindOf_36 F σ x2)))
def Md_layKindOut_87 (F : Nat) (σ : zS) : Option zS :=
  some σ
def Md_layKindOut_84 (F : Nat) (rc14 : zS → Int32 → Option zS) (σ : zS) (x2 : Int32) : Option zS :=
  rc14 σ x2
def Md_layKindOut_b14 (F : Nat) (rc14 : zS → Int32 → Option zS) (σ : zS) (x2 : Int32) : Option zS :=
  if x2 ≤ 0 then (Md_layKindOut_87 F σ)
  else (if (2000 : Int32) < (gi σ 82) then (Md_layKindOut_87 F σ)
  else (gd (inb (x2 + (-1 : Int32)) 16000) (if (ga σ 53 (x2 + (-1 : Int32)).toNatClampNeg) = (-1 : Int32) then (bv (Md_put F σ (41 : Int32)) (fun σ16 => Md_layKindOut_84 F rc14 σ16 (x2 + (-1 : Int32))))
  else (if (ga σ 53 (x2 + (-1 : Int32)).toNatClampNeg) = (-2 : Int32) then (bv (Md_put F σ (45 : Int32)) (fun σ12 => bv (Md_put F σ12 (62 : Int32)) (fun σ14 => Md_layKindOut_84 F rc14 σ14 (x2 + (-1 : Int32)))))
  else (bi (Md_top F σ (ga σ 53 (x2 + (-1 : Int32)).toNatClampNeg)) (fun r7 σ6 => bi (Md_layKindOf F σ6 r7 (x2 + (-1 : Int32))) (fun r10 σ9 => Md_layKindOut_84 F rc14 σ9 r10)))))))
def Md_layKindOut_14 (F : Nat) : Nat → zS → Int32 → Option zS
  | 0, _, _ => none
  | n + 1, σ, x2 => Md_layKindOut_b14 F (Md_layKindOut_14 F n) σ x2
def Md_layKindOut (F : Nat) (σ : zS) (x1 : Int32) : Option zS :=
  gd (inb (0 : Int32) 16000) (Md_layKindOut_14 F F (sa (si σ 82 (0 : Int32)) 53 (0 : Int32).toNatClampNeg x1) (1 : Int32))
def Md_showKind_24 (F : Nat) (σ : zS) (s0 : Int32) : Option (Int32 × zS) :=
  some (s0, σ)
def Md_showKind (F : Nat) (σ : zS) (x1 : Int32) : Option (Int32 × zS) :=
  bv (Md_layKindOut F σ x1) (fun σ1 => if (gi σ1 82) ≤ (2000 : Int32) then (bi (Md_commit F σ1) (fun r5 σ4 => Md_showKind_24 F σ4 r5))
  else (Md_showKind_24 F σ1 (-4 : Int32)))
def Md_read_128 (F : Nat) (σ : zS) (s0 : Int32) : Option (Int32 × zS) :=
  some (s0, σ)
def Md_read_76 (F : Nat) (σ : zS) : Option (Int32 × zS) :=
  bv (Md_copy F (si (si σ 88 (gi σ 48)) 89 (gi σ 16)) 29 58 (gi σ 48)) (fun σ1 => if (gi σ1 8) ≤ 0 then (Md_read_128 F σ1 (gi σ1 52))
  else (Md_read_128 F σ1 ((-10 : Int32) - (gi σ1 8))))
def Md_read_54 (F : Nat) (σ : zS) : Option (Int32 × zS) :=
  if (gi σ 8) ≤ 0 then (Md_read_76 F (si σ 2 (0 : Int32)))
  else (Md_read_76 F (si (si (si σ 2 (0 : Int32)) 52 (0 : Int32)) 71 (0 : Int32)))
def Md_read_43 (F : Nat) (σ : zS) : Option (Int32 × zS) :=
  if (gi σ 8) = 0 then (bv (Md_solveAll F σ) (fun σ2 => Md_read_54 F σ2))
  else (Md_read_54 F σ)
def Md_read_32 (F : Nat) (σ : zS) : Option (Int32 × zS) :=
  if (gi σ 8) = 0 then (bv (Md_lookTakes F σ) (fun σ2 => Md_read_43 F σ2))
  else (Md_read_43 F σ)
def Md_read_21 (F : Nat) (σ : zS) : Option (Int32 × zS) :=
  if (gi σ 8) = 0 then (bv (Md_lookRings F σ) (fun σ2 => Md_read_32 F σ2))
  else (Md_read_32 F σ)
def Md_read (F : Nat) (σ : zS) : Option (Int32 × zS) :=
  bv (Md_readText F (si σ 0 (0 : Int32))) (fun σ1 => if (gi σ1 8) = 0 then (bv (Md_lookNames F σ1 (1 : Int32)) (fun σ4 => Md_read_21 F σ4))
  else (Md_read_21 F σ1))
def Md_place (F : Nat) (σ : zS) : Option (Int32 × zS) :=
  some ((gi σ 9), (si σ 0 (0 : Int32)))
def Md_side_73 (F : Nat) (σ : zS) (s1 : Int32) : Option (Int32 × zS) :=
  bi (Md_showKind F σ s1) (fun r2 σ1 => some (r2, (si σ1 85 (0 : Int32))))
def Md_side_17 (F : Nat) (σ : zS) (x1 : Int32) : Option (Int32 × zS) :=
  if (gi σ 10) = 0 then (some ((-3 : Int32), σ))
  else (bv (Md_unmark F σ) (fun σ2 => bv (Md_giveLetters F (si σ2 87 (0 : Int32)) (gi σ2 79)) (fun σ4 => bv (Md_giveLetters F σ4 (gi σ4 80)) (fun σ6 => if x1 = 0 then (Md_side_73 F (si σ6 85 (1 : Int32)) (gi σ6 79))
  else (Md_side_73 F (si σ6 85 (1 : Int32)) (gi σ6 80))))))
def Md_side (F : Nat) (σ : zS) (x1 : Int32) : Option (Int32 × zS) :=
  if x1 = 0 then (Md_side_17 F (si σ 0 (0 : Int32)) x1)
  else (if x1 = (1 : Int32) then (Md_side_17 F (si σ 0 (0 : Int32)) x1)
  else (some ((-2 : Int32), (si σ 0 (0 : Int32)))))
def Md_out_27 (F : Nat) (σ : zS) (s0 : Int32) : Option (Int32 × zS) :=
  some (s0, σ)
def Md_out_26 (F : Nat) (σ : zS) : Option (Int32 × zS) :=
  Md_out_27 F σ (-1 : Int32)
def Md_out (F : Nat) (σ : zS) (x1 : Int32) : Option (Int32 × zS) :=
  if x1 < 0 then (Md_out_26 F (si σ 0 (0 : Int32)))
  else (if (gi σ 84) ≤ x1 then (Md_out_26 F (si σ 0 (0 : Int32)))
  else (gd (inb x1 6000) (Md_out_27 F (si σ 0 (0 : Int32)) (ga σ 56 x1.toNatClampNeg))))
def Md_isDecl_17 (F : Nat) (σ : zS) (s0 : Int32) : Option (Int32 × zS) :=
  gd (isB s0) (some (s0, σ))
def Md_isDecl_16 (F : Nat) (σ : zS) : Option (Int32 × zS) :=
  Md_isDecl_17 F σ (0 : Int32)
def Md_isDecl (F : Nat) (σ : zS) (x1 : Int32) : Option (Int32 × zS) :=
  if x1 < 0 then (Md_isDecl_16 F σ)
  else (if (gi σ 52) ≤ x1 then (Md_isDecl_16 F σ)
  else (Md_isDecl_17 F σ (1 : Int32)))
def Md_told (F : Nat) (σ : zS) (x1 : Int32) (x2 : Int32) : Option (Int32 × zS) :=
  bi (Md_isDecl F (si σ 0 (0 : Int32)) x1) (fun r2 σ1 => if r2 = 0 then (some ((-1 : Int32), σ1))
  else (if x2 = (0 : Int32) then (gd (inb x1 17) (some ((ga σ1 33 x1.toNatClampNeg), σ1)))
  else if x2 = (1 : Int32) then (gd (inb x1 17) (some ((ga σ1 36 x1.toNatClampNeg), σ1)))
  else if x2 = (2 : Int32) then (gd (inb x1 16) (some ((ga σ1 48 x1.toNatClampNeg), σ1)))
  else if x2 = (3 : Int32) then (gd (inb x1 17) (some ((ga σ1 35 x1.toNatClampNeg), σ1)))
  else if x2 = (4 : Int32) then (gd (inb x1 17) (some ((ga σ1 38 x1.toNatClampNeg), σ1)))
  else if x2 = (5 : Int32) then (gd (inb x1 16) (some ((ga σ1 52 x1.toNatClampNeg), σ1)))
  else (some ((-2 : Int32), σ1))))
def Md_kindOf_28 (F : Nat) (σ : zS) : Option (Int32 × zS) :=
  some ((-1 : Int32), σ)
def Md_kindOf_54 (F : Nat) (σ : zS) (s1 : Int32) : Option (Int32 × zS) :=
  bi (Md_showKind F σ s1) (fun r2 σ1 => some (r2, σ1))
def Md_kindOf (F : Nat) (σ : zS) (x1 : Int32) (x2 : Int32) : Option (Int32 × zS) :=
  bi (Md_isDecl F (si σ 0 (0 : Int32)) x1) (fun r2 σ1 => if r2 = 0 then (Md_kindOf_28 F σ1)
  else (if x2 < (-1 : Int32) then (Md_kindOf_28 F σ1)
  else (gd (inb x1 17) (if x2 < (ga σ1 36 x1.toNatClampNeg) then (if 0 ≤ x2 then (gd (inb (((3 : Int32) * x1) + x2) 48) (Md_kindOf_54 F σ1 (ga σ1 50 (((3 : Int32) * x1) + x2).toNatClampNeg)))
  else (gd (inb x1 16) (Md_kindOf_54 F σ1 (ga σ1 49 x1.toNatClampNeg))))
  else (Md_kindOf_28 F σ1)))))
def Md_groups (F : Nat) (σ : zS) : Option (Int32 × zS) :=
  some ((gi σ 71), (si σ 0 (0 : Int32)))
def Md_member_63 (F : Nat) (σ : zS) : Option (Int32 × zS) :=
  some ((-1 : Int32), σ)
def Md_member_57 (F : Nat) (rc10 : zS → Int32 → Int32 → Int32 → Int32 → Option (Int32 × zS)) (σ : zS) (x1 : Int32) (x2 : Int32) (x3 : Int32) (x4 : Int32) : Option (Int32 × zS) :=
  rc10 σ x1 x2 x3 (x4 + (1 : Int32))
def Md_member_b10 (F : Nat) (rc10 : zS → Int32 → Int32 → Int32 → Int32 → Option (Int32 × zS)) (σ : zS) (x1 : Int32) (x2 : Int32) (x3 : Int32) (x4 : Int32) : Option (Int32 × zS) :=
  if (gi σ 52) ≤ x4 then (Md_member_63 F σ)
  else (if x1 < 0 then (Md_member_63 F σ)
  else (if (gi σ 71) ≤ x1 then (Md_member_63 F σ)
  else (if x2 < 0 then (Md_member_63 F σ)
  else (gd (inb x4 16) (if (ga σ 48 x4.toNatClampNeg) = x1 then (if x3 = x2 then (some (x4, σ))
  else (Md_member_57 F rc10 σ x1 x2 (x3 + (1 : Int32)) x4))
  else (Md_member_57 F rc10 σ x1 x2 x3 x4))))))
def Md_member_10 (F : Nat) : Nat → zS → Int32 → Int32 → Int32 → Int32 → Option (Int32 × zS)
  | 0, _, _, _, _, _ => none
  | n + 1, σ, x1, x2, x3, x4 => Md_member_b10 F (Md_member_10 F n) σ x1 x2 x3 x4
def Md_member (F : Nat) (σ : zS) (x1 : Int32) (x2 : Int32) : Option (Int32 × zS) :=
  Md_member_10 F F (si σ 0 (0 : Int32)) x1 x2 (0 : Int32) (0 : Int32)
def Md_needs_44 (F : Nat) (σ : zS) (s0 : Int32) : Option (Int32 × zS) :=
  some (s0, σ)
def Md_needs_43 (F : Nat) (σ : zS) : Option (Int32 × zS) :=
  Md_needs_44 F σ (-1 : Int32)
def Md_needs (F : Nat) (σ : zS) (x1 : Int32) (x2 : Int32) : Option (Int32 × zS) :=
  bi (Md_isDecl F (si σ 0 (0 : Int32)) x1) (fun r2 σ1 => if r2 = 0 then (Md_needs_43 F σ1)
  else (bi (Md_isDecl F σ1 x2) (fun r6 σ5 => if r6 = 0 then (Md_needs_43 F σ5)
  else (gd (inb (((16 : Int32) * x1) + x2) 256) (if (ga σ5 46 (((16 : Int32) * x1) + x2).toNatClampNeg) = 0 then (Md_needs_44 F σ5 (0 : Int32))
  else (Md_needs_44 F σ5 (1 : Int32)))))))
def Md_readAsked_190 (F : Nat) (σ : zS) (x2 : Int32) : Option (Int32 × zS) :=
  some (x2, (si σ 2 (0 : Int32)))
def Md_readAsked_b163 (F : Nat) (rc163 : zS → Int32 → Int32 → Option (Int32 × zS)) (σ : zS) (x2 : Int32) (x3 : Int32) : Option (Int32 × zS) :=
  if (gi σ 23) ≤ x3 then (Md_readAsked_190 F σ x2)
  else (if (gi σ 8) = 0 then (bv (Md_doAct F σ x3 (0 : Int32)) (fun σ3 => rc163 σ3 x2 (x3 + (1 : Int32))))
  else (Md_readAsked_190 F σ x2))
def Md_readAsked_163 (F : Nat) : Nat → zS → Int32 → Int32 → Option (Int32 × zS)
  | 0, _, _, _ => none
  | n + 1, σ, x2, x3 => Md_readAsked_b163 F (Md_readAsked_163 F n) σ x2 x3
def Md_readAsked_161 (F : Nat) (σ : zS) (x2 : Int32) : Option (Int32 × zS) :=
  Md_readAsked_163 F F σ x2 (0 : Int32)
def Md_readAsked_155 (F : Nat) (rc121 : zS → Int32 → Int32 → Option (Int32 × zS)) (σ : zS) (x2 : Int32) (x3 : Int32) : Option (Int32 × zS) :=
  rc121 σ x2 (x3 + (1 : Int32))
def Md_readAsked_b121 (F : Nat) (rc121 : zS → Int32 → Int32 → Option (Int32 × zS)) (σ : zS) (x2 : Int32) (x3 : Int32) : Option (Int32 × zS) :=
  if (gi σ 16) ≤ x3 then (Md_readAsked_161 F σ x2)
  else (if (gi σ 8) = 0 then (gd (inb x3 1000) (if (ga σ 2 x3.toNatClampNeg) = (2 : Int32) then (Md_readAsked_155 F rc121 σ x2 x3)
  else (bv (Md_layKind F σ x3 (gi σ 89)) (fun σ5 => Md_readAsked_155 F rc121 σ5 x2 x3))))
  else (Md_readAsked_161 F σ x2))
def Md_readAsked_121 (F : Nat) : Nat → zS → Int32 → Int32 → Option (Int32 × zS)
  | 0, _, _, _ => none
  | n + 1, σ, x2, x3 => Md_readAsked_b121 F (Md_readAsked_121 F n) σ x2 x3
def Md_readAsked_116 (F : Nat) (σ : zS) (x2 : Int32) : Option (Int32 × zS) :=
  Md_readAsked_121 F F σ x2 (gi σ 89)
def Md_readAsked_105 (F : Nat) (σ : zS) (x2 : Int32) : Option (Int32 × zS) :=
  if (gi σ 8) = 0 then (bv (Md_lookTakes F σ) (fun σ2 => Md_readAsked_116 F σ2 x2))
  else (Md_readAsked_116 F σ x2)
def Md_readAsked_93 (F : Nat) (σ : zS) (x2 : Int32) : Option (Int32 × zS) :=
  if (gi σ 8) = 0 then (bv (Md_lookNames F σ (0 : Int32)) (fun σ2 => Md_readAsked_105 F σ2 x2))
  else (Md_readAsked_105 F σ x2)
def Md_readAsked_74 (F : Nat) (σ : zS) (x2 : Int32) : Option (Int32 × zS) :=
  if (gi σ 8) = 0 then (if (gi σ 4) = (5 : Int32) then (Md_readAsked_93 F σ x2)
  else (bv (Md_cannot F σ) (fun σ3 => Md_readAsked_93 F σ3 x2)))
  else (Md_readAsked_93 F σ x2)
def Md_readAsked (F : Nat) (σ : zS) (x1 : Int32) : Option (Int32 × zS) :=
  bv (Md_copy F σ 58 29 (gi σ 88)) (fun σ1 => bv (Md_begin F (si (si (si (si σ1 48 (gi σ1 88)) 16 (gi σ1 89)) 31 (0 : Int32)) 23 (0 : Int32))) (fun σ3 => bi (Md_readType F σ3) (fun r6 σ5 => if x1 = 0 then (Md_readAsked_74 F σ5 r6)
  else (bv (Md_want F σ5 (44 : Int32)) (fun σ9 => bi (Md_readType F (si σ9 32 (-2 : Int32))) (fun r12 σ11 => Md_readAsked_74 F (si σ11 91 r12) r6))))))
def Md_kind_38 (F : Nat) (σ : zS) (s0 : Int32) : Option (Int32 × zS) :=
  some (s0, σ)
def Md_kind (F : Nat) (σ : zS) : Option (Int32 × zS) :=
  bi (Md_readAsked F (si σ 0 (0 : Int32)) (0 : Int32)) (fun r2 σ1 => if (gi σ1 8) ≤ 0 then (gd (inb r2 1000) (bi (Md_showKind F σ1 (ga σ1 6 r2.toNatClampNeg)) (fun r7 σ6 => Md_kind_38 F σ6 r7)))
  else (Md_kind_38 F σ1 ((-10 : Int32) - (gi σ1 8))))
def Md_lay_138 (F : Nat) (rc12 : zS → Nat → Int32 → Int32 → Option (Int32 × zS)) (σ : zS) (x2 : Nat) (x3 : Int32) (x4 : Int32) : Option (Int32 × zS) :=
  rc12 σ x2 x3 (x4 + (1 : Int32))
def Md_lay_48 (F : Nat) (rc12 : zS → Nat → Int32 → Int32 → Option (Int32 × zS)) (σ : zS) (x2 : Nat) (x3 : Int32) (x4 : Int32) (x5 : Int32) : Option (Int32 × zS) :=
  gd (isPt x2) (gd (inb x4 1200) (Md_lay_138 F rc12 (sa σ x2 x4.toNatClampNeg ((10 : Int32) + x5)) x2 x3 x4))
def Md_lay_122 (F : Nat) (rc12 : zS → Nat → Int32 → Int32 → Option (Int32 × zS)) (σ : zS) (x2 : Nat) (x3 : Int32) (x4 : Int32) (x5 : Int32) : Option (Int32 × zS) :=
  gd (inb x5 1000) (gd (inb x3 16000) (Md_lay_138 F rc12 (sa σ 53 x3.toNatClampNeg (ga σ 4 x5.toNatClampNeg)) x2 (x3 + (1 : Int32)) x4))
def Md_lay_94 (F : Nat) (rc12 : zS → Nat → Int32 → Int32 → Option (Int32 × zS)) (σ : zS) (x2 : Nat) (x3 : Int32) (x4 : Int32) (x5 : Int32) (s0 : Nat) (s1 : Int32) (s2 : Int32) : Option (Int32 × zS) :=
  gd (isPt s0) (gd (inb s1 1200) (gd (inb x5 1000) (if (ga (sa σ s0 s1.toNatClampNeg s2) 2 x5.toNatClampNeg) = (3 : Int32) then (Md_lay_122 F rc12 (sa σ s0 s1.toNatClampNeg s2) x2 x3 x4 x5)
  else (gd (inb x3 16000) (Md_lay_122 F rc12 (sa (sa σ s0 s1.toNatClampNeg s2) 53 x3.toNatClampNeg (ga (sa σ s0 s1.toNatClampNeg s2) 5 x5.toNatClampNeg)) x2 (x3 + (1 : Int32)) x4 x5)))))
def Md_lay_b12 (F : Nat) (rc12 : zS → Nat → Int32 → Int32 → Option (Int32 × zS)) (σ : zS) (x2 : Nat) (x3 : Int32) (x4 : Int32) : Option (Int32 × zS) :=
  if x3 ≤ 0 then (some (x4, σ))
  else (gd (inb (x3 + (-1 : Int32)) 16000) (gd (inb (ga σ 53 (x3 + (-1 : Int32)).toNatClampNeg) 1000) (if (ga σ 2 (ga σ 53 (x3 + (-1 : Int32)).toNatClampNeg).toNatClampNeg) = 0 then (Md_lay_48 F rc12 σ x2 (x3 + (-1 : Int32)) x4 (ga σ 53 (x3 + (-1 : Int32)).toNatClampNeg))
  else (if (ga σ 2 (ga σ 53 (x3 + (-1 : Int32)).toNatClampNeg).toNatClampNeg) = (1 : Int32) then (Md_lay_48 F rc12 σ x2 (x3 + (-1 : Int32)) x4 (ga σ 53 (x3 + (-1 : Int32)).toNatClampNeg))
  else (if (ga σ 2 (ga σ 53 (x3 + (-1 : Int32)).toNatClampNeg).toNatClampNeg) = (2 : Int32) then (Md_lay_94 F rc12 σ x2 (x3 + (-1 : Int32)) x4 (ga σ 53 (x3 + (-1 : Int32)).toNatClampNeg) x2 x4 (0 : Int32))
  else (if (ga σ 2 (ga σ 53 (x3 + (-1 : Int32)).toNatClampNeg).toNatClampNeg) = (3 : Int32) then (Md_lay_94 F rc12 σ x2 (x3 + (-1 : Int32)) x4 (ga σ 53 (x3 + (-1 : Int32)).toNatClampNeg) x2 x4 (1 : Int32))
  else (Md_lay_94 F rc12 σ x2 (x3 + (-1 : Int32)) x4 (ga σ 53 (x3 + (-1 : Int32)).toNatClampNeg) x2 x4 (2 : Int32))))))))
def Md_lay_12 (F : Nat) : Nat → zS → Nat → Int32 → Int32 → Option (Int32 × zS)
  | 0, _, _, _, _ => none
  | n + 1, σ, x2, x3, x4 => Md_lay_b12 F (Md_lay_12 F n) σ x2 x3 x4
def Md_lay (F : Nat) (σ : zS) (x1 : Int32) (x2 : Nat) : Option (Int32 × zS) :=
  gd (inb (0 : Int32) 16000) (Md_lay_12 F F (sa σ 53 (0 : Int32).toNatClampNeg x1) x2 (1 : Int32) (0 : Int32))
def Md_end_39 (F : Nat) (rc4 : zS → Int32 → Int32 → Option (Int32 × zS)) (σ : zS) (x3 : Int32) (s0 : Int32) (s1 : Int32) : Option (Int32 × zS) :=
  rc4 σ (s0 + s1) (x3 + (1 : Int32))
def Md_end_b4 (F : Nat) (rc4 : zS → Int32 → Int32 → Option (Int32 × zS)) (σ : zS) (x2 : Int32) (x3 : Int32) : Option (Int32 × zS) :=
  if x2 ≤ 0 then (some (x3, σ))
  else (gd (inb x3 1200) (if (ga σ 59 x3.toNatClampNeg) < (10 : Int32) then (if (ga σ 59 x3.toNatClampNeg) = (1 : Int32) then (Md_end_39 F rc4 σ x3 x2 (0 : Int32))
  else (Md_end_39 F rc4 σ x3 x2 (1 : Int32)))
  else (Md_end_39 F rc4 σ x3 x2 (-1 : Int32))))
def Md_end_4 (F : Nat) : Nat → zS → Int32 → Int32 → Option (Int32 × zS)
  | 0, _, _, _ => none
  | n + 1, σ, x2, x3 => Md_end_b4 F (Md_end_4 F n) σ x2 x3
def Md_end (F : Nat) (σ : zS) (x1 : Int32) : Option (Int32 × zS) :=
  Md_end_4 F F σ (1 : Int32) x1
def Md_synonym_55 (F : Nat) (σ : zS) (s0 : Int32) : Option (Int32 × zS) :=
  some (s0, σ)
def Md_synonym_54 (F : Nat) (σ : zS) : Option (Int32 × zS) :=
  Md_synonym_55 F σ (-1 : Int32)
def Md_synonym_35 (F : Nat) (σ : zS) (s0 : Int32) : Option (Int32 × zS) :=
  if s0 < 0 then (Md_synonym_54 F σ)
  else (gd (inb s0 17) (if (ga σ 33 s0.toNatClampNeg) = (1 : Int32) then (Md_synonym_55 F σ s0)
  else (Md_synonym_54 F σ)))
def Md_synonym_34 (F : Nat) (σ : zS) : Option (Int32 × zS) :=
  Md_synonym_35 F σ (-1 : Int32)
def Md_synonym (F : Nat) (σ : zS) (x1 : Int32) : Option (Int32 × zS) :=
  if x1 < (10 : Int32) then (Md_synonym_34 F σ)
  else (gd (inb (x1 - (10 : Int32)) 1000) (if (ga σ 2 (x1 - (10 : Int32)).toNatClampNeg) = 0 then (bi (Md_typeOf F σ (gb σ 3 (x1 - (10 : Int32)).toNatClampNeg)) (fun r5 σ4 => Md_synonym_35 F σ4 r5))
  else (Md_synonym_34 F σ)))
def Md_add_38 (F : Nat) (σ : zS) : Option zS :=
  some (si σ 96 ((gi σ 96) + (1 : Int32)))
def Md_add_14 (F : Nat) (σ : zS) (x1 : Int32) (s1 : Int32) (s2 : Int32) : Option zS :=
  if (1100 : Int32) ≤ (gi σ 96) then (Md_add_38 F (si σ 97 (s1 + s2)))
  else (gd (inb (gi σ 96) 1200) (Md_add_38 F (sa (si σ 97 (s1 + s2)) 60 (gi σ 96).toNatClampNeg x1)))
def Md_add (F : Nat) (σ : zS) (x1 : Int32) : Option zS :=
  if x1 = 0 then (Md_add_14 F σ x1 (gi σ 97) (0 : Int32))
  else (Md_add_14 F σ x1 (gi σ 97) (1 : Int32))
def Md_addSpan_33 (F : Nat) (σ : zS) : Option zS :=
  some σ
def Md_addSpan_b2 (F : Nat) (rc2 : zS → Int32 → Int32 → Option zS) (σ : zS) (x2 : Int32) (x3 : Int32) : Option zS :=
  if x2 ≤ x3 then (Md_addSpan_33 F σ)
  else (if (200 : Int32) < (gi σ 97) then (Md_addSpan_33 F σ)
  else (gd (inb x3 1200) (bv (Md_add F σ (ga σ 59 x3.toNatClampNeg)) (fun σ4 => rc2 σ4 x2 (x3 + (1 : Int32))))))
def Md_addSpan_2 (F : Nat) : Nat → zS → Int32 → Int32 → Option zS
  | 0, _, _, _ => none
  | n + 1, σ, x2, x3 => Md_addSpan_b2 F (Md_addSpan_2 F n) σ x2 x3
def Md_addSpan (F : Nat) (σ : zS) (x1 : Int32) (x2 : Int32) : Option zS :=
  Md_addSpan_2 F F σ x2 x1
def Md_behind_b7 (F : Nat) (rc7 : zS → Int32 → Int32 → Int32 → Option (Int32 × zS)) (σ : zS) (x2 : Int32) (x3 : Int32) (x4 : Int32) : Option (Int32 × zS) :=
  if x2 ≤ x4 then (some (x3, σ))
  else (bi (Md_end F σ x3) (fun r3 σ2 => rc7 σ2 x2 r3 (x4 + (1 : Int32))))
def Md_behind_7 (F : Nat) : Nat → zS → Int32 → Int32 → Int32 → Option (Int32 × zS)
  | 0, _, _, _, _ => none
  | n + 1, σ, x2, x3, x4 => Md_behind_b7 F (Md_behind_7 F n) σ x2 x3 x4
def Md_behind (F : Nat) (σ : zS) (x1 : Int32) (x2 : Int32) : Option (Int32 × zS) :=
  Md_behind_7 F F σ x2 (x1 + (1 : Int32)) (0 : Int32)
def Md_replace_247 (F : Nat) (σ : zS) : Option zS :=
  some (si σ 95 (gi σ 96))
def Md_replace_b208 (F : Nat) (rc208 : zS → Int32 → Option zS) (σ : zS) (x4 : Int32) : Option zS :=
  if (gi σ 96) ≤ x4 then (Md_replace_247 F σ)
  else (if (200 : Int32) < (gi σ 97) then (Md_replace_247 F σ)
  else (gd (inb x4 1200) (rc208 (sa σ 59 x4.toNatClampNeg (ga σ 60 x4.toNatClampNeg)) (x4 + (1 : Int32)))))
def Md_replace_208 (F : Nat) : Nat → zS → Int32 → Option zS
  | 0, _, _ => none
  | n + 1, σ, x4 => Md_replace_b208 F (Md_replace_208 F n) σ x4
def Md_replace_186 (F : Nat) (σ : zS) (x1 : Int32) (x2 : Int32) : Option zS :=
  gd (inb x2 17) (bi (Md_behind F σ x1 (ga σ 36 x2.toNatClampNeg)) (fun r3 σ2 => bv (Md_addSpan F σ2 r3 (gi σ2 95)) (fun σ5 => Md_replace_208 F F σ5 (0 : Int32))))
def Md_replace_180 (F : Nat) (rc41 : zS → Int32 → Int32 → Int32 → Int32 → Option zS) (σ : zS) (x1 : Int32) (x2 : Int32) (x3 : Int32) (x4 : Int32) : Option zS :=
  rc41 σ x1 x2 x3 (x4 + (1 : Int32))
def Md_replace_144 (F : Nat) (rc41 : zS → Int32 → Int32 → Int32 → Int32 → Option zS) (σ : zS) (x1 : Int32) (x2 : Int32) (x3 : Int32) (x4 : Int32) (x5 : Int32) (x6 : Int32) : Option zS :=
  if 0 ≤ x6 then (bi (Md_behind F σ x1 x6) (fun r3 σ2 => bi (Md_behind F σ2 x1 x6) (fun r6 σ5 => bi (Md_end F σ5 r6) (fun r9 σ8 => bv (Md_addSpan F σ8 r3 r9) (fun σ11 => Md_replace_180 F rc41 σ11 x1 x2 x3 x4)))))
  else (bv (Md_add F σ x5) (fun σ13 => Md_replace_180 F rc41 σ13 x1 x2 x3 x4))
def Md_replace_136 (F : Nat) (rc41 : zS → Int32 → Int32 → Int32 → Int32 → Option zS) (rc72 : zS → Int32 → Int32 → Int32 → Int32 → Int32 → Int32 → Int32 → Option zS) (σ : zS) (x1 : Int32) (x2 : Int32) (x3 : Int32) (x4 : Int32) (x5 : Int32) (x7 : Int32) (s0 : Int32) : Option zS :=
  rc72 σ x1 x2 x3 x4 x5 s0 (x7 + (1 : Int32))
def Md_replace_b72 (F : Nat) (rc41 : zS → Int32 → Int32 → Int32 → Int32 → Option zS) (rc72 : zS → Int32 → Int32 → Int32 → Int32 → Int32 → Int32 → Int32 → Option zS) (σ : zS) (x1 : Int32) (x2 : Int32) (x3 : Int32) (x4 : Int32) (x5 : Int32) (x6 : Int32) (x7 : Int32) : Option zS :=
  gd (inb x2 17) (if (ga σ 36 x2.toNatClampNeg) ≤ x7 then (Md_replace_144 F rc41 σ x1 x2 x3 x4 x5 x6)
  else (if x5 < (10 : Int32) then (Md_replace_144 F rc41 σ x1 x2 x3 x4 x5 x6)
  else (gd (inb (x5 - (10 : Int32)) 1000) (if (ga σ 2 (x5 - (10 : Int32)).toNatClampNeg) = (1 : Int32) then (gd (inb (((3 : Int32) * x2) + x7) 51) (if (lg_cmp (gb σ 37 (((3 : Int32) * x2) + x7).toNatClampNeg) (gb σ 3 (x5 - (10 : Int32)).toNatClampNeg)) = 0 then (Md_replace_136 F rc41 rc72 σ x1 x2 x3 x4 x5 x7 x7)
  else (Md_replace_136 F rc41 rc72 σ x1 x2 x3 x4 x5 x7 x6)))
  else (Md_replace_144 F rc41 σ x1 x2 x3 x4 x5 x6)))))
def Md_replace_72 (F : Nat) (rc41 : zS → Int32 → Int32 → Int32 → Int32 → Option zS) : Nat → zS → Int32 → Int32 → Int32 → Int32 → Int32 → Int32 → Int32 → Option zS
  | 0, _, _, _, _, _, _, _, _ => none
  | n + 1, σ, x1, x2, x3, x4, x5, x6, x7 => Md_replace_b72 F rc41 (Md_replace_72 F rc41 n) σ x1 x2 x3 x4 x5 x6 x7
def Md_replace_b41 (F : Nat) (rc41 : zS → Int32 → Int32 → Int32 → Int32 → Option zS) (σ : zS) (x1 : Int32) (x2 : Int32) (x3 : Int32) (x4 : Int32) : Option zS :=
  if x3 ≤ x4 then (Md_replace_186 F σ x1 x2)
  else (if (200 : Int32) < (gi σ 97) then (Md_replace_186 F σ x1 x2)
  else (gd (inb x4 1200) (Md_replace_72 F rc41 F σ x1 x2 x3 x4 (ga σ 61 x4.toNatClampNeg) (-1 : Int32) (0 : Int32))))
def Md_replace_41 (F : Nat) : Nat → zS → Int32 → Int32 → Int32 → Int32 → Option zS
  | 0, _, _, _, _, _ => none
  | n + 1, σ, x1, x2, x3, x4 => Md_replace_b41 F (Md_replace_41 F n) σ x1 x2 x3 x4
def Md_replace (F : Nat) (σ : zS) (x1 : Int32) (x2 : Int32) : Option zS :=
  gd (inb x2 17) (bv (Md_addSpan F (si (si σ 96 (0 : Int32)) 97 (0 : Int32)) (0 : Int32) (x1 - (ga σ 36 x2.toNatClampNeg))) (fun σ2 => bi (Md_lay F σ2 (ga σ2 41 x2.toNatClampNeg) 61) (fun r5 σ4 => Md_replace_41 F F σ4 x1 x2 r5 (0 : Int32))))
def Md_isPlain_b17 (F : Nat) (rc17 : zS → Int32 → Int32 → Option (Int32 × zS)) (σ : zS) (x2 : Int32) (x3 : Int32) : Option (Int32 × zS) :=
  if (gi σ 95) ≤ x3 then (some ((1 : Int32), σ))
  else (gd (inb x3 1200) (bi (Md_synonym F σ (ga σ 59 x3.toNatClampNeg)) (fun r4 σ3 => if 0 ≤ r4 then (if (x2 + (1 : Int32)) ≤ (300 : Int32) then (bv (Md_replace F σ3 x3 r4) (fun σ8 => if (gi σ8 97) ≤ (200 : Int32) then (rc17 σ8 (x2 + (1 : Int32)) (0 : Int32))
  else (some ((0 : Int32), σ8))))
  else (some ((0 : Int32), σ3)))
  else (rc17 σ3 x2 (x3 + (1 : Int32))))))
def Md_isPlain_17 (F : Nat) : Nat → zS → Int32 → Int32 → Option (Int32 × zS)
  | 0, _, _, _ => none
  | n + 1, σ, x2, x3 => Md_isPlain_b17 F (Md_isPlain_17 F n) σ x2 x3
def Md_isPlain (F : Nat) (σ : zS) (x1 : Int32) : Option (Int32 × zS) :=
  bi (Md_lay F σ x1 59) (fun r2 σ1 => Md_isPlain_17 F F (si σ1 95 r2) (0 : Int32) (0 : Int32))
def Md_putName_30 (F : Nat) (rc3 : zS → Int32 → Int32 → Option zS) (σ : zS) (x1 : Int32) (x2 : Int32) : Option zS :=
  rc3 σ x1 (x2 + (-8 : Int32))
def Md_putName_b3 (F : Nat) (rc3 : zS → Int32 → Int32 → Option zS) (σ : zS) (x1 : Int32) (x2 : Int32) : Option zS :=
  if x2 < 0 then (some σ)
  else (gd (inb x1 1000) (if (Int64.toInt32 (((gb σ 3 x1.toNatClampNeg).toUInt64 >>> ((Int32.toInt64 x2).toUInt64 &&& Int64.toUInt64 63)).toInt64 &&& (255 : Int64))) ≤ 0 then (Md_putName_30 F rc3 σ x1 x2)
  else (bv (Md_put F σ (Int64.toInt32 (((gb σ 3 x1.toNatClampNeg).toUInt64 >>> ((Int32.toInt64 x2).toUInt64 &&& Int64.toUInt64 63)).toInt64 &&& (255 : Int64)))) (fun σ4 => Md_putName_30 F rc3 σ4 x1 x2))))
def Md_putName_3 (F : Nat) : Nat → zS → Int32 → Int32 → Option zS
  | 0, _, _, _ => none
  | n + 1, σ, x1, x2 => Md_putName_b3 F (Md_putName_3 F n) σ x1 x2
def Md_putName (F : Nat) (σ : zS) (x1 : Int32) : Option zS :=
  Md_putName_3 F F σ x1 (56 : Int32)
def Md_layItem_235 (F : Nat) (σ : zS) (x4 : Int32) (s1 : Int32) (s2 : Int32) (s3 : Int32) : Option (Int32 × zS) :=
  gd (inb s1 16000) (some ((x4 + (3 : Int32)), (sa σ 53 s1.toNatClampNeg (s2 + s3))))
def Md_layItem_207 (F : Nat) (σ : zS) (x1 : Int32) (x4 : Int32) (s1 : Int32) (s2 : Int32) : Option (Int32 × zS) :=
  gd (inb s1 16000) (gd (inb x1 1200) (if (ga σ 59 x1.toNatClampNeg) = 0 then (Md_layItem_235 F (sa σ 53 s1.toNatClampNeg s2) x4 (x4 + (2 : Int32)) ((4 : Int32) * (x1 + (1 : Int32))) (3 : Int32))
  else (Md_layItem_235 F (sa σ 53 s1.toNatClampNeg s2) x4 (x4 + (2 : Int32)) ((4 : Int32) * (x1 + (1 : Int32))) (1 : Int32))))
def Md_layItem_181 (F : Nat) (σ : zS) (x1 : Int32) (x4 : Int32) (s1 : Int32) (s2 : Int32) (s3 : Int32) : Option (Int32 × zS) :=
  gd (inb s1 16000) (gd (inb x1 1200) (if (ga σ 59 x1.toNatClampNeg) = 0 then (Md_layItem_207 F (sa σ 53 s1.toNatClampNeg (s2 + s3)) x1 x4 (x4 + (1 : Int32)) (-32 : Int32))
  else (Md_layItem_207 F (sa σ 53 s1.toNatClampNeg (s2 + s3)) x1 x4 (x4 + (1 : Int32)) (-45 : Int32))))
def Md_layItem_125 (F : Nat) (σ : zS) (x1 : Int32) (x4 : Int32) : Option (Int32 × zS) :=
  gd (inb x1 1200) (if (ga σ 59 x1.toNatClampNeg) = (1 : Int32) then (gd (inb x4 16000) (some ((x4 + (1 : Int32)), (sa σ 53 x4.toNatClampNeg ((4 : Int32) * (x1 + (1 : Int32)))))))
  else (bi (Md_end F σ (x1 + (1 : Int32))) (fun r4 σ3 => if (ga σ3 59 x1.toNatClampNeg) = 0 then (Md_layItem_181 F σ3 x1 x4 x4 ((4 : Int32) * r4) (2 : Int32))
  else (Md_layItem_181 F σ3 x1 x4 x4 ((4 : Int32) * r4) (0 : Int32)))))
def Md_layItem_121 (F : Nat) (σ : zS) (x1 : Int32) (x4 : Int32) (s1 : Int32) (s2 : Int32) : Option (Int32 × zS) :=
  gd (inb s1 16000) (Md_layItem_125 F (sa σ 53 s1.toNatClampNeg s2) x1 (x4 + (1 : Int32)))
def Md_layItem_100 (F : Nat) (σ : zS) (x1 : Int32) (x4 : Int32) (x5 : Int32) (s1 : Int32) : Option (Int32 × zS) :=
  bv (Md_put F σ s1) (fun σ1 => if x5 = 0 then (Md_layItem_121 F σ1 x1 x4 x4 (-93 : Int32))
  else (Md_layItem_121 F σ1 x1 x4 x4 (-41 : Int32)))
def Md_layItem_87 (F : Nat) (σ : zS) (x1 : Int32) (x4 : Int32) (x5 : Int32) : Option (Int32 × zS) :=
  if x5 = 0 then (Md_layItem_100 F σ x1 x4 x5 (91 : Int32))
  else (Md_layItem_100 F σ x1 x4 x5 (40 : Int32))
def Md_layItem_70 (F : Nat) (σ : zS) (x1 : Int32) (x4 : Int32) (s0 : Int32) : Option (Int32 × zS) :=
  if s0 = 0 then (gd (inb x1 1200) (if (ga σ 59 x1.toNatClampNeg) = (1 : Int32) then (Md_layItem_87 F σ x1 x4 s0)
  else (Md_layItem_125 F σ x1 x4)))
  else (Md_layItem_87 F σ x1 x4 s0)
def Md_layItem_69 (F : Nat) (σ : zS) (x1 : Int32) (x4 : Int32) : Option (Int32 × zS) :=
  Md_layItem_70 F σ x1 x4 (0 : Int32)
def Md_layItem (F : Nat) (σ : zS) (x1 : Int32) (x2 : Int32) (x3 : Int32) : Option (Int32 × zS) :=
  gd (inb x1 1200) (if (ga σ 59 x1.toNatClampNeg) < (10 : Int32) then (if (ga σ 59 x1.toNatClampNeg) = 0 then (if x2 = (2 : Int32) then (Md_layItem_70 F σ x1 x3 (1 : Int32))
  else (Md_layItem_70 F σ x1 x3 (0 : Int32)))
  else (if (ga σ 59 x1.toNatClampNeg) = (2 : Int32) then (if x2 ≤ 0 then (Md_layItem_69 F σ x1 x3)
  else (Md_layItem_70 F σ x1 x3 (1 : Int32)))
  else (Md_layItem_69 F σ x1 x3)))
  else (bv (Md_putName F σ ((ga σ 59 x1.toNatClampNeg) - (10 : Int32))) (fun σ7 => some (x3, σ7))))
def Md_layRowOut_65 (F : Nat) (rc14 : zS → Int32 → Option zS) (σ : zS) (x1 : Int32) : Option zS :=
  rc14 σ x1
def Md_layRowOut_b14 (F : Nat) (rc14 : zS → Int32 → Option zS) (σ : zS) (x1 : Int32) : Option zS :=
  if x1 ≤ 0 then (some σ)
  else (gd (inb (x1 + (-1 : Int32)) 16000) (if 0 ≤ (ga σ 53 (x1 + (-1 : Int32)).toNatClampNeg) then (bi (Md_layItem F σ ((ga σ 53 (x1 + (-1 : Int32)).toNatClampNeg) / (4 : Int32)) ((ga σ 53 (x1 + (-1 : Int32)).toNatClampNeg) - (ga σ 53 (x1 + (-1 : Int32)).toNatClampNeg) / (4 : Int32) * (4 : Int32)) (x1 + (-1 : Int32))) (fun r5 σ4 => Md_layRowOut_65 F rc14 σ4 r5))
  else (bv (Md_put F σ (-(ga σ 53 (x1 + (-1 : Int32)).toNatClampNeg))) (fun σ7 => if (ga σ 53 (x1 + (-1 : Int32)).toNatClampNeg) = (-45 : Int32) then (bv (Md_put F σ7 (62 : Int32)) (fun σ10 => Md_layRowOut_65 F rc14 σ10 (x1 + (-1 : Int32))))
  else (Md_layRowOut_65 F rc14 σ7 (x1 + (-1 : Int32)))))))
def Md_layRowOut_14 (F : Nat) : Nat → zS → Int32 → Option zS
  | 0, _, _ => none
  | n + 1, σ, x1 => Md_layRowOut_b14 F (Md_layRowOut_14 F n) σ x1
def Md_layRowOut (F : Nat) (σ : zS) : Option zS :=
  gd (inb (0 : Int32) 16000) (Md_layRowOut_14 F F (sa (si σ 82 (0 : Int32)) 53 (0 : Int32).toNatClampNeg (0 : Int32)) (1 : Int32))
def Md_plain (F : Nat) (σ : zS) : Option (Int32 × zS) :=
  bi (Md_readAsked F (si σ 0 (0 : Int32)) (0 : Int32)) (fun r2 σ1 => if (gi σ1 8) ≤ 0 then (bi (Md_isPlain F σ1 r2) (fun r6 σ5 => if r6 = 0 then (some ((-4 : Int32), σ5))
  else (bv (Md_layRowOut F σ5) (fun σ9 => bi (Md_commit F σ9) (fun r12 σ11 => some (r12, σ11))))))
  else (some (((-10 : Int32) - (gi σ1 8)), σ1)))
def Md_same_154 (F : Nat) (σ : zS) (s0 : Int32) : Option (Int32 × zS) :=
  some (s0, σ)
def Md_same_145 (F : Nat) (σ : zS) (x3 : Int32) : Option (Int32 × zS) :=
  if x3 = 0 then (Md_same_154 F σ (0 : Int32))
  else (Md_same_154 F σ (1 : Int32))
def Md_same_138 (F : Nat) (rc106 : zS → Int32 → Int32 → Int32 → Option (Int32 × zS)) (σ : zS) (x2 : Int32) (x4 : Int32) (s0 : Int32) : Option (Int32 × zS) :=
  rc106 σ x2 s0 (x4 + (1 : Int32))
def Md_same_b106 (F : Nat) (rc106 : zS → Int32 → Int32 → Int32 → Option (Int32 × zS)) (σ : zS) (x2 : Int32) (x3 : Int32) (x4 : Int32) : Option (Int32 × zS) :=
  if x2 ≤ x4 then (Md_same_145 F σ x3)
  else (if x3 = 0 then (Md_same_145 F σ x3)
  else (gd (inb x4 6000) (if (ga σ 62 x4.toNatClampNeg) = (ga σ 55 x4.toNatClampNeg) then (Md_same_138 F rc106 σ x2 x4 (1 : Int32))
  else (Md_same_138 F rc106 σ x2 x4 (0 : Int32)))))
def Md_same_106 (F : Nat) : Nat → zS → Int32 → Int32 → Int32 → Option (Int32 × zS)
  | 0, _, _, _, _ => none
  | n + 1, σ, x2, x3, x4 => Md_same_b106 F (Md_same_106 F n) σ x2 x3 x4
def Md_same_102 (F : Nat) (σ : zS) (x2 : Int32) (s0 : Int32) : Option (Int32 × zS) :=
  Md_same_106 F F σ x2 s0 (0 : Int32)
def Md_same_b48 (F : Nat) (rc48 : zS → Int32 → Int32 → Option (Int32 × zS)) (σ : zS) (x2 : Int32) (x3 : Int32) : Option (Int32 × zS) :=
  if x2 ≤ x3 then (bi (Md_isPlain F σ (gi σ 91)) (fun r3 σ2 => if r3 = 0 then (some ((-4 : Int32), σ2))
  else (bv (Md_layRowOut F σ2) (fun σ6 => if x2 = (gi σ6 82) then (Md_same_102 F σ6 x2 (1 : Int32))
  else (Md_same_102 F σ6 x2 (0 : Int32))))))
  else (gd (inb x3 6000) (rc48 (sa σ 62 x3.toNatClampNeg (ga σ 55 x3.toNatClampNeg)) x2 (x3 + (1 : Int32))))
def Md_same_48 (F : Nat) : Nat → zS → Int32 → Int32 → Option (Int32 × zS)
  | 0, _, _, _ => none
  | n + 1, σ, x2, x3 => Md_same_b48 F (Md_same_48 F n) σ x2 x3
def Md_same (F : Nat) (σ : zS) : Option (Int32 × zS) :=
  bi (Md_readAsked F (si σ 0 (0 : Int32)) (1 : Int32)) (fun r2 σ1 => if (gi σ1 8) ≤ 0 then (bi (Md_isPlain F σ1 r2) (fun r6 σ5 => if r6 = 0 then (some ((-4 : Int32), σ5))
  else (bv (Md_layRowOut F σ5) (fun σ9 => Md_same_48 F F σ9 (gi σ9 82) (0 : Int32)))))
  else (some (((-10 : Int32) - (gi σ1 8)), σ1)))
