/-! Mirrors of String.indexOf. Written by program (wip/gen). -/
def St_coder_14 (F : Nat) (σ : zS) (s0 : Int32) : Option (Int32 × zS) :=
  gd (isB s0) (some (s0, σ))
def St_coder (F : Nat) (σ : zS) : Option (Int32 × zS) :=
  if (1 : Int32) = 0 then (St_coder_14 F σ (1 : Int32))
  else (St_coder_14 F σ (0 : Int32))
def St_length (F : Nat) (σ : zS) : Option (Int32 × zS) :=
  bi (St_coder F σ) (fun r2 σ1 => some (((11 : Int32) >>> (r2 &&& 31)), σ1))
def St_isLatin1_18 (F : Nat) (σ : zS) (s0 : Int32) : Option (Int32 × zS) :=
  gd (isB s0) (some (s0, σ))
def St_isLatin1_17 (F : Nat) (σ : zS) : Option (Int32 × zS) :=
  St_isLatin1_18 F σ (0 : Int32)
def St_isLatin1 (F : Nat) (σ : zS) : Option (Int32 × zS) :=
  if (1 : Int32) = 0 then (St_isLatin1_17 F σ)
  else (if (0 : Int32) = 0 then (St_isLatin1_18 F σ (1 : Int32))
  else (St_isLatin1_17 F σ))
def La_canEncode_16 (F : Nat) (σ : zS) (s0 : Int32) : Option (Int32 × zS) :=
  gd (isB s0) (some (s0, σ))
def La_canEncode_15 (F : Nat) (σ : zS) : Option (Int32 × zS) :=
  La_canEncode_16 F σ (0 : Int32)
def La_canEncode (F : Nat) (σ : zS) (x0 : Int32) : Option (Int32 × zS) :=
  if x0 < 0 then (La_canEncode_15 F σ)
  else (if (255 : Int32) < x0 then (La_canEncode_15 F σ)
  else (La_canEncode_16 F σ (1 : Int32)))
def La_indexOfChar_b7 (F : Nat) (rc7 : zS → Int32 → Int32 → Int32 → Option (Int32 × zS)) (σ : zS) (x3 : Int32) (x4 : Int32) (x5 : Int32) : Option (Int32 × zS) :=
  if x3 ≤ x5 then (some ((-1 : Int32), σ))
  else (gd (inb x5 11) (if (sgB.getD x5.toNatClampNeg 0) = x4 then (some (x5, σ))
  else (rc7 σ x3 x4 (x5 + (1 : Int32)))))
def La_indexOfChar_7 (F : Nat) : Nat → zS → Int32 → Int32 → Int32 → Option (Int32 × zS)
  | 0, _, _, _, _ => none
  | n + 1, σ, x3, x4, x5 => La_indexOfChar_b7 F (La_indexOfChar_7 F n) σ x3 x4 x5
def La_indexOfChar (F : Nat) (σ : zS) (x1 : Int32) (x2 : Int32) (x3 : Int32) : Option (Int32 × zS) :=
  La_indexOfChar_7 F F σ x3 (Int32.toInt8 x1).toInt32 x2
def La_indexOf (F : Nat) (σ : zS) (x1 : Int32) (x2 : Int32) (x3 : Int32) : Option (Int32 × zS) :=
  bi (La_canEncode F σ x1) (fun r2 σ1 => if r2 = 0 then (some ((-1 : Int32), σ1))
  else (if (if x2 < (0 : Int32) then (0 : Int32) else x2) < (if (11 : Int32) < x3 then (11 : Int32) else x3) then (bi (La_indexOfChar F σ1 x1 (if x2 < (0 : Int32) then (0 : Int32) else x2) (if (11 : Int32) < x3 then (11 : Int32) else x3)) (fun r7 σ6 => some (r7, σ6)))
  else (some ((-1 : Int32), σ1))))
def St_indexOf2_36 (F : Nat) (σ : zS) (s0 : Int32) : Option (Int32 × zS) :=
  some (s0, σ)
def St_indexOf2 (F : Nat) (σ : zS) (x1 : Int32) (x2 : Int32) : Option (Int32 × zS) :=
  bi (St_isLatin1 F σ) (fun r2 σ1 => if r2 = 0 then (bi (St_length F σ1) (fun r6 σ5 => none))
  else (bi (St_length F σ1) (fun r9 σ8 => bi (La_indexOf F σ8 x1 x2 r9) (fun r12 σ11 => St_indexOf2_36 F σ11 r12))))
def St_indexOf (F : Nat) (σ : zS) (x1 : Int32) : Option (Int32 × zS) :=
  bi (St_indexOf2 F σ x1 (0 : Int32)) (fun r2 σ1 => some (r2, σ1))
