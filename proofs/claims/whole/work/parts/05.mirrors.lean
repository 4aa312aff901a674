/-! the methods as functions: none where a bound fails, a divisor is 0, or the fuel ends -/
def c_reasonOf (F : Nat) (a0 : Int32) (s0 : St) : Option (Int32 × St) :=
  if a0 < (-4 : Int32) then
    if (-20 : Int32) < a0 then
      some (((-11 : Int32) - a0) + (4 : Int32), s0)
    else
      some ((8 : Int32), s0)
  else
    some ((-1 : Int32) - a0, s0)
def c_isIn_J14 (F : Nat)   (s0 : St) : Option (Int32 × St) :=
    some ((0 : Int32), s0)
def c_isIn (F : Nat) (a0 : Int32) (a1 : Int32) (a2 : Int32) (s0 : St) : Option (Int32 × St) :=
  if a0 < a1 then
    c_isIn_J14 F s0
  else
    if a2 < a0 then
      c_isIn_J14 F s0
    else
      some ((1 : Int32), s0)
def c_refuse (F : Nat) (a1 : Int32) (s0 : St) : Option (Int32 × St) :=
  gB2 (c_reasonOf F a1 s0) fun r1 s1 =>
  gB2 (c_isIn F r1 (0 : Int32) (8 : Int32) s1) fun r2 s2 =>
  if r2 = 0 then
    some (a1, s2)
  else
    if inb r1 9 = true then
    if (1000000 : Int32) ≤ (s2.1 80 (r1).toNatClampNeg) then
      some (a1, s2)
    else
      if inb r1 9 = true then
      if inb r1 9 = true then
      some (a1, (sI s2 80 (r1).toNatClampNeg ((s2.1 80 (r1).toNatClampNeg) + (1 : Int32))))
      else none
      else none
    else none
def c_isCell (F : Nat) (a0 : Int32) (s0 : St) : Option (Int32 × St) :=
  gB2 (c_isIn F a0 (0 : Int32) (143 : Int32) s0) fun r1 s1 =>
  if r1 = 0 ∨ r1 = 1 then some (r1, s1) else none
def c_isKind (F : Nat) (a0 : Int32) (s0 : St) : Option (Int32 × St) :=
  gB2 (c_isIn F a0 (0 : Int32) (7 : Int32) s0) fun r1 s1 =>
  if r1 = 0 ∨ r1 = 1 then some (r1, s1) else none
def c_kind_J14 (F : Nat)   (s0 : St) : Option (Int32 × St) :=
    gB2 (c_refuse F (-1 : Int32) s0) fun r1 s1 =>
    some (r1, s1)
def c_kind (F : Nat) (a1 : Int32) (a2 : Int32) (s0 : St) : Option (Int32 × St) :=
  gB2 (c_isCell F a1 s0) fun r2 s2 =>
  if r2 = 0 then
    c_kind_J14 F s2
  else
    gB2 (c_isKind F a2 s2) fun r3 s3 =>
    if r3 = 0 then
      c_kind_J14 F s3
    else
      if inb a1 144 = true then
      if inb a1 144 = true then
      some (s3.1 3 (a1).toNatClampNeg, (sI s3 3 (a1).toNatClampNeg a2))
      else none
      else none
def c_draw_J17 (F : Nat)   (s0 : St) : Option (Int32 × St) :=
    gB2 (c_refuse F (-1 : Int32) s0) fun r1 s1 =>
    some (r1, s1)
def c_draw (F : Nat) (a1 : Int32) (a2 : Int32) (s0 : St) : Option (Int32 × St) :=
  gB2 (c_isCell F a1 s0) fun r2 s2 =>
  if r2 = 0 then
    c_draw_J17 F s2
  else
    gB2 (c_isIn F a2 (0 : Int32) (9 : Int32) s2) fun r3 s3 =>
    if r3 = 0 then
      c_draw_J17 F s3
    else
      if inb a1 144 = true then
      if inb a1 144 = true then
      some (s3.1 4 (a1).toNatClampNeg, (sI s3 4 (a1).toNatClampNeg a2))
      else none
      else none
def c_told (F : Nat) (a1 : Int32) (a2 : Int32) (s0 : St) : Option (Int32 × St) :=
  gB2 (c_isCell F a1 s0) fun r1 s1 =>
  if r1 = 0 then
    gB2 (c_refuse F (-1 : Int32) s1) fun r3 s3 =>
    some (r3, s3)
  else
    if a2 = (0 : Int32) then
      if inb a1 144 = true then
      some (s1.1 3 (a1).toNatClampNeg, s1)
      else none
    else
    if a2 = (1 : Int32) then
      if inb a1 144 = true then
      some (s1.1 4 (a1).toNatClampNeg, s1)
      else none
    else
    if a2 = (2 : Int32) then
      if inb a1 144 = true then
      some (s1.1 5 (a1).toNatClampNeg, s1)
      else none
    else
    gB2 (c_refuse F (-1 : Int32) s1) fun r2 s2 =>
    some (r2, s2)
def c_Law_highest_J20 (F : Nat)   (s0 : St) : Option (Int32 × St) :=
    some ((999 : Int32), s0)
def c_Law_highest (F : Nat) (a0 : Int32) (s0 : St) : Option (Int32 × St) :=
  if a0 = (6 : Int32) then
    some ((3 : Int32), s0)
  else
    if a0 = (8 : Int32) then
      c_Law_highest_J20 F s0
    else
      if a0 = (9 : Int32) then
        c_Law_highest_J20 F s0
      else
        some ((9 : Int32), s0)
def c_set_J22 (F : Nat)   (s0 : St) : Option (Int32 × St) :=
    gB2 (c_refuse F (-1 : Int32) s0) fun r1 s1 =>
    some (r1, s1)
def c_set (F : Nat) (a1 : Int32) (a2 : Int32) (s0 : St) : Option (Int32 × St) :=
  gB2 (c_isIn F a1 (0 : Int32) (9 : Int32) s0) fun r2 s2 =>
  if r2 = 0 then
    c_set_J22 F s2
  else
    gB2 (c_Law_highest F a1 s2) fun r3 s3 =>
    gB2 (c_isIn F a2 (0 : Int32) r3 s3) fun r4 s4 =>
    if r4 = 0 then
      c_set_J22 F s4
    else
      if inb a1 10 = true then
      if inb a1 10 = true then
      some (s4.1 7 (a1).toNatClampNeg, (sI s4 7 (a1).toNatClampNeg a2))
      else none
      else none
def c_sits_J17 (F : Nat)   (s0 : St) : Option (Int32 × St) :=
    gB2 (c_refuse F (-1 : Int32) s0) fun r1 s1 =>
    some (r1, s1)
def c_sits (F : Nat) (a1 : Int32) (a2 : Int32) (s0 : St) : Option (Int32 × St) :=
  gB2 (c_isKind F a1 s0) fun r2 s2 =>
  if r2 = 0 then
    c_sits_J17 F s2
  else
    gB2 (c_isIn F a2 (0 : Int32) (9 : Int32) s2) fun r3 s3 =>
    if r3 = 0 then
      c_sits_J17 F s3
    else
      if inb a1 8 = true then
      if inb a1 8 = true then
      some (s3.1 8 (a1).toNatClampNeg, (sI s3 8 (a1).toNatClampNeg a2))
      else none
      else none
def c_Tape_byteOf (F : Nat) (a0 : Int64) (a2 : Int32) (s0 : St) : Option (Int32 × St) :=
  some (((((a0).toUInt64 >>> (((8 : Int32) * a2).toInt64.toUInt64 &&& Int64.toUInt64 63)).toInt64).toInt32) &&& (255 : Int32), s0)
def c_Tape_canHold_L2b (F : Nat)  (k2 : Int64 → Int32 → Int32 → St → Option (Int32 × St)) (x0 : Int64) (x2 : Int32) (x3 : Int32) (s0 : St) : Option (Int32 × St) :=
    if x2 ≤ x3 then
      some ((1 : Int32), s0)
    else
      gB2 (c_Tape_byteOf F x0 x3 s0) fun r1 s1 =>
      gB2 (c_isIn F r1 (32 : Int32) (126 : Int32) s1) fun r2 s2 =>
      if r2 = 0 then
        some ((0 : Int32), s2)
      else
        k2 x0 x2 (x3 + (1 : Int32)) s2
def c_Tape_canHold_L2 (F : Nat)  : Nat → Int64 → Int32 → Int32 → St → Option (Int32 × St) := lp (fun _ _ _ _ => none) (c_Tape_canHold_L2b F )
def c_Tape_canHold (F : Nat) (a0 : Int64) (a2 : Int32) (s0 : St) : Option (Int32 × St) :=
  c_Tape_canHold_L2 F F a0 a2 (0 : Int32) s0
def c_Tape_room (F : Nat)  (s0 : St) : Option (Int32 × St) :=
  some ((160 : Int32) - (s0.1 74 1), s0)
def c_Tape_append_J49 (F : Nat)   (s0 : St) : Option (Int32 × St) :=
    some (s0.1 74 1, s0)
def c_Tape_append_L5b (F : Nat)  (k5 : Int64 → Int32 → St → Option (Int32 × St)) (x1 : Int64) (x4 : Int32) (s0 : St) : Option (Int32 × St) :=
    if x4 < 0 then
      c_Tape_append_J49 F s0
    else
      if (160 : Int32) ≤ (s0.1 74 1) then
        c_Tape_append_J49 F s0
      else
        gB2 (c_Tape_byteOf F x1 x4 (sI s0 74 1 ((s0.1 74 1) + (1 : Int32)))) fun r1 s1 =>
        if inb (s0.1 74 1) 160 = true then
        k5 x1 (x4 + (-1 : Int32)) (sI s1 75 (s0.1 74 1).toNatClampNeg (vp_nar .char (((r1).toUInt32 % 65536).toInt32)))
        else none
def c_Tape_append_L5 (F : Nat)  : Nat → Int64 → Int32 → St → Option (Int32 × St) := lp (fun _ _ _ => none) (c_Tape_append_L5b F )
def c_Tape_append (F : Nat) (a1 : Int64) (a3 : Int32) (s0 : St) : Option (Int32 × St) :=
  c_Tape_append_L5 F F a1 (a3 - (1 : Int32)) s0
def c_type_J18 (F : Nat)   (s0 : St) : Option (Int32 × St) :=
    gB2 (c_refuse F (-1 : Int32) s0) fun r1 s1 =>
    some (r1, s1)
def c_type (F : Nat) (a1 : Int64) (a3 : Int32) (s0 : St) : Option (Int32 × St) :=
  gB2 (c_isIn F a3 (1 : Int32) (8 : Int32) s0) fun r2 s2 =>
  if r2 = 0 then
    c_type_J18 F s2
  else
    gB2 (c_Tape_canHold F a1 a3 s2) fun r3 s3 =>
    if r3 = 0 then
      c_type_J18 F s3
    else
      gB2 (c_Tape_room F s3) fun r4 s4 =>
      if a3 ≤ r4 then
        gB2 (c_Tape_append F a1 a3 s4) fun r5 s5 =>
        some (r5, s5)
      else
        gB2 (c_refuse F (-3 : Int32) s4) fun r6 s6 =>
        some (r6, s6)
def c_Tape_digitAt_J34 (F : Nat)   (s0 : St) : Option (Int32 × St) :=
    some ((-1 : Int32), s0)
def c_Tape_digitAt (F : Nat) (a1 : Int32) (s0 : St) : Option (Int32 × St) :=
  if inb a1 160 = true then
  if (s0.1 75 (a1).toNatClampNeg) < (48 : Int32) then
    c_Tape_digitAt_J34 F s0
  else
    if inb a1 160 = true then
    if (57 : Int32) < (s0.1 75 (a1).toNatClampNeg) then
      c_Tape_digitAt_J34 F s0
    else
      if inb a1 160 = true then
      some ((s0.1 75 (a1).toNatClampNeg) - (48 : Int32), s0)
      else none
    else none
  else none
def c_String_isLatin1_J17 (F : Nat)   (s0 : St) : Option (Int32 × St) :=
    some ((0 : Int32), s0)
def c_String_isLatin1 (F : Nat)  (s0 : St) : Option (Int32 × St) :=
  if (1 : Int32) = 0 then
    c_String_isLatin1_J17 F s0
  else
    if (0 : Int32) = 0 then
      some ((1 : Int32), s0)
    else
      c_String_isLatin1_J17 F s0
def c_String_coder (F : Nat)  (s0 : St) : Option (Int32 × St) :=
  if (1 : Int32) = 0 then
    none
  else
    some ((0 : Int32), s0)
def c_String_length (F : Nat)  (s0 : St) : Option (Int32 × St) :=
  gB2 (c_String_coder F s0) fun r1 s1 =>
  some ((8 : Int32) >>> (r1 &&& 31), s1)
def c_StringUTF16_getChar (F : Nat) (a1 : Int32) (s0 : St) : Option (Int32 × St) :=
  none
def c_Character_isValidCodePoint (F : Nat) (a0 : Int32) (s0 : St) : Option (Int32 × St) :=
  if (17 : Int32) ≤ (((a0).toUInt32 >>> (((16 : Int32)).toUInt32 &&& Int32.toUInt32 31)).toInt32) then
    some ((0 : Int32), s0)
  else
    some ((1 : Int32), s0)
def c_Character_highSurrogate (F : Nat) (a0 : Int32) (s0 : St) : Option (Int32 × St) :=
  none
def c_Character_lowSurrogate (F : Nat) (a0 : Int32) (s0 : St) : Option (Int32 × St) :=
  none
def c_StringUTF16_length (F : Nat)  (s0 : St) : Option (Int32 × St) :=
  some ((8 : Int32) >>> ((1 : Int32) &&& 31), s0)
def c_String_checkBoundsBeginEnd (F : Nat) (a0 : Int32) (a1 : Int32) (a2 : Int32) (s0 : St) : Option St :=
  none
def c_StringUTF16_checkBoundsBeginEnd (F : Nat) (a0 : Int32) (a1 : Int32) (s0 : St) : Option St :=
  gB2 (c_StringUTF16_length F s0) fun r1 s1 =>
  gB (c_String_checkBoundsBeginEnd F a0 a1 r1 s1) fun s2 =>
  some s2
def c_StringUTF16_indexOfSupplementary_J63 (F : Nat) (k28 : Int32 → Int32 → Int32 → Int32 → St → Option (Int32 × St)) (x3 : Int32) (x4 : Int32) (x5 : Int32) (x6 : Int32) (s0 : St) : Option (Int32 × St) :=
    k28 x3 x4 x5 (x6 + (1 : Int32)) s0
def c_StringUTF16_indexOfSupplementary_L28b (F : Nat)  (k28 : Int32 → Int32 → Int32 → Int32 → St → Option (Int32 × St)) (x3 : Int32) (x4 : Int32) (x5 : Int32) (x6 : Int32) (s0 : St) : Option (Int32 × St) :=
    if (x3 - (1 : Int32)) ≤ x6 then
      some ((-1 : Int32), s0)
    else
      gB2 (c_StringUTF16_getChar F x6 s0) fun r1 s1 =>
      if r1 = x4 then
        gB2 (c_StringUTF16_getChar F (x6 + (1 : Int32)) s1) fun r2 s2 =>
        if r2 = x5 then
          some (x6, s2)
        else
          c_StringUTF16_indexOfSupplementary_J63 F k28 x3 x4 x5 x6 s2
      else
        c_StringUTF16_indexOfSupplementary_J63 F k28 x3 x4 x5 x6 s1
def c_StringUTF16_indexOfSupplementary_L28 (F : Nat)  : Nat → Int32 → Int32 → Int32 → Int32 → St → Option (Int32 × St) := lp (fun _ _ _ _ _ => none) (c_StringUTF16_indexOfSupplementary_L28b F )
def c_StringUTF16_indexOfSupplementary (F : Nat) (a1 : Int32) (a2 : Int32) (a3 : Int32) (s0 : St) : Option (Int32 × St) :=
  gB2 (c_Character_isValidCodePoint F a1 s0) fun r3 s3 =>
  if r3 = 0 then
    some ((-1 : Int32), s3)
  else
    gB2 (c_Character_highSurrogate F a1 s3) fun r4 s4 =>
    gB2 (c_Character_lowSurrogate F a1 s4) fun r5 s5 =>
    gB (c_StringUTF16_checkBoundsBeginEnd F a2 a3 s5) fun s6 =>
    c_StringUTF16_indexOfSupplementary_L28 F F a3 r4 r5 a2 s6
def c_StringUTF16_indexOfCharUnsafe_L3b (F : Nat)  (k3 : Int32 → Int32 → Int32 → St → Option (Int32 × St)) (x1 : Int32) (x3 : Int32) (x4 : Int32) (s0 : St) : Option (Int32 × St) :=
    if x3 ≤ x4 then
      some ((-1 : Int32), s0)
    else
      gB2 (c_StringUTF16_getChar F x4 s0) fun r1 s1 =>
      if r1 = x1 then
        some (x4, s1)
      else
        k3 x1 x3 (x4 + (1 : Int32)) s1
def c_StringUTF16_indexOfCharUnsafe_L3 (F : Nat)  : Nat → Int32 → Int32 → Int32 → St → Option (Int32 × St) := lp (fun _ _ _ _ => none) (c_StringUTF16_indexOfCharUnsafe_L3b F )
def c_StringUTF16_indexOfCharUnsafe (F : Nat) (a1 : Int32) (a2 : Int32) (a3 : Int32) (s0 : St) : Option (Int32 × St) :=
  c_StringUTF16_indexOfCharUnsafe_L3 F F a1 a3 a2 s0
def c_StringUTF16_indexOfChar (F : Nat) (a1 : Int32) (a2 : Int32) (a3 : Int32) (s0 : St) : Option (Int32 × St) :=
  gB (c_StringUTF16_checkBoundsBeginEnd F a2 a3 s0) fun s1 =>
  gB2 (c_StringUTF16_indexOfCharUnsafe F a1 a2 a3 s1) fun r2 s2 =>
  some (r2, s2)
def c_StringUTF16_indexOf (F : Nat) (a1 : Int32) (a2 : Int32) (a3 : Int32) (s0 : St) : Option (Int32 × St) :=
  if (gMmax a2 (0 : Int32)) < (gMmin a3 ((8 : Int32) >>> ((1 : Int32) &&& 31))) then
    if (65536 : Int32) ≤ a1 then
      gB2 (c_StringUTF16_indexOfSupplementary F a1 (gMmax a2 (0 : Int32)) (gMmin a3 ((8 : Int32) >>> ((1 : Int32) &&& 31))) s0) fun r1 s1 =>
      some (r1, s1)
    else
      gB2 (c_StringUTF16_indexOfChar F a1 (gMmax a2 (0 : Int32)) (gMmin a3 ((8 : Int32) >>> ((1 : Int32) &&& 31))) s0) fun r2 s2 =>
      some (r2, s2)
  else
    some ((-1 : Int32), s0)
def c_StringLatin1_canEncode_J15 (F : Nat)   (s0 : St) : Option (Int32 × St) :=
    some ((0 : Int32), s0)
def c_StringLatin1_canEncode (F : Nat) (a0 : Int32) (s0 : St) : Option (Int32 × St) :=
  if a0 < 0 then
    c_StringLatin1_canEncode_J15 F s0
  else
    if (255 : Int32) < a0 then
      c_StringLatin1_canEncode_J15 F s0
    else
      some ((1 : Int32), s0)
def c_StringLatin1_indexOfChar_L7b (F : Nat)  (k7 : Int32 → Int32 → Int32 → St → Option (Int32 × St)) (x3 : Int32) (x4 : Int32) (x5 : Int32) (s0 : St) : Option (Int32 × St) :=
    if x3 ≤ x5 then
      some ((-1 : Int32), s0)
    else
      if inb x5 8 = true then
      if (gKL (x5).toNatClampNeg) = x4 then
        some (x5, s0)
      else
        k7 x3 x4 (x5 + (1 : Int32)) s0
      else none
def c_StringLatin1_indexOfChar_L7 (F : Nat)  : Nat → Int32 → Int32 → Int32 → St → Option (Int32 × St) := lp (fun _ _ _ _ => none) (c_StringLatin1_indexOfChar_L7b F )
def c_StringLatin1_indexOfChar (F : Nat) (a1 : Int32) (a2 : Int32) (a3 : Int32) (s0 : St) : Option (Int32 × St) :=
  c_StringLatin1_indexOfChar_L7 F F a3 ((a1).toInt8.toInt32) a2 s0
def c_StringLatin1_indexOf (F : Nat) (a1 : Int32) (a2 : Int32) (a3 : Int32) (s0 : St) : Option (Int32 × St) :=
  gB2 (c_StringLatin1_canEncode F a1 s0) fun r1 s1 =>
  if r1 = 0 then
    some ((-1 : Int32), s1)
  else
    if (gMmax a2 (0 : Int32)) < (gMmin a3 (8 : Int32)) then
      gB2 (c_StringLatin1_indexOfChar F a1 (gMmax a2 (0 : Int32)) (gMmin a3 (8 : Int32)) s1) fun r2 s2 =>
      some (r2, s2)
    else
      some ((-1 : Int32), s1)
def c_String_indexOf_7cf53 (F : Nat) (a1 : Int32) (a2 : Int32) (s0 : St) : Option (Int32 × St) :=
  gB2 (c_String_isLatin1 F s0) fun r1 s1 =>
  if r1 = 0 then
    gB2 (c_String_length F s1) fun r2 s2 =>
    gB2 (c_StringUTF16_indexOf F a1 a2 r2 s2) fun r3 s3 =>
    some (r3, s3)
  else
    gB2 (c_String_length F s1) fun r4 s4 =>
    gB2 (c_StringLatin1_indexOf F a1 a2 r4 s4) fun r5 s5 =>
    some (r5, s5)
def c_String_indexOf_0f7a4 (F : Nat) (a1 : Int32) (s0 : St) : Option (Int32 × St) :=
  gB2 (c_String_indexOf_7cf53 F a1 (0 : Int32) s0) fun r1 s1 =>
  some (r1, s1)
def c_Tape_landFault_J138 (F : Nat) (k9 : Int32 → Int32 → Int32 → Int32 → St → Option (Int32 × St)) (x1 : Int32) (x2 : Int32) (x3 : Int32) (x4 : Int32) (s0 : St) : Option (Int32 × St) :=
    k9 x1 x2 x3 (x4 + (1 : Int32)) s0
def c_Tape_landFault_J103 (F : Nat) (k9 : Int32 → Int32 → Int32 → Int32 → St → Option (Int32 × St)) (x1 : Int32) (x2 : Int32) (x4 : Int32) (s0 : St) : Option (Int32 × St) :=
    if inb x4 160 = true then
    if (s0.1 75 (x4).toNatClampNeg) = (47 : Int32) then
      if x2 ≤ 0 then
        some (x4, s0)
      else
        if (11 : Int32) ≤ x1 then
          some (x4, s0)
        else
          c_Tape_landFault_J138 F k9 (x1 + (1 : Int32)) (0 : Int32) (0 : Int32) x4 s0
    else
      some (x4, s0)
    else none
def c_Tape_landFault_J70 (F : Nat) (k9 : Int32 → Int32 → Int32 → Int32 → St → Option (Int32 × St)) (x1 : Int32) (x2 : Int32) (x3 : Int32) (x4 : Int32) (x5 : Int32) (s0 : St) : Option (Int32 × St) :=
    if x3 = 0 then
      c_Tape_landFault_J103 F k9 x1 x2 x4 s0
    else
      if x5 < (1 : Int32) then
        c_Tape_landFault_J103 F k9 x1 x2 x4 s0
      else
        if (12 : Int32) < ((x2 + x5) - (1 : Int32)) then
          c_Tape_landFault_J103 F k9 x1 x2 x4 s0
        else
          c_Tape_landFault_J138 F k9 x1 (x2 + (x5 - (1 : Int32))) (0 : Int32) x4 s0
def c_Tape_landFault_L9b (F : Nat)  (k9 : Int32 → Int32 → Int32 → Int32 → St → Option (Int32 × St)) (x1 : Int32) (x2 : Int32) (x3 : Int32) (x4 : Int32) (s0 : St) : Option (Int32 × St) :=
    if (s0.1 74 1) ≤ x4 then
      if x2 ≤ 0 then
        some (s0.1 74 1, s0)
      else
        some ((-1 : Int32), s0)
    else
      if inb x4 160 = true then
      if (s0.1 75 (x4).toNatClampNeg) = (32 : Int32) then
        c_Tape_landFault_J138 F k9 x1 x2 x3 x4 s0
      else
        gB2 (c_Tape_digitAt F x4 s0) fun r1 s1 =>
        if inb x4 160 = true then
        gB2 (c_String_indexOf_0f7a4 F (s1.1 75 (x4).toNatClampNeg) s1) fun r2 s2 =>
        if r2 < 0 then
          c_Tape_landFault_J70 F k9 x1 x2 x3 x4 r1 s2
        else
          if (12 : Int32) ≤ x2 then
            c_Tape_landFault_J70 F k9 x1 x2 x3 x4 r1 s2
          else
            c_Tape_landFault_J138 F k9 x1 (x2 + (1 : Int32)) (1 : Int32) x4 s2
        else none
      else none
def c_Tape_landFault_L9 (F : Nat)  : Nat → Int32 → Int32 → Int32 → Int32 → St → Option (Int32 × St) := lp (fun _ _ _ _ _ => none) (c_Tape_landFault_L9b F )
def c_Tape_landFault (F : Nat)  (s0 : St) : Option (Int32 × St) :=
  c_Tape_landFault_L9 F F (0 : Int32) (0 : Int32) (0 : Int32) (0 : Int32) s0
def c_Land_lay (F : Nat) (a1 : Int32) (a2 : Int32) (s0 : St) : Option St :=
  if a1 < 0 then
    some s0
  else
    if a1 < (144 : Int32) then
      if inb a1 144 = true then
      if inb a1 144 = true then
      some (sI (sI s0 3 (a1).toNatClampNeg a2) 4 (a1).toNatClampNeg (0 : Int32))
      else none
      else none
    else
      some s0
def c_Tape_layOut_J137 (F : Nat) (k13 : Int32 → Int32 → Int32 → Int32 → Int32 → St → Option (Int32 × St)) (x2 : Int32) (x3 : Int32) (x4 : Int32) (x5 : Int32) (x6 : Int32) (s0 : St) : Option (Int32 × St) :=
    k13 x2 x3 x4 x5 (x6 + (1 : Int32)) s0
def c_Tape_layOut_L102b (F : Nat) (k13 : Int32 → Int32 → Int32 → Int32 → Int32 → St → Option (Int32 × St)) (k102 : Int32 → Int32 → Int32 → Int32 → Int32 → Int32 → Int32 → St → Option (Int32 × St)) (x2 : Int32) (x3 : Int32) (x4 : Int32) (x5 : Int32) (x6 : Int32) (x8 : Int32) (x9 : Int32) (s0 : St) : Option (Int32 × St) :=
    if x8 ≤ x9 then
      c_Tape_layOut_J137 F k13 x2 x3 x4 (x5 + x8) x6 s0
    else
      gB (c_Land_lay F ((x2 * (12 : Int32)) + x3) x4 s0) fun s1 =>
      k102 x2 (x3 + (1 : Int32)) x4 x5 x6 x8 (x9 + (1 : Int32)) s1
def c_Tape_layOut_L102 (F : Nat) (k13 : Int32 → Int32 → Int32 → Int32 → Int32 → St → Option (Int32 × St)) : Nat → Int32 → Int32 → Int32 → Int32 → Int32 → Int32 → Int32 → St → Option (Int32 × St) := lp (fun _ _ _ _ _ _ _ _ => none) (c_Tape_layOut_L102b F k13)
def c_Tape_layOut_J99 (F : Nat) (k13 : Int32 → Int32 → Int32 → Int32 → Int32 → St → Option (Int32 × St)) (x2 : Int32) (x3 : Int32) (x4 : Int32) (x5 : Int32) (x6 : Int32) (x8 : Int32) (s0 : St) : Option (Int32 × St) :=
    c_Tape_layOut_L102 F k13 F x2 x3 x4 x5 x6 x8 (0 : Int32) s0
def c_Tape_layOut_J78 (F : Nat) (k13 : Int32 → Int32 → Int32 → Int32 → Int32 → St → Option (Int32 × St)) (x2 : Int32) (x3 : Int32) (x4 : Int32) (x5 : Int32) (x6 : Int32) (x7 : Int32) (y0 : Int32) (s0 : St) : Option (Int32 × St) :=
    if 0 ≤ x7 then
      c_Tape_layOut_J99 F k13 x2 x3 x4 x5 x6 y0 s0
    else
      if inb x6 160 = true then
      gB2 (c_String_indexOf_0f7a4 F (s0.1 75 (x6).toNatClampNeg) s0) fun r2 s2 =>
      c_Tape_layOut_J99 F k13 x2 x3 r2 x5 x6 y0 s2
      else none
def c_Tape_layOut_L13b (F : Nat)  (k13 : Int32 → Int32 → Int32 → Int32 → Int32 → St → Option (Int32 × St)) (x2 : Int32) (x3 : Int32) (x4 : Int32) (x5 : Int32) (x6 : Int32) (s0 : St) : Option (Int32 × St) :=
    if (s0.1 74 1) ≤ x6 then
      some (x5, s0)
    else
      if inb x6 160 = true then
      if (s0.1 75 (x6).toNatClampNeg) = (32 : Int32) then
        c_Tape_layOut_J137 F k13 x2 x3 x4 x5 x6 s0
      else
        if inb x6 160 = true then
        if (s0.1 75 (x6).toNatClampNeg) = (47 : Int32) then
          c_Tape_layOut_J137 F k13 (x2 + (1 : Int32)) (0 : Int32) x4 x5 x6 s0
        else
          gB2 (c_Tape_digitAt F x6 s0) fun r3 s3 =>
          if 0 ≤ r3 then
            c_Tape_layOut_J78 F k13 x2 x3 x4 x5 x6 r3 (r3 - (1 : Int32)) s3
          else
            c_Tape_layOut_J78 F k13 x2 x3 x4 x5 x6 r3 (1 : Int32) s3
        else none
      else none
def c_Tape_layOut_L13 (F : Nat)  : Nat → Int32 → Int32 → Int32 → Int32 → Int32 → St → Option (Int32 × St) := lp (fun _ _ _ _ _ _ => none) (c_Tape_layOut_L13b F )
def c_Tape_layOut (F : Nat)  (s0 : St) : Option (Int32 × St) :=
  c_Tape_layOut_L13 F F (0 : Int32) (0 : Int32) (0 : Int32) (0 : Int32) (0 : Int32) s0
def c_Tape_readLand_J21 (F : Nat)  (y0 : Int32) (s0 : St) : Option (Int32 × St) :=
    some (y0, (sI s0 74 1 (0 : Int32)))
def c_Tape_readLand (F : Nat)  (s0 : St) : Option (Int32 × St) :=
  gB2 (c_Tape_landFault F s0) fun r1 s1 =>
  if 0 ≤ r1 then
    c_Tape_readLand_J21 F ((-20 : Int32) - r1) s1
  else
    gB2 (c_Tape_layOut F s1) fun r2 s2 =>
    c_Tape_readLand_J21 F r2 s2
def c_answered (F : Nat) (a1 : Int32) (s0 : St) : Option (Int32 × St) :=
  if 0 ≤ a1 then
    some (a1, s0)
  else
    gB2 (c_refuse F a1 s0) fun r1 s1 =>
    some (r1, s1)
def c_land (F : Nat)  (s0 : St) : Option (Int32 × St) :=
  gB2 (c_Tape_readLand F s0) fun r1 s1 =>
  gB2 (c_answered F r1 s1) fun r2 s2 =>
  some (r2, s2)
def c_String_isLatin1_v1_J17 (F : Nat)   (s0 : St) : Option (Int32 × St) :=
    some ((0 : Int32), s0)
def c_String_isLatin1_v1 (F : Nat)  (s0 : St) : Option (Int32 × St) :=
  if (1 : Int32) = 0 then
    c_String_isLatin1_v1_J17 F s0
  else
    if (0 : Int32) = 0 then
      some ((1 : Int32), s0)
    else
      c_String_isLatin1_v1_J17 F s0
def c_String_coder_v1 (F : Nat)  (s0 : St) : Option (Int32 × St) :=
  if (1 : Int32) = 0 then
    none
  else
    some ((0 : Int32), s0)
def c_String_length_v1 (F : Nat)  (s0 : St) : Option (Int32 × St) :=
  gB2 (c_String_coder_v1 F s0) fun r1 s1 =>
  some ((6 : Int32) >>> (r1 &&& 31), s1)
def c_StringUTF16_getChar_v1 (F : Nat) (a1 : Int32) (s0 : St) : Option (Int32 × St) :=
  none
def c_StringUTF16_length_v1 (F : Nat)  (s0 : St) : Option (Int32 × St) :=
  some ((6 : Int32) >>> ((1 : Int32) &&& 31), s0)
def c_StringUTF16_checkBoundsBeginEnd_v1 (F : Nat) (a0 : Int32) (a1 : Int32) (s0 : St) : Option St :=
  gB2 (c_StringUTF16_length_v1 F s0) fun r1 s1 =>
  gB (c_String_checkBoundsBeginEnd F a0 a1 r1 s1) fun s2 =>
  some s2
def c_StringUTF16_indexOfSupplementary_v1_J63 (F : Nat) (k28 : Int32 → Int32 → Int32 → Int32 → St → Option (Int32 × St)) (x3 : Int32) (x4 : Int32) (x5 : Int32) (x6 : Int32) (s0 : St) : Option (Int32 × St) :=
    k28 x3 x4 x5 (x6 + (1 : Int32)) s0
def c_StringUTF16_indexOfSupplementary_v1_L28b (F : Nat)  (k28 : Int32 → Int32 → Int32 → Int32 → St → Option (Int32 × St)) (x3 : Int32) (x4 : Int32) (x5 : Int32) (x6 : Int32) (s0 : St) : Option (Int32 × St) :=
    if (x3 - (1 : Int32)) ≤ x6 then
      some ((-1 : Int32), s0)
    else
      gB2 (c_StringUTF16_getChar_v1 F x6 s0) fun r1 s1 =>
      if r1 = x4 then
        gB2 (c_StringUTF16_getChar_v1 F (x6 + (1 : Int32)) s1) fun r2 s2 =>
        if r2 = x5 then
          some (x6, s2)
        else
          c_StringUTF16_indexOfSupplementary_v1_J63 F k28 x3 x4 x5 x6 s2
      else
        c_StringUTF16_indexOfSupplementary_v1_J63 F k28 x3 x4 x5 x6 s1
def c_StringUTF16_indexOfSupplementary_v1_L28 (F : Nat)  : Nat → Int32 → Int32 → Int32 → Int32 → St → Option (Int32 × St) := lp (fun _ _ _ _ _ => none) (c_StringUTF16_indexOfSupplementary_v1_L28b F )
def c_StringUTF16_indexOfSupplementary_v1 (F : Nat) (a1 : Int32) (a2 : Int32) (a3 : Int32) (s0 : St) : Option (Int32 × St) :=
  gB2 (c_Character_isValidCodePoint F a1 s0) fun r3 s3 =>
  if r3 = 0 then
    some ((-1 : Int32), s3)
  else
    gB2 (c_Character_highSurrogate F a1 s3) fun r4 s4 =>
    gB2 (c_Character_lowSurrogate F a1 s4) fun r5 s5 =>
    gB (c_StringUTF16_checkBoundsBeginEnd_v1 F a2 a3 s5) fun s6 =>
    c_StringUTF16_indexOfSupplementary_v1_L28 F F a3 r4 r5 a2 s6
def c_StringUTF16_indexOfCharUnsafe_v1_L3b (F : Nat)  (k3 : Int32 → Int32 → Int32 → St → Option (Int32 × St)) (x1 : Int32) (x3 : Int32) (x4 : Int32) (s0 : St) : Option (Int32 × St) :=
    if x3 ≤ x4 then
      some ((-1 : Int32), s0)
    else
      gB2 (c_StringUTF16_getChar_v1 F x4 s0) fun r1 s1 =>
      if r1 = x1 then
        some (x4, s1)
      else
        k3 x1 x3 (x4 + (1 : Int32)) s1
def c_StringUTF16_indexOfCharUnsafe_v1_L3 (F : Nat)  : Nat → Int32 → Int32 → Int32 → St → Option (Int32 × St) := lp (fun _ _ _ _ => none) (c_StringUTF16_indexOfCharUnsafe_v1_L3b F )
def c_StringUTF16_indexOfCharUnsafe_v1 (F : Nat) (a1 : Int32) (a2 : Int32) (a3 : Int32) (s0 : St) : Option (Int32 × St) :=
  c_StringUTF16_indexOfCharUnsafe_v1_L3 F F a1 a3 a2 s0
def c_StringUTF16_indexOfChar_v1 (F : Nat) (a1 : Int32) (a2 : Int32) (a3 : Int32) (s0 : St) : Option (Int32 × St) :=
  gB (c_StringUTF16_checkBoundsBeginEnd_v1 F a2 a3 s0) fun s1 =>
  gB2 (c_StringUTF16_indexOfCharUnsafe_v1 F a1 a2 a3 s1) fun r2 s2 =>
  some (r2, s2)
def c_StringUTF16_indexOf_v1 (F : Nat) (a1 : Int32) (a2 : Int32) (a3 : Int32) (s0 : St) : Option (Int32 × St) :=
  if (gMmax a2 (0 : Int32)) < (gMmin a3 ((6 : Int32) >>> ((1 : Int32) &&& 31))) then
    if (65536 : Int32) ≤ a1 then
      gB2 (c_StringUTF16_indexOfSupplementary_v1 F a1 (gMmax a2 (0 : Int32)) (gMmin a3 ((6 : Int32) >>> ((1 : Int32) &&& 31))) s0) fun r1 s1 =>
      some (r1, s1)
    else
      gB2 (c_StringUTF16_indexOfChar_v1 F a1 (gMmax a2 (0 : Int32)) (gMmin a3 ((6 : Int32) >>> ((1 : Int32) &&& 31))) s0) fun r2 s2 =>
      some (r2, s2)
  else
    some ((-1 : Int32), s0)
def c_StringLatin1_indexOfChar_v1_L7b (F : Nat)  (k7 : Int32 → Int32 → Int32 → St → Option (Int32 × St)) (x3 : Int32) (x4 : Int32) (x5 : Int32) (s0 : St) : Option (Int32 × St) :=
    if x3 ≤ x5 then
      some ((-1 : Int32), s0)
    else
      if inb x5 6 = true then
      if (gSL (x5).toNatClampNeg) = x4 then
        some (x5, s0)
      else
        k7 x3 x4 (x5 + (1 : Int32)) s0
      else none
def c_StringLatin1_indexOfChar_v1_L7 (F : Nat)  : Nat → Int32 → Int32 → Int32 → St → Option (Int32 × St) := lp (fun _ _ _ _ => none) (c_StringLatin1_indexOfChar_v1_L7b F )
def c_StringLatin1_indexOfChar_v1 (F : Nat) (a1 : Int32) (a2 : Int32) (a3 : Int32) (s0 : St) : Option (Int32 × St) :=
  c_StringLatin1_indexOfChar_v1_L7 F F a3 ((a1).toInt8.toInt32) a2 s0
def c_StringLatin1_indexOf_v1 (F : Nat) (a1 : Int32) (a2 : Int32) (a3 : Int32) (s0 : St) : Option (Int32 × St) :=
  gB2 (c_StringLatin1_canEncode F a1 s0) fun r1 s1 =>
  if r1 = 0 then
    some ((-1 : Int32), s1)
  else
    if (gMmax a2 (0 : Int32)) < (gMmin a3 (6 : Int32)) then
      gB2 (c_StringLatin1_indexOfChar_v1 F a1 (gMmax a2 (0 : Int32)) (gMmin a3 (6 : Int32)) s1) fun r2 s2 =>
      some (r2, s2)
    else
      some ((-1 : Int32), s1)
def c_String_indexOf_7cf53_v1 (F : Nat) (a1 : Int32) (a2 : Int32) (s0 : St) : Option (Int32 × St) :=
  gB2 (c_String_isLatin1_v1 F s0) fun r1 s1 =>
  if r1 = 0 then
    gB2 (c_String_length_v1 F s1) fun r2 s2 =>
    gB2 (c_StringUTF16_indexOf_v1 F a1 a2 r2 s2) fun r3 s3 =>
    some (r3, s3)
  else
    gB2 (c_String_length_v1 F s1) fun r4 s4 =>
    gB2 (c_StringLatin1_indexOf_v1 F a1 a2 r4 s4) fun r5 s5 =>
    some (r5, s5)
def c_String_indexOf_0f7a4_v1 (F : Nat) (a1 : Int32) (s0 : St) : Option (Int32 × St) :=
  gB2 (c_String_indexOf_7cf53_v1 F a1 (0 : Int32) s0) fun r1 s1 =>
  some (r1, s1)
def c_Tape_lawFault_J106 (F : Nat)   (s0 : St) : Option (Int32 × St) :=
    some (s0.1 74 1, s0)
def c_Tape_lawFault_J88 (F : Nat) (k6 : Int32 → Int32 → Int32 → St → Option (Int32 × St)) (x1 : Int32) (x2 : Int32) (x3 : Int32) (s0 : St) : Option (Int32 × St) :=
    k6 x1 x2 (x3 + (1 : Int32)) s0
def c_Tape_lawFault_J87 (F : Nat) (k6 : Int32 → Int32 → Int32 → St → Option (Int32 × St)) (x1 : Int32) (x3 : Int32) (y0 : Int32) (s0 : St) : Option (Int32 × St) :=
    c_Tape_lawFault_J88 F k6 x1 y0 x3 s0
def c_Tape_lawFault_J78 (F : Nat) (k6 : Int32 → Int32 → Int32 → St → Option (Int32 × St)) (x1 : Int32) (x2 : Int32) (x3 : Int32) (s0 : St) : Option (Int32 × St) :=
    if x2 = 0 then
      c_Tape_lawFault_J87 F k6 x1 x3 (1 : Int32) s0
    else
      c_Tape_lawFault_J87 F k6 x1 x3 (0 : Int32) s0
def c_Tape_lawFault_L6b (F : Nat)  (k6 : Int32 → Int32 → Int32 → St → Option (Int32 × St)) (x1 : Int32) (x2 : Int32) (x3 : Int32) (s0 : St) : Option (Int32 × St) :=
    if (s0.1 74 1) ≤ x3 then
      if x1 = 0 then
        c_Tape_lawFault_J106 F s0
      else
        if x2 = 0 then
          some ((-1 : Int32), s0)
        else
          c_Tape_lawFault_J106 F s0
    else
      if inb x3 160 = true then
      if (s0.1 75 (x3).toNatClampNeg) = (32 : Int32) then
        c_Tape_lawFault_J88 F k6 x1 x2 x3 s0
      else
        if x2 = 0 then
          if inb x3 160 = true then
          gB2 (c_String_indexOf_0f7a4_v1 F (s0.1 75 (x3).toNatClampNeg) s0) fun r1 s1 =>
          if r1 < 0 then
            some (x3, s1)
          else
            if (x1 &&& ((1 : Int32) <<< (r1 &&& 31))) = 0 then
              c_Tape_lawFault_J78 F k6 (x1 ||| ((1 : Int32) <<< (r1 &&& 31))) x2 x3 s1
            else
              some (x3, s1)
          else none
        else
          gB2 (c_Tape_digitAt F x3 s0) fun r2 s2 =>
          if 0 ≤ r2 then
            c_Tape_lawFault_J78 F k6 x1 x2 x3 s2
          else
            some (x3, s2)
      else none
def c_Tape_lawFault_L6 (F : Nat)  : Nat → Int32 → Int32 → Int32 → St → Option (Int32 × St) := lp (fun _ _ _ _ => none) (c_Tape_lawFault_L6b F )
def c_Tape_lawFault (F : Nat)  (s0 : St) : Option (Int32 × St) :=
  c_Tape_lawFault_L6 F F (0 : Int32) (0 : Int32) (0 : Int32) s0
def c_Tape_layDown_J75 (F : Nat) (k7 : Int32 → Int32 → Int32 → St → Option (Int32 × St)) (x2 : Int32) (x3 : Int32) (x4 : Int32) (s0 : St) : Option (Int32 × St) :=
    k7 x2 x3 (x4 + (1 : Int32)) s0
def c_Tape_layDown_L7b (F : Nat)  (k7 : Int32 → Int32 → Int32 → St → Option (Int32 × St)) (x2 : Int32) (x3 : Int32) (x4 : Int32) (s0 : St) : Option (Int32 × St) :=
    if (s0.1 74 1) ≤ x4 then
      some (x3, s0)
    else
      if inb x4 160 = true then
      if (s0.1 75 (x4).toNatClampNeg) = (32 : Int32) then
        c_Tape_layDown_J75 F k7 x2 x3 x4 s0
      else
        gB2 (c_Tape_digitAt F x4 s0) fun r1 s1 =>
        if 0 ≤ r1 then
          if x2 < 0 then
            c_Tape_layDown_J75 F k7 x2 x3 x4 s1
          else
            if inb x2 10 = true then
            c_Tape_layDown_J75 F k7 x2 (x3 + (1 : Int32)) x4 (sI s1 7 (x2).toNatClampNeg r1)
            else none
        else
          if inb x4 160 = true then
          gB2 (c_String_indexOf_0f7a4_v1 F (s1.1 75 (x4).toNatClampNeg) s1) fun r2 s2 =>
          c_Tape_layDown_J75 F k7 r2 x3 x4 s2
          else none
      else none
def c_Tape_layDown_L7 (F : Nat)  : Nat → Int32 → Int32 → Int32 → St → Option (Int32 × St) := lp (fun _ _ _ _ => none) (c_Tape_layDown_L7b F )
def c_Tape_layDown (F : Nat)  (s0 : St) : Option (Int32 × St) :=
  c_Tape_layDown_L7 F F (-1 : Int32) (0 : Int32) (0 : Int32) s0
def c_Tape_readLaw_J21 (F : Nat)  (y0 : Int32) (s0 : St) : Option (Int32 × St) :=
    some (y0, (sI s0 74 1 (0 : Int32)))
def c_Tape_readLaw (F : Nat)  (s0 : St) : Option (Int32 × St) :=
  gB2 (c_Tape_lawFault F s0) fun r1 s1 =>
  if 0 ≤ r1 then
    c_Tape_readLaw_J21 F ((-20 : Int32) - r1) s1
  else
    gB2 (c_Tape_layDown F s1) fun r2 s2 =>
    c_Tape_readLaw_J21 F r2 s2
def c_rules (F : Nat)  (s0 : St) : Option (Int32 × St) :=
  gB2 (c_Tape_readLaw F s0) fun r1 s1 =>
  gB2 (c_answered F r1 s1) fun r2 s2 =>
  some (r2, s2)
def c_Land_isBarred_J20 (F : Nat)   (s0 : St) : Option (Int32 × St) :=
    some ((1 : Int32), s0)
def c_Land_isBarred (F : Nat) (a1 : Int32) (s0 : St) : Option (Int32 × St) :=
  if inb a1 144 = true then
  if (s0.1 3 (a1).toNatClampNeg) = (3 : Int32) then
    c_Land_isBarred_J20 F s0
  else
    if inb a1 144 = true then
    if (s0.1 3 (a1).toNatClampNeg) = (4 : Int32) then
      c_Land_isBarred_J20 F s0
    else
      some ((0 : Int32), s0)
    else none
  else none
def c_Arrays_fill_53178_L5b (F : Nat)  (k5 : Int32 → Int32 → Int32 → St → Option St) (x1 : Int32) (x2 : Int32) (x3 : Int32) (s0 : St) : Option St :=
    if x3 ≤ x2 then
      some s0
    else
      if inb x2 144 = true then
      k5 x1 (x2 + (1 : Int32)) x3 (sI s0 5 (x2).toNatClampNeg x1)
      else none
def c_Arrays_fill_53178_L5 (F : Nat)  : Nat → Int32 → Int32 → Int32 → St → Option St := lp (fun _ _ _ _ => none) (c_Arrays_fill_53178_L5b F )
def c_Arrays_fill_53178 (F : Nat) (a1 : Int32) (s0 : St) : Option St :=
  c_Arrays_fill_53178_L5 F F a1 (0 : Int32) (144 : Int32) s0
def c_Land_forgetSearches (F : Nat)  (s0 : St) : Option St :=
  gB (c_Arrays_fill_53178 F (0 : Int32) s0) fun s1 =>
  some s1
def c_Arrays_fill_d0a16_L6b (F : Nat)  (k6 : Int64 → Int32 → Int32 → St → Option St) (x1 : Int64) (x3 : Int32) (x4 : Int32) (s0 : St) : Option St :=
    if x4 ≤ x3 then
      some s0
    else
      if inb x3 576 = true then
      k6 x1 (x3 + (1 : Int32)) x4 (sJ s0 10 (x3).toNatClampNeg x1)
      else none
def c_Arrays_fill_d0a16_L6 (F : Nat)  : Nat → Int64 → Int32 → Int32 → St → Option St := lp (fun _ _ _ _ => none) (c_Arrays_fill_d0a16_L6b F )
def c_Arrays_fill_d0a16 (F : Nat) (a1 : Int64) (s0 : St) : Option St :=
  c_Arrays_fill_d0a16_L6 F F a1 (0 : Int32) (576 : Int32) s0
def c_Arrays_fill_d0a16_v1_L6b (F : Nat)  (k6 : Int64 → Int32 → Int32 → St → Option St) (x1 : Int64) (x3 : Int32) (x4 : Int32) (s0 : St) : Option St :=
    if x4 ≤ x3 then
      some s0
    else
      if inb x3 144 = true then
      k6 x1 (x3 + (1 : Int32)) x4 (sJ s0 11 (x3).toNatClampNeg x1)
      else none
def c_Arrays_fill_d0a16_v1_L6 (F : Nat)  : Nat → Int64 → Int32 → Int32 → St → Option St := lp (fun _ _ _ _ => none) (c_Arrays_fill_d0a16_v1_L6b F )
def c_Arrays_fill_d0a16_v1 (F : Nat) (a1 : Int64) (s0 : St) : Option St :=
  c_Arrays_fill_d0a16_v1_L6 F F a1 (0 : Int32) (144 : Int32) s0
def c_Night_setOut (F : Nat) (a1 : Int32) (a2 : Int32) (s0 : St) : Option St :=
  gB (c_Arrays_fill_d0a16 F (0 : Int64) s0) fun s1 =>
  gB (c_Arrays_fill_d0a16_v1 F (0 : Int64) s1) fun s2 =>
  if inb ((a1 * (4 : Int32)) + a2) 576 = true then
  some (sI (sJ s2 10 ((a1 * (4 : Int32)) + a2).toNatClampNeg (1099511627776 : Int64)) 9 4 (0 : Int32))
  else none
def c_start_J16 (F : Nat)   (s0 : St) : Option (Int32 × St) :=
    gB2 (c_refuse F (-1 : Int32) s0) fun r1 s1 =>
    some (r1, s1)
def c_start (F : Nat) (a1 : Int32) (a2 : Int32) (s0 : St) : Option (Int32 × St) :=
  gB2 (c_isCell F a1 s0) fun r2 s2 =>
  if r2 = 0 then
    c_start_J16 F s2
  else
    gB2 (c_isIn F a2 (0 : Int32) (3 : Int32) s2) fun r3 s3 =>
    if r3 = 0 then
      c_start_J16 F s3
    else
      gB2 (c_Land_isBarred F a1 s3) fun r4 s4 =>
      if r4 = 0 then
        gB (c_Land_forgetSearches F s4) fun s5 =>
        gB (c_Night_setOut F a1 a2 s5) fun s6 =>
        some ((1 : Int32), s6)
      else
        gB2 (c_refuse F (-2 : Int32) s4) fun r7 s7 =>
        some (r7, s7)
def c_Night_together_L10b (F : Nat)  (k10 : Int32 → Int64 → Int32 → St → Option (Int64 × St)) (x1 : Int32) (x2 : Int64) (x4 : Int32) (s0 : St) : Option (Int64 × St) :=
    if (4 : Int32) ≤ x4 then
      some (x2, s0)
    else
      if inb ((x1 * (4 : Int32)) + x4) 576 = true then
      k10 x1 (x2 + (s0.2 10 ((x1 * (4 : Int32)) + x4).toNatClampNeg)) (x4 + (1 : Int32)) s0
      else none
def c_Night_together_L10 (F : Nat)  : Nat → Int32 → Int64 → Int32 → St → Option (Int64 × St) := lp (fun _ _ _ _ => none) (c_Night_together_L10b F )
def c_Night_together (F : Nat) (a1 : Int32) (s0 : St) : Option (Int64 × St) :=
  if inb a1 144 = true then
  c_Night_together_L10 F F a1 (s0.2 11 (a1).toNatClampNeg) (0 : Int32) s0
  else none
def c_Night_pulls_L5b (F : Nat)  (k5 : Int32 → Int32 → Int32 → St → Option (Int32 × St)) (x2 : Int32) (x3 : Int32) (x4 : Int32) (s0 : St) : Option (Int32 × St) :=
    if (4 : Int32) ≤ x4 then
      some (x3, s0)
    else
      if inb x4 10 = true then
      if inb x4 4 = true then
      if inb ((x2 + (gTurns (x4).toNatClampNeg)) - (x2 + (gTurns (x4).toNatClampNeg)) / (4 : Int32) * (4 : Int32)) 4 = true then
      k5 x2 (x3 + ((s0.1 7 (x4).toNatClampNeg) * (s0.1 13 ((x2 + (gTurns (x4).toNatClampNeg)) - (x2 + (gTurns (x4).toNatClampNeg)) / (4 : Int32) * (4 : Int32)).toNatClampNeg))) (x4 + (1 : Int32)) s0
      else none
      else none
      else none
def c_Night_pulls_L5 (F : Nat)  : Nat → Int32 → Int32 → Int32 → St → Option (Int32 × St) := lp (fun _ _ _ _ => none) (c_Night_pulls_L5b F )
def c_Night_pulls (F : Nat) (a2 : Int32) (s0 : St) : Option (Int32 × St) :=
  c_Night_pulls_L5 F F a2 (0 : Int32) (0 : Int32) s0
def c_Land_beside (F : Nat) (a0 : Int32) (a1 : Int32) (s0 : St) : Option (Int32 × St) :=
  if a1 = (0 : Int32) then
    if (12 : Int32) ≤ a0 then
      some (a0 - (12 : Int32), s0)
    else
      some ((-1 : Int32), s0)
  else
  if a1 = (1 : Int32) then
    if (a0 - a0 / (12 : Int32) * (12 : Int32)) = (11 : Int32) then
      some ((-1 : Int32), s0)
    else
      some (a0 + (1 : Int32), s0)
  else
  if a1 = (2 : Int32) then
    if a0 < (132 : Int32) then
      some (a0 + (12 : Int32), s0)
    else
      some ((-1 : Int32), s0)
  else
  if (a0 - a0 / (12 : Int32) * (12 : Int32)) = 0 then
    some ((-1 : Int32), s0)
  else
    some (a0 - (1 : Int32), s0)
def c_Night_portion (F : Nat) (a0 : Int64) (a2 : Int64) (a4 : Int64) (s0 : St) : Option (Int64 × St) :=
  if 0 < (lg_cmp a4 (0 : Int64)) then
    if a4 = 0 then none else
    some ((a0 * a2) / a4, s0)
  else
    some ((0 : Int64), s0)
def c_Night_arrive (F : Nat) (a1 : Int32) (a2 : Int32) (a3 : Int64) (s0 : St) : Option (Int64 × St) :=
  if 0 ≤ a1 then
    if inb ((a1 * (4 : Int32)) + a2) 576 = true then
    if inb ((a1 * (4 : Int32)) + a2) 576 = true then
    some (a3, (sJ s0 12 ((a1 * (4 : Int32)) + a2).toNatClampNeg ((s0.2 12 ((a1 * (4 : Int32)) + a2).toNatClampNeg) + a3)))
    else none
    else none
  else
    some ((0 : Int64), s0)
def c_Night_turn_L18b (F : Nat)  (k18 : Int32 → Int32 → Int64 → Int64 → Int64 → Int32 → St → Option (Int64 × St)) (x2 : Int32) (x3 : Int32) (x4 : Int64) (x6 : Int64) (x8 : Int64) (x10 : Int32) (s0 : St) : Option (Int64 × St) :=
    if (4 : Int32) ≤ x10 then
      some (x8, s0)
    else
      if inb x10 4 = true then
      if inb x10 10 = true then
      if inb ((x3 + (gTurns (x10).toNatClampNeg)) - (x3 + (gTurns (x10).toNatClampNeg)) / (4 : Int32) * (4 : Int32)) 4 = true then
      gB2 (c_Land_beside F x2 ((x3 + (gTurns (x10).toNatClampNeg)) - (x3 + (gTurns (x10).toNatClampNeg)) / (4 : Int32) * (4 : Int32)) s0) fun r1 s1 =>
      gB2 (c_Night_portion F x6 (((s0.1 7 (x10).toNatClampNeg) * (s0.1 13 ((x3 + (gTurns (x10).toNatClampNeg)) - (x3 + (gTurns (x10).toNatClampNeg)) / (4 : Int32) * (4 : Int32)).toNatClampNeg)).toInt64) x4 s1) fun r2 s2 =>
      gB2 (c_Night_arrive F r1 ((x3 + (gTurns (x10).toNatClampNeg)) - (x3 + (gTurns (x10).toNatClampNeg)) / (4 : Int32) * (4 : Int32)) r2 s2) fun r3 s3 =>
      k18 x2 x3 x4 x6 (x8 + r3) (x10 + (1 : Int32)) s3
      else none
      else none
      else none
def c_Night_turn_L18 (F : Nat)  : Nat → Int32 → Int32 → Int64 → Int64 → Int64 → Int32 → St → Option (Int64 × St) := lp (fun _ _ _ _ _ _ _ => none) (c_Night_turn_L18b F )
def c_Night_turn (F : Nat) (a2 : Int32) (a3 : Int32) (a4 : Int64) (s0 : St) : Option (Int64 × St) :=
  if inb ((a2 * (4 : Int32)) + a3) 576 = true then
  c_Night_turn_L18 F F a2 a3 a4 (s0.2 10 ((a2 * (4 : Int32)) + a3).toNatClampNeg) (0 : Int64) (0 : Int32) s0
  else none
def c_Law_sitDown (F : Nat) (a1 : Int32) (a2 : Int32) (s0 : St) : Option (Int32 × St) :=
  if inb a1 8 = true then
  if a2 < (120 : Int32) then
    some ((s0.1 8 (a1).toNatClampNeg) + (0 : Int32), s0)
  else
    if inb (4 : Int32) 10 = true then
    some ((s0.1 8 (a1).toNatClampNeg) + (s0.1 7 ((4 : Int32)).toNatClampNeg), s0)
    else none
  else none
def c_Law_rideOn_J22 (F : Nat)   (s0 : St) : Option (Int32 × St) :=
    some ((0 : Int32), s0)
def c_Law_rideOn (F : Nat) (a1 : Int32) (a2 : Int32) (s0 : St) : Option (Int32 × St) :=
  if a1 = (6 : Int32) then
    if (a2 - a2 / (15 : Int32) * (15 : Int32)) = 0 then
      if inb (5 : Int32) 10 = true then
      some (s0.1 7 ((5 : Int32)).toNatClampNeg, s0)
      else none
    else
      c_Law_rideOn_J22 F s0
  else
    c_Law_rideOn_J22 F s0
def c_Land_nextStop_L2b (F : Nat)  (k2 : Int32 → Int32 → St → Option (Int32 × St)) (x1 : Int32) (x2 : Int32) (s0 : St) : Option (Int32 × St) :=
    if (144 : Int32) ≤ x2 then
      some (x1, s0)
    else
      if inb ((x1 + x2) - (x1 + x2) / (144 : Int32) * (144 : Int32)) 144 = true then
      if (s0.1 3 ((x1 + x2) - (x1 + x2) / (144 : Int32) * (144 : Int32)).toNatClampNeg) = (6 : Int32) then
        some ((x1 + x2) - (x1 + x2) / (144 : Int32) * (144 : Int32), s0)
      else
        k2 x1 (x2 + (1 : Int32)) s0
      else none
def c_Land_nextStop_L2 (F : Nat)  : Nat → Int32 → Int32 → St → Option (Int32 × St) := lp (fun _ _ _ => none) (c_Land_nextStop_L2b F )
def c_Land_nextStop (F : Nat) (a1 : Int32) (s0 : St) : Option (Int32 × St) :=
  c_Land_nextStop_L2 F F a1 (1 : Int32) s0
def c_Land_lure_J18 (F : Nat)   (s0 : St) : Option (Int32 × St) :=
    some ((0 : Int32), s0)
def c_Land_lure (F : Nat) (a1 : Int32) (a2 : Int32) (s0 : St) : Option (Int32 × St) :=
  gB2 (c_Land_beside F a1 a2 s0) fun r1 s1 =>
  if r1 < 0 then
    c_Land_lure_J18 F s1
  else
    gB2 (c_Land_isBarred F r1 s1) fun r2 s2 =>
    if r2 = 0 then
      if inb r1 144 = true then
      some ((1 : Int32) + (s2.1 4 (r1).toNatClampNeg), s2)
      else none
    else
      c_Land_lure_J18 F s2
def c_Night_leave_J170 (F : Nat) (k80 : Int32 → Int32 → Int32 → Int32 → Int32 → St → Option St) (x3 : Int32) (x4 : Int32) (x5 : Int32) (x6 : Int32) (x7 : Int32) (s0 : St) : Option St :=
    k80 x3 x4 x5 x6 (x7 + (1 : Int32)) s0
def c_Night_leave_L80b (F : Nat)  (k80 : Int32 → Int32 → Int32 → Int32 → Int32 → St → Option St) (x3 : Int32) (x4 : Int32) (x5 : Int32) (x6 : Int32) (x7 : Int32) (s0 : St) : Option St :=
    if (4 : Int32) ≤ x7 then
      some s0
    else
      if inb ((x3 * (4 : Int32)) + x7) 576 = true then
      if 0 < (lg_cmp (s0.2 10 ((x3 * (4 : Int32)) + x7).toNatClampNeg) (0 : Int64)) then
        gB2 (c_Night_pulls F x7 s0) fun r1 s1 =>
        gB2 (c_Night_turn F x3 x7 (((x4 + x5) + r1).toInt64) s1) fun r2 s2 =>
        gB2 (c_Night_portion F (s0.2 10 ((x3 * (4 : Int32)) + x7).toNatClampNeg) ((x5).toInt64) (((x4 + x5) + r1).toInt64) s2) fun r3 s3 =>
        gB2 (c_Night_arrive F x6 x7 r3 s3) fun r4 s4 =>
        if inb x3 144 = true then
        if inb x3 144 = true then
        c_Night_leave_J170 F k80 x3 x4 x5 x6 x7 (sJ s4 11 (x3).toNatClampNeg ((s4.2 11 (x3).toNatClampNeg) + ((s0.2 10 ((x3 * (4 : Int32)) + x7).toNatClampNeg) - (r2 + r4))))
        else none
        else none
      else
        c_Night_leave_J170 F k80 x3 x4 x5 x6 x7 s0
      else none
def c_Night_leave_L80 (F : Nat)  : Nat → Int32 → Int32 → Int32 → Int32 → Int32 → St → Option St := lp (fun _ _ _ _ _ _ => none) (c_Night_leave_L80b F )
def c_Night_leave_J75 (F : Nat)  (x3 : Int32) (x4 : Int32) (x5 : Int32) (y0 : Int32) (s0 : St) : Option St :=
    c_Night_leave_L80 F F x3 x4 x5 y0 (0 : Int32) s0
def c_Night_leave_L3b (F : Nat)  (k3 : Int32 → Int32 → St → Option St) (x3 : Int32) (x4 : Int32) (s0 : St) : Option St :=
    if (4 : Int32) ≤ x4 then
      if inb x3 144 = true then
      gB2 (c_Law_sitDown F (s0.1 3 (x3).toNatClampNeg) (s0.1 9 4) s0) fun r5 s5 =>
      if inb x3 144 = true then
      gB2 (c_Law_rideOn F (s5.1 3 (x3).toNatClampNeg) (s5.1 9 4) s5) fun r6 s6 =>
      if r6 ≤ 0 then
        c_Night_leave_J75 F x3 r5 r6 x3 s6
      else
        gB2 (c_Land_nextStop F x3 s6) fun r7 s7 =>
        c_Night_leave_J75 F x3 r5 r6 r7 s7
      else none
      else none
    else
      gB2 (c_Land_lure F x3 x4 s0) fun r8 s8 =>
      if inb x4 4 = true then
      k3 x3 (x4 + (1 : Int32)) (sI s8 13 (x4).toNatClampNeg r8)
      else none
def c_Night_leave_L3 (F : Nat)  : Nat → Int32 → Int32 → St → Option St := lp (fun _ _ _ => none) (c_Night_leave_L3b F )
def c_Night_leave (F : Nat) (a3 : Int32) (s0 : St) : Option St :=
  c_Night_leave_L3 F F a3 (0 : Int32) s0
def c_Arrays_fill_d0a16_v2_L6b (F : Nat)  (k6 : Int64 → Int32 → Int32 → St → Option St) (x1 : Int64) (x3 : Int32) (x4 : Int32) (s0 : St) : Option St :=
    if x4 ≤ x3 then
      some s0
    else
      if inb x3 576 = true then
      k6 x1 (x3 + (1 : Int32)) x4 (sJ s0 12 (x3).toNatClampNeg x1)
      else none
def c_Arrays_fill_d0a16_v2_L6 (F : Nat)  : Nat → Int64 → Int32 → Int32 → St → Option St := lp (fun _ _ _ _ => none) (c_Arrays_fill_d0a16_v2_L6b F )
def c_Arrays_fill_d0a16_v2 (F : Nat) (a1 : Int64) (s0 : St) : Option St :=
  c_Arrays_fill_d0a16_v2_L6 F F a1 (0 : Int32) (576 : Int32) s0
def c_Night_pass_J39 (F : Nat) (k10 : Int32 → St → Option St) (x3 : Int32) (s0 : St) : Option St :=
    k10 (x3 + (1 : Int32)) s0
def c_Night_pass_L10b (F : Nat)  (k10 : Int32 → St → Option St) (x3 : Int32) (s0 : St) : Option St :=
    if (144 : Int32) ≤ x3 then
      if ¬ (0 : Int32) < 0 ∧ ¬ (0 : Int32) < 0 ∧ ¬ (576 : Int32) < 0 ∧ ((0 : Int32)).toNatClampNeg + ((576 : Int32)).toNatClampNeg ≤ 576 ∧ ((0 : Int32)).toNatClampNeg + ((576 : Int32)).toNatClampNeg ≤ 576 then
      some (sI (cpJ s0 12 10 ((0 : Int32)).toNatClampNeg ((0 : Int32)).toNatClampNeg ((576 : Int32)).toNatClampNeg) 9 4 (((cpJ s0 12 10 ((0 : Int32)).toNatClampNeg ((0 : Int32)).toNatClampNeg ((576 : Int32)).toNatClampNeg).1 9 4) + (1 : Int32)))
      else none
    else
      gB2 (c_Night_together F x3 s0) fun r1 s1 =>
      if inb x3 144 = true then
      if (lg_cmp r1 (s1.2 11 (x3).toNatClampNeg)) ≤ 0 then
        c_Night_pass_J39 F k10 x3 s1
      else
        gB (c_Night_leave F x3 s1) fun s2 =>
        c_Night_pass_J39 F k10 x3 s2
      else none
def c_Night_pass_L10 (F : Nat)  : Nat → Int32 → St → Option St := lp (fun _ _ => none) (c_Night_pass_L10b F )
def c_Night_pass (F : Nat)  (s0 : St) : Option St :=
  gB (c_Arrays_fill_d0a16_v2 F (0 : Int64) s0) fun s3 =>
  c_Night_pass_L10 F F (0 : Int32) s3
def c_Night_isOut (F : Nat)  (s0 : St) : Option (Int32 × St) :=
  if (s0.1 9 4) < 0 then
    some ((0 : Int32), s0)
  else
    some ((1 : Int32), s0)
def c_night_L63b (F : Nat)  (k63 : Int32 → Int32 → St → Option (Int32 × St)) (x1 : Int32) (x2 : Int32) (s0 : St) : Option (Int32 × St) :=
    if x1 ≤ x2 then
      some (s0.1 9 4, s0)
    else
      gB (c_Night_pass F s0) fun s1 =>
      k63 x1 (x2 + (1 : Int32)) s1
def c_night_L63 (F : Nat)  : Nat → Int32 → Int32 → St → Option (Int32 × St) := lp (fun _ _ _ => none) (c_night_L63b F )
def c_night (F : Nat) (a1 : Int32) (s0 : St) : Option (Int32 × St) :=
  gB2 (c_isIn F a1 (1 : Int32) (60 : Int32) s0) fun r2 s2 =>
  if r2 = 0 then
    gB2 (c_refuse F (-1 : Int32) s2) fun r6 s6 =>
    some (r6, s6)
  else
    gB2 (c_Night_isOut F s2) fun r3 s3 =>
    if r3 = 0 then
      gB2 (c_refuse F (-2 : Int32) s3) fun r5 s5 =>
      some (r5, s5)
    else
      if ((s3.1 9 4) + a1) ≤ (999 : Int32) then
        c_night_L63 F F a1 (0 : Int32) s3
      else
        gB2 (c_refuse F (-3 : Int32) s3) fun r4 s4 =>
        some (r4, s4)
def c_parts (F : Nat) (a1 : Int32) (a2 : Int32) (s0 : St) : Option (Int64 × St) :=
  gB2 (c_isCell F a1 s0) fun r1 s1 =>
  if r1 = 0 then
    gB2 (c_refuse F (-1 : Int32) s1) fun r4 s4 =>
    some ((r4).toInt64, s4)
  else
    if a2 = (0 : Int32) then
      if inb ((a1 * (4 : Int32)) + a2) 576 = true then
      some (s1.2 10 ((a1 * (4 : Int32)) + a2).toNatClampNeg, s1)
      else none
    else
    if a2 = (1 : Int32) then
      if inb ((a1 * (4 : Int32)) + a2) 576 = true then
      some (s1.2 10 ((a1 * (4 : Int32)) + a2).toNatClampNeg, s1)
      else none
    else
    if a2 = (2 : Int32) then
      if inb ((a1 * (4 : Int32)) + a2) 576 = true then
      some (s1.2 10 ((a1 * (4 : Int32)) + a2).toNatClampNeg, s1)
      else none
    else
    if a2 = (3 : Int32) then
      if inb ((a1 * (4 : Int32)) + a2) 576 = true then
      some (s1.2 10 ((a1 * (4 : Int32)) + a2).toNatClampNeg, s1)
      else none
    else
    if a2 = (4 : Int32) then
      if inb a1 144 = true then
      some (s1.2 11 (a1).toNatClampNeg, s1)
      else none
    else
    if a2 = (5 : Int32) then
      gB2 (c_Night_together F a1 s1) fun r2 s2 =>
      some (r2, s2)
    else
    gB2 (c_refuse F (-1 : Int32) s1) fun r3 s3 =>
    some ((r3).toInt64, s3)
def c_isPart (F : Nat) (a0 : Int32) (s0 : St) : Option (Int32 × St) :=
  gB2 (c_isIn F a0 (0 : Int32) (1 : Int32) s0) fun r1 s1 =>
  if r1 = 0 ∨ r1 = 1 then some (r1, s1) else none
def c_Night_all_L4b (F : Nat)  (k4 : Int64 → Int32 → St → Option (Int64 × St)) (x1 : Int64) (x3 : Int32) (s0 : St) : Option (Int64 × St) :=
    if (144 : Int32) ≤ x3 then
      some (x1, s0)
    else
      gB2 (c_Night_together F x3 s0) fun r1 s1 =>
      k4 (x1 + r1) (x3 + (1 : Int32)) s1
def c_Night_all_L4 (F : Nat)  : Nat → Int64 → Int32 → St → Option (Int64 × St) := lp (fun _ _ _ => none) (c_Night_all_L4b F )
def c_Night_all (F : Nat)  (s0 : St) : Option (Int64 × St) :=
  c_Night_all_L4 F F (0 : Int64) (0 : Int32) s0
def c_commonDivisor_L3b (F : Nat)  (k3 : Int64 → Int64 → Int32 → St → Option (Int64 × St)) (x0 : Int64) (x2 : Int64) (x4 : Int32) (s0 : St) : Option (Int64 × St) :=
    if (1000 : Int32) ≤ x4 then
      some (x0, s0)
    else
      if (lg_cmp x2 (0 : Int64)) = 0 then
        some (x0, s0)
      else
        if x2 = 0 then none else
        k3 x2 (x0 - x0 / x2 * x2) (x4 + (1 : Int32)) s0
def c_commonDivisor_L3 (F : Nat)  : Nat → Int64 → Int64 → Int32 → St → Option (Int64 × St) := lp (fun _ _ _ _ => none) (c_commonDivisor_L3b F )
def c_commonDivisor (F : Nat) (a0 : Int64) (a2 : Int64) (s0 : St) : Option (Int64 × St) :=
  c_commonDivisor_L3 F F a0 a2 (0 : Int32) s0
def c_lowest_J26 (F : Nat)  (x5 : Int64) (y0 : Int64) (s0 : St) : Option (Int64 × St) :=
    if x5 = 0 then none else
    some (y0 / x5, s0)
def c_lowest (F : Nat) (a0 : Int64) (a2 : Int64) (a4 : Int32) (s0 : St) : Option (Int64 × St) :=
  gB2 (c_commonDivisor F a0 a2 s0) fun r1 s1 =>
  if 0 < (lg_cmp r1 (0 : Int64)) then
    if a4 = 0 then
      c_lowest_J26 F r1 a0 s1
    else
      c_lowest_J26 F r1 a2 s1
  else
    some ((0 : Int64), s1)
def c_odds_J14 (F : Nat)   (s0 : St) : Option (Int64 × St) :=
    gB2 (c_refuse F (-1 : Int32) s0) fun r1 s1 =>
    some ((r1).toInt64, s1)
def c_odds (F : Nat) (a1 : Int32) (a2 : Int32) (s0 : St) : Option (Int64 × St) :=
  gB2 (c_isCell F a1 s0) fun r2 s2 =>
  if r2 = 0 then
    c_odds_J14 F s2
  else
    gB2 (c_isPart F a2 s2) fun r3 s3 =>
    if r3 = 0 then
      c_odds_J14 F s3
    else
      gB2 (c_Night_all F s3) fun r4 s4 =>
      if 0 < (lg_cmp r4 (0 : Int64)) then
        gB2 (c_Night_together F a1 s4) fun r5 s5 =>
        gB2 (c_lowest F r5 r4 a2 s5) fun r6 s6 =>
        some (r6, s6)
      else
        gB2 (c_refuse F (-4 : Int32) s4) fun r7 s7 =>
        some ((r7).toInt64, s7)
def c_Night_fullest_J50 (F : Nat) (k7 : Int32 → Int32 → Int64 → Int32 → St → Option (Int32 × St)) (x1 : Int32) (x2 : Int32) (x3 : Int64) (x5 : Int32) (s0 : St) : Option (Int32 × St) :=
    k7 x1 x2 x3 (x5 + (1 : Int32)) s0
def c_Night_fullest_J35 (F : Nat) (k7 : Int32 → Int32 → Int64 → Int32 → St → Option (Int32 × St)) (x1 : Int32) (x2 : Int32) (x3 : Int64) (x5 : Int32) (y0 : Int64) (s0 : St) : Option (Int32 × St) :=
    if (lg_cmp y0 x3) ≤ 0 then
      c_Night_fullest_J50 F k7 x1 x2 x3 x5 s0
    else
      c_Night_fullest_J50 F k7 x1 x5 y0 x5 s0
def c_Night_fullest_L7b (F : Nat)  (k7 : Int32 → Int32 → Int64 → Int32 → St → Option (Int32 × St)) (x1 : Int32) (x2 : Int32) (x3 : Int64) (x5 : Int32) (s0 : St) : Option (Int32 × St) :=
    if (144 : Int32) ≤ x5 then
      some (x2, s0)
    else
      if x1 = 0 then
        gB2 (c_Night_together F x5 s0) fun r1 s1 =>
        c_Night_fullest_J35 F k7 x1 x2 x3 x5 r1 s1
      else
        if inb x5 144 = true then
        c_Night_fullest_J35 F k7 x1 x2 x3 x5 (s0.2 11 (x5).toNatClampNeg) s0
        else none
def c_Night_fullest_L7 (F : Nat)  : Nat → Int32 → Int32 → Int64 → Int32 → St → Option (Int32 × St) := lp (fun _ _ _ _ _ => none) (c_Night_fullest_L7b F )
def c_Night_fullest (F : Nat) (a1 : Int32) (s0 : St) : Option (Int32 × St) :=
  c_Night_fullest_L7 F F a1 (-1 : Int32) (0 : Int64) (0 : Int32) s0
def c_where_J32 (F : Nat)  (y1 : Int32) (s0 : St) : Option (Int32 × St) :=
    gB2 (c_Night_fullest F y1 s0) fun r1 s1 =>
    if 0 ≤ r1 then
      some (r1, s1)
    else
      gB2 (c_refuse F (-4 : Int32) s1) fun r2 s2 =>
      some (r2, s2)
def c_where (F : Nat) (a1 : Int32) (s0 : St) : Option (Int32 × St) :=
  gB2 (c_isIn F a1 (0 : Int32) (1 : Int32) s0) fun r3 s3 =>
  if r3 = 0 then
    gB2 (c_refuse F (-1 : Int32) s3) fun r4 s4 =>
    some (r4, s4)
  else
    if a1 = (1 : Int32) then
      c_where_J32 F (1 : Int32) s3
    else
      c_where_J32 F (0 : Int32) s3
def c_Land_searchedCells_J23 (F : Nat) (k4 : Int32 → Int32 → St → Option (Int32 × St)) (x1 : Int32) (x2 : Int32) (s0 : St) : Option (Int32 × St) :=
    k4 x1 (x2 + (1 : Int32)) s0
def c_Land_searchedCells_L4b (F : Nat)  (k4 : Int32 → Int32 → St → Option (Int32 × St)) (x1 : Int32) (x2 : Int32) (s0 : St) : Option (Int32 × St) :=
    if (144 : Int32) ≤ x2 then
      some (x1, s0)
    else
      if inb x2 144 = true then
      if (s0.1 5 (x2).toNatClampNeg) ≤ 0 then
        c_Land_searchedCells_J23 F k4 x1 x2 s0
      else
        c_Land_searchedCells_J23 F k4 (x1 + (1 : Int32)) x2 s0
      else none
def c_Land_searchedCells_L4 (F : Nat)  : Nat → Int32 → Int32 → St → Option (Int32 × St) := lp (fun _ _ _ => none) (c_Land_searchedCells_L4b F )
def c_Land_searchedCells (F : Nat)  (s0 : St) : Option (Int32 × St) :=
  c_Land_searchedCells_L4 F F (0 : Int32) (0 : Int32) s0
def c_Land_cellsOf_J24 (F : Nat) (k4 : Int32 → Int32 → Int32 → St → Option (Int32 × St)) (x1 : Int32) (x2 : Int32) (x3 : Int32) (s0 : St) : Option (Int32 × St) :=
    k4 x1 x2 (x3 + (1 : Int32)) s0
def c_Land_cellsOf_L4b (F : Nat)  (k4 : Int32 → Int32 → Int32 → St → Option (Int32 × St)) (x1 : Int32) (x2 : Int32) (x3 : Int32) (s0 : St) : Option (Int32 × St) :=
    if (144 : Int32) ≤ x3 then
      some (x2, s0)
    else
      if inb x3 144 = true then
      if (s0.1 3 (x3).toNatClampNeg) = x1 then
        c_Land_cellsOf_J24 F k4 x1 (x2 + (1 : Int32)) x3 s0
      else
        c_Land_cellsOf_J24 F k4 x1 x2 x3 s0
      else none
def c_Land_cellsOf_L4 (F : Nat)  : Nat → Int32 → Int32 → Int32 → St → Option (Int32 × St) := lp (fun _ _ _ _ => none) (c_Land_cellsOf_L4b F )
def c_Land_cellsOf (F : Nat) (a1 : Int32) (s0 : St) : Option (Int32 × St) :=
  c_Land_cellsOf_L4 F F a1 (0 : Int32) (0 : Int32) s0
def c_count (F : Nat) (a1 : Int32) (s0 : St) : Option (Int32 × St) :=
  if a1 = (0 : Int32) then
    gB2 (c_Night_isOut F s0) fun r1 s1 =>
    if r1 = 0 then
      gB2 (c_refuse F (-4 : Int32) s1) fun r2 s2 =>
      some (r2, s2)
    else
      some (s1.1 9 4, s1)
  else
  if a1 = (1 : Int32) then
    some (s0.1 14 7, s0)
  else
  if a1 = (2 : Int32) then
    some (s0.1 14 8, s0)
  else
  if a1 = (3 : Int32) then
    some (s0.1 22 5, s0)
  else
  if a1 = (4 : Int32) then
    some (s0.1 28 3, s0)
  else
  if a1 = (5 : Int32) then
    some (s0.1 32 2, s0)
  else
  if a1 = (6 : Int32) then
    gB2 (c_Land_searchedCells F s0) fun r3 s3 =>
    some (r3, s3)
  else
  if a1 = (7 : Int32) then
    gB2 (c_Land_cellsOf F (6 : Int32) s0) fun r4 s4 =>
    some (r4, s4)
  else
  if a1 = (8 : Int32) then
    gB2 (c_Land_cellsOf F (7 : Int32) s0) fun r5 s5 =>
    some (r5, s5)
  else
  gB2 (c_refuse F (-1 : Int32) s0) fun r6 s6 =>
  some (r6, s6)
def c_Law_sight_J81 (F : Nat)  (x5 : Int32) (s0 : St) : Option (Int32 × St) :=
    some (x5 / (2 : Int32), s0)
def c_Law_sight_J57 (F : Nat)  (x1 : Int32) (x2 : Int32) (x3 : Int32) (x5 : Int32) (s0 : St) : Option (Int32 × St) :=
    if x3 = 0 then
      some (x5, s0)
    else
      if x1 = (3 : Int32) then
        some ((0 : Int32), s0)
      else
        if x2 = (2 : Int32) then
          c_Law_sight_J81 F x5 s0
        else
          if x2 = (5 : Int32) then
            c_Law_sight_J81 F x5 s0
          else
            some (x5, s0)
def c_Law_sight_J34 (F : Nat)  (x1 : Int32) (x2 : Int32) (x3 : Int32) (x4 : Int32) (x5 : Int32) (s0 : St) : Option (Int32 × St) :=
    if x1 = (1 : Int32) then
      if inb (9 : Int32) 10 = true then
      if x4 < (s0.1 7 ((9 : Int32)).toNatClampNeg) then
        c_Law_sight_J57 F x1 x2 x3 x5 s0
      else
        c_Law_sight_J57 F x1 x2 x3 (x5 / (2 : Int32)) s0
      else none
    else
      c_Law_sight_J57 F x1 x2 x3 x5 s0
def c_Law_sight (F : Nat) (a1 : Int32) (a2 : Int32) (a3 : Int32) (a4 : Int32) (s0 : St) : Option (Int32 × St) :=
  if inb ((a1 * (8 : Int32)) + a2) 32 = true then
  if a1 = 0 then
    if inb (8 : Int32) 10 = true then
    if a4 < (s0.1 7 ((8 : Int32)).toNatClampNeg) then
      c_Law_sight_J34 F a1 a2 a3 a4 (gSights ((a1 * (8 : Int32)) + a2).toNatClampNeg) s0
    else
      c_Law_sight_J34 F a1 a2 a3 a4 ((gSights ((a1 * (8 : Int32)) + a2).toNatClampNeg) / (2 : Int32)) s0
    else none
  else
    c_Law_sight_J34 F a1 a2 a3 a4 (gSights ((a1 * (8 : Int32)) + a2).toNatClampNeg) s0
  else none
def c_isSort (F : Nat) (a0 : Int32) (s0 : St) : Option (Int32 × St) :=
  gB2 (c_isIn F a0 (0 : Int32) (3 : Int32) s0) fun r1 s1 =>
  if r1 = 0 ∨ r1 = 1 then some (r1, s1) else none
def c_sees_J23 (F : Nat)   (s0 : St) : Option (Int32 × St) :=
    gB2 (c_refuse F (-1 : Int32) s0) fun r1 s1 =>
    some (r1, s1)
def c_sees_J79 (F : Nat)  (y1 : Int32) (y2 : Int32) (y3 : Int32) (s0 : St) : Option (Int32 × St) :=
    gB2 (c_Law_sight F y1 y2 y3 (s0.1 9 4) s0) fun r2 s2 =>
    some (r2, s2)
def c_sees (F : Nat) (a1 : Int32) (a2 : Int32) (a3 : Int32) (s0 : St) : Option (Int32 × St) :=
  gB2 (c_isSort F a1 s0) fun r3 s3 =>
  if r3 = 0 then
    c_sees_J23 F s3
  else
    gB2 (c_isCell F a2 s3) fun r4 s4 =>
    if r4 = 0 then
      c_sees_J23 F s4
    else
      gB2 (c_isIn F a3 (0 : Int32) (1 : Int32) s4) fun r5 s5 =>
      if r5 = 0 then
        c_sees_J23 F s5
      else
        gB2 (c_Night_isOut F s5) fun r6 s6 =>
        if r6 = 0 then
          gB2 (c_refuse F (-2 : Int32) s6) fun r7 s7 =>
          some (r7, s7)
        else
          if inb a2 144 = true then
          if a3 = (1 : Int32) then
            c_sees_J79 F a1 (s6.1 3 (a2).toNatClampNeg) (1 : Int32) s6
          else
            c_sees_J79 F a1 (s6.1 3 (a2).toNatClampNeg) (0 : Int32) s6
          else none
def c_Night_seen_L18b (F : Nat)  (k18 : Int32 → Int32 → Int64 → Int32 → St → Option (Int64 × St)) (x1 : Int32) (x2 : Int32) (x4 : Int64) (x6 : Int32) (s0 : St) : Option (Int64 × St) :=
    if (4 : Int32) ≤ x6 then
      some (x4, s0)
    else
      if inb ((x1 * (4 : Int32)) + x6) 576 = true then
      k18 x1 x2 (x4 + (((s0.2 10 ((x1 * (4 : Int32)) + x6).toNatClampNeg) * ((x2).toInt64)) / (16 : Int64))) (x6 + (1 : Int32)) s0
      else none
def c_Night_seen_L18 (F : Nat)  : Nat → Int32 → Int32 → Int64 → Int32 → St → Option (Int64 × St) := lp (fun _ _ _ _ _ => none) (c_Night_seen_L18b F )
def c_Night_seen (F : Nat) (a1 : Int32) (a2 : Int32) (a3 : Int32) (s0 : St) : Option (Int64 × St) :=
  if inb a1 144 = true then
  c_Night_seen_L18 F F a1 a2 (((s0.2 11 (a1).toNatClampNeg) * ((a3).toInt64)) / (16 : Int64)) (0 : Int32) s0
  else none
def c_State_seen (F : Nat) (a1 : Int32) (a2 : Int32) (a3 : Int32) (s0 : St) : Option (Int64 × St) :=
  if inb a2 144 = true then
  gB2 (c_Law_sight F a1 (s0.1 3 (a2).toNatClampNeg) (0 : Int32) a3 s0) fun r1 s1 =>
  gB2 (c_Law_sight F a1 (s0.1 3 (a2).toNatClampNeg) (1 : Int32) a3 s1) fun r2 s2 =>
  gB2 (c_Night_seen F a2 r1 r2 s2) fun r3 s3 =>
  some (r3, s3)
  else none
def c_Night_lose_L25b (F : Nat)  (k25 : Int32 → Int32 → Int32 → St → Option St) (x1 : Int32) (x2 : Int32) (x4 : Int32) (s0 : St) : Option St :=
    if (4 : Int32) ≤ x4 then
      some s0
    else
      if inb ((x1 * (4 : Int32)) + x4) 576 = true then
      if inb ((x1 * (4 : Int32)) + x4) 576 = true then
      if inb ((x1 * (4 : Int32)) + x4) 576 = true then
      k25 x1 x2 (x4 + (1 : Int32)) (sJ s0 10 ((x1 * (4 : Int32)) + x4).toNatClampNeg ((s0.2 10 ((x1 * (4 : Int32)) + x4).toNatClampNeg) - (((s0.2 10 ((x1 * (4 : Int32)) + x4).toNatClampNeg) * ((x2).toInt64)) / (16 : Int64))))
      else none
      else none
      else none
def c_Night_lose_L25 (F : Nat)  : Nat → Int32 → Int32 → Int32 → St → Option St := lp (fun _ _ _ _ => none) (c_Night_lose_L25b F )
def c_Night_lose (F : Nat) (a1 : Int32) (a2 : Int32) (a3 : Int32) (s0 : St) : Option St :=
  if inb a1 144 = true then
  if inb a1 144 = true then
  if inb a1 144 = true then
  c_Night_lose_L25 F F a1 a2 (0 : Int32) (sJ s0 11 (a1).toNatClampNeg ((s0.2 11 (a1).toNatClampNeg) - (((s0.2 11 (a1).toNatClampNeg) * ((a3).toInt64)) / (16 : Int64))))
  else none
  else none
  else none
def c_State_lookFor (F : Nat) (a1 : Int32) (a2 : Int32) (s0 : St) : Option (Int64 × St) :=
  if inb a2 144 = true then
  gB2 (c_State_seen F a1 a2 (s0.1 9 4) s0) fun r1 s1 =>
  gB2 (c_Law_sight F a1 (s0.1 3 (a2).toNatClampNeg) (0 : Int32) (s1.1 9 4) s1) fun r2 s2 =>
  gB2 (c_Law_sight F a1 (s0.1 3 (a2).toNatClampNeg) (1 : Int32) (s2.1 9 4) s2) fun r3 s3 =>
  gB (c_Night_lose F a2 r2 r3 s3) fun s4 =>
  if inb a2 144 = true then
  if inb a2 144 = true then
  some (r1, (sI s4 5 (a2).toNatClampNeg ((s4.1 5 (a2).toNatClampNeg) + (1 : Int32))))
  else none
  else none
  else none
def c_thousandths (F : Nat) (a0 : Int64) (a2 : Int64) (s0 : St) : Option (Int32 × St) :=
  if 0 < (lg_cmp a2 (0 : Int64)) then
    if a2 = 0 then none else
    some (((a0 * (1000 : Int64)) / a2).toInt32, s0)
  else
    some ((0 : Int32), s0)
def c_search_J14 (F : Nat)   (s0 : St) : Option (Int32 × St) :=
    gB2 (c_refuse F (-1 : Int32) s0) fun r1 s1 =>
    some (r1, s1)
def c_search (F : Nat) (a1 : Int32) (a2 : Int32) (s0 : St) : Option (Int32 × St) :=
  gB2 (c_isSort F a1 s0) fun r2 s2 =>
  if r2 = 0 then
    c_search_J14 F s2
  else
    gB2 (c_isCell F a2 s2) fun r3 s3 =>
    if r3 = 0 then
      c_search_J14 F s3
    else
      gB2 (c_Night_isOut F s3) fun r4 s4 =>
      if r4 = 0 then
        gB2 (c_refuse F (-2 : Int32) s4) fun r9 s9 =>
        some (r9, s9)
      else
        gB2 (c_Night_all F s4) fun r5 s5 =>
        if 0 < (lg_cmp r5 (0 : Int64)) then
          gB2 (c_State_lookFor F a1 a2 s5) fun r6 s6 =>
          gB2 (c_thousandths F r6 r5 s6) fun r7 s7 =>
          some (r7, s7)
        else
          gB2 (c_refuse F (-4 : Int32) s5) fun r8 s8 =>
          some (r8, s8)
def c_Law_livingAt (F : Nat) (a1 : Int32) (s0 : St) : Option (Int32 × St) :=
  if inb (6 : Int32) 10 = true then
  if inb (7 : Int32) 10 = true then
  if (((240 : Int32) + ((60 : Int32) * (s0.1 7 ((6 : Int32)).toNatClampNeg))) - ((20 : Int32) * (s0.1 7 ((7 : Int32)).toNatClampNeg))) < a1 then
    if inb (7 : Int32) 10 = true then
    some (gMmax (0 : Int32) ((1000 : Int32) - (((2 : Int32) + (s0.1 7 ((7 : Int32)).toNatClampNeg)) * (a1 - (((240 : Int32) + ((60 : Int32) * (s0.1 7 ((6 : Int32)).toNatClampNeg))) - ((20 : Int32) * (s0.1 7 ((7 : Int32)).toNatClampNeg)))))), s0)
    else none
  else
    some ((1000 : Int32), s0)
  else none
  else none
def c_alive (F : Nat) (a1 : Int32) (s0 : St) : Option (Int32 × St) :=
  gB2 (c_isIn F a1 (0 : Int32) (999 : Int32) s0) fun r1 s1 =>
  if r1 = 0 then
    gB2 (c_refuse F (-1 : Int32) s1) fun r3 s3 =>
    some (r3, s3)
  else
    gB2 (c_Law_livingAt F a1 s1) fun r2 s2 =>
    some (r2, s2)
def c_Teams_addTeam (F : Nat) (a1 : Int32) (a2 : Int32) (a3 : Int32) (s0 : St) : Option (Int32 × St) :=
  if (s0.1 14 7) < (4 : Int32) then
    if inb (s0.1 14 7) 4 = true then
    if inb ((sI s0 15 (s0.1 14 7).toNatClampNeg a1).1 14 7) 4 = true then
    if inb ((sI (sI s0 15 (s0.1 14 7).toNatClampNeg a1) 16 ((sI s0 15 (s0.1 14 7).toNatClampNeg a1).1 14 7).toNatClampNeg a2).1 14 7) 4 = true then
    some ((sI (sI (sI s0 15 (s0.1 14 7).toNatClampNeg a1) 16 ((sI s0 15 (s0.1 14 7).toNatClampNeg a1).1 14 7).toNatClampNeg a2) 17 ((sI (sI s0 15 (s0.1 14 7).toNatClampNeg a1) 16 ((sI s0 15 (s0.1 14 7).toNatClampNeg a1).1 14 7).toNatClampNeg a2).1 14 7).toNatClampNeg a3).1 14 7, (sI (sI (sI (sI s0 15 (s0.1 14 7).toNatClampNeg a1) 16 ((sI s0 15 (s0.1 14 7).toNatClampNeg a1).1 14 7).toNatClampNeg a2) 17 ((sI (sI s0 15 (s0.1 14 7).toNatClampNeg a1) 16 ((sI s0 15 (s0.1 14 7).toNatClampNeg a1).1 14 7).toNatClampNeg a2).1 14 7).toNatClampNeg a3) 14 7 (((sI (sI (sI s0 15 (s0.1 14 7).toNatClampNeg a1) 16 ((sI s0 15 (s0.1 14 7).toNatClampNeg a1).1 14 7).toNatClampNeg a2) 17 ((sI (sI s0 15 (s0.1 14 7).toNatClampNeg a1) 16 ((sI s0 15 (s0.1 14 7).toNatClampNeg a1).1 14 7).toNatClampNeg a2).1 14 7).toNatClampNeg a3).1 14 7) + (1 : Int32))))
    else none
    else none
    else none
  else
    some ((-3 : Int32), s0)
def c_team_J24 (F : Nat)   (s0 : St) : Option (Int32 × St) :=
    gB2 (c_refuse F (-1 : Int32) s0) fun r1 s1 =>
    some (r1, s1)
def c_team (F : Nat) (a1 : Int32) (a2 : Int32) (a3 : Int32) (s0 : St) : Option (Int32 × St) :=
  gB2 (c_isSort F a1 s0) fun r2 s2 =>
  if r2 = 0 then
    c_team_J24 F s2
  else
    gB2 (c_isCell F a2 s2) fun r3 s3 =>
    if r3 = 0 then
      c_team_J24 F s3
    else
      gB2 (c_isIn F a3 (1 : Int32) (9 : Int32) s3) fun r4 s4 =>
      if r4 = 0 then
        c_team_J24 F s4
      else
        gB2 (c_Teams_addTeam F a1 a2 a3 s4) fun r5 s5 =>
        gB2 (c_answered F r5 s5) fun r6 s6 =>
        some (r6, s6)
def c_Teams_hasPlace_L2b (F : Nat)  (k2 : Int32 → Int32 → St → Option (Int32 × St)) (x1 : Int32) (x2 : Int32) (s0 : St) : Option (Int32 × St) :=
    if (s0.1 14 8) ≤ x2 then
      some ((0 : Int32), s0)
    else
      if inb x2 6 = true then
      if (s0.1 18 (x2).toNatClampNeg) = x1 then
        some ((1 : Int32), s0)
      else
        k2 x1 (x2 + (1 : Int32)) s0
      else none
def c_Teams_hasPlace_L2 (F : Nat)  : Nat → Int32 → Int32 → St → Option (Int32 × St) := lp (fun _ _ _ => none) (c_Teams_hasPlace_L2b F )
def c_Teams_hasPlace (F : Nat) (a1 : Int32) (s0 : St) : Option (Int32 × St) :=
  c_Teams_hasPlace_L2 F F a1 (0 : Int32) s0
def c_Teams_addPlace (F : Nat) (a1 : Int32) (s0 : St) : Option (Int32 × St) :=
  if (s0.1 14 8) < (6 : Int32) then
    gB2 (c_Teams_hasPlace F a1 s0) fun r1 s1 =>
    if r1 = 0 then
      if inb (s1.1 14 8) 6 = true then
      some ((sI s1 18 (s1.1 14 8).toNatClampNeg a1).1 14 8, (sI (sI s1 18 (s1.1 14 8).toNatClampNeg a1) 14 8 (((sI s1 18 (s1.1 14 8).toNatClampNeg a1).1 14 8) + (1 : Int32))))
      else none
    else
      some ((-2 : Int32), s1)
  else
    some ((-3 : Int32), s0)
def c_place (F : Nat) (a1 : Int32) (s0 : St) : Option (Int32 × St) :=
  gB2 (c_isCell F a1 s0) fun r1 s1 =>
  if r1 = 0 then
    gB2 (c_refuse F (-1 : Int32) s1) fun r4 s4 =>
    some (r4, s4)
  else
    gB2 (c_Teams_addPlace F a1 s1) fun r2 s2 =>
    gB2 (c_answered F r2 s2) fun r3 s3 =>
    some (r3, s3)
def c_Land_rowsApart (F : Nat) (a0 : Int32) (a1 : Int32) (s0 : St) : Option (Int32 × St) :=
  some (gMabs ((a0 / (12 : Int32)) - (a1 / (12 : Int32))), s0)
def c_Land_columnsApart (F : Nat) (a0 : Int32) (a1 : Int32) (s0 : St) : Option (Int32 × St) :=
  some (gMabs ((a0 - a0 / (12 : Int32) * (12 : Int32)) - (a1 - a1 / (12 : Int32) * (12 : Int32))), s0)
def c_State_worth (F : Nat) (a1 : Int32) (a2 : Int32) (a3 : Int32) (a4 : Int32) (s0 : St) : Option (Int64 × St) :=
  gB2 (c_State_seen F a1 a2 a3 s0) fun r1 s1 =>
  gB2 (c_Law_livingAt F a4 s1) fun r2 s2 =>
  some (r1 * ((r2).toInt64), s2)
def c_Teams_weigh_L12b (F : Nat) (k2 : Int32 → St → Option St) (k12 : Int32 → Int32 → St → Option St) (x2 : Int32) (x3 : Int32) (s0 : St) : Option St :=
    if (s0.1 14 8) ≤ x3 then
      k2 (x2 + (1 : Int32)) s0
    else
      if inb x2 4 = true then
      if inb x3 6 = true then
      gB2 (c_Land_rowsApart F (s0.1 16 (x2).toNatClampNeg) (s0.1 18 (x3).toNatClampNeg) s0) fun r1 s1 =>
      if inb x2 4 = true then
      if inb x3 6 = true then
      gB2 (c_Land_columnsApart F (s1.1 16 (x2).toNatClampNeg) (s1.1 18 (x3).toNatClampNeg) s1) fun r2 s2 =>
      if inb x2 4 = true then
      if inb x2 4 = true then
      if inb x3 6 = true then
      gB2 (c_State_worth F (s2.1 15 (x2).toNatClampNeg) (s2.1 18 (x3).toNatClampNeg) ((s2.1 9 4) + ((s2.1 17 (x2).toNatClampNeg) * (r1 + r2))) ((s2.1 9 4) + ((s2.1 17 (x2).toNatClampNeg) * (r1 + r2))) s2) fun r3 s3 =>
      if inb ((x2 * (6 : Int32)) + x3) 24 = true then
      k12 x2 (x3 + (1 : Int32)) (sJ s3 19 ((x2 * (6 : Int32)) + x3).toNatClampNeg r3)
      else none
      else none
      else none
      else none
      else none
      else none
      else none
      else none
def c_Teams_weigh_L12 (F : Nat) (k2 : Int32 → St → Option St) : Nat → Int32 → Int32 → St → Option St := lp (fun _ _ _ => none) (c_Teams_weigh_L12b F k2)
def c_Teams_weigh_L2b (F : Nat)  (k2 : Int32 → St → Option St) (x2 : Int32) (s0 : St) : Option St :=
    if (s0.1 14 7) ≤ x2 then
      some s0
    else
      c_Teams_weigh_L12 F k2 F x2 (0 : Int32) s0
def c_Teams_weigh_L2 (F : Nat)  : Nat → Int32 → St → Option St := lp (fun _ _ => none) (c_Teams_weigh_L2b F )
def c_Teams_weigh (F : Nat)  (s0 : St) : Option St :=
  c_Teams_weigh_L2 F F (0 : Int32) s0
def c_Teams_send_J96 (F : Nat) (self : Int32 → Int32 → Int64 → St → Option St) (k40 : Int32 → Int32 → Int64 → Int32 → St → Option St) (x1 : Int32) (x2 : Int32) (x3 : Int64) (x5 : Int32) (s0 : St) : Option St :=
    k40 x1 x2 x3 (x5 + (1 : Int32)) s0
def c_Teams_send_L40b (F : Nat) (self : Int32 → Int32 → Int64 → St → Option St)  (k40 : Int32 → Int32 → Int64 → Int32 → St → Option St) (x1 : Int32) (x2 : Int32) (x3 : Int64) (x5 : Int32) (s0 : St) : Option St :=
    if (s0.1 14 8) ≤ x5 then
      if inb x1 4 = true then
      gB (self (x1 + (1 : Int32)) x2 x3 (sI s0 20 (x1).toNatClampNeg (6 : Int32))) fun s1 =>
      some s1
      else none
    else
      if (x2 &&& ((1 : Int32) <<< (x5 &&& 31))) = 0 then
        if inb x1 4 = true then
        if inb ((x1 * (6 : Int32)) + x5) 24 = true then
        gB (self (x1 + (1 : Int32)) (x2 ||| ((1 : Int32) <<< (x5 &&& 31))) (x3 + ((sI s0 20 (x1).toNatClampNeg x5).2 19 ((x1 * (6 : Int32)) + x5).toNatClampNeg)) (sI s0 20 (x1).toNatClampNeg x5)) fun s2 =>
        c_Teams_send_J96 F self k40 x1 x2 x3 x5 s2
        else none
        else none
      else
        c_Teams_send_J96 F self k40 x1 x2 x3 x5 s0
def c_Teams_send_L40 (F : Nat) (self : Int32 → Int32 → Int64 → St → Option St)  : Nat → Int32 → Int32 → Int64 → Int32 → St → Option St := lp (fun _ _ _ _ _ => none) (c_Teams_send_L40b F self )
def c_Teams_send_b (F : Nat) (self : Int32 → Int32 → Int64 → St → Option St) (a1 : Int32) (a2 : Int32) (a3 : Int64) (s0 : St) : Option St :=
  if a1 < (s0.1 14 7) then
    c_Teams_send_L40 F self F a1 a2 a3 (0 : Int32) s0
  else
    if (lg_cmp a3 (s0.2 14 9)) ≤ 0 then
      some s0
    else
      if ¬ (0 : Int32) < 0 ∧ ¬ (0 : Int32) < 0 ∧ ¬ (4 : Int32) < 0 ∧ ((0 : Int32)).toNatClampNeg + ((4 : Int32)).toNatClampNeg ≤ 4 ∧ ((0 : Int32)).toNatClampNeg + ((4 : Int32)).toNatClampNeg ≤ 4 then
      some (cpI (sJ s0 14 9 a3) 20 21 ((0 : Int32)).toNatClampNeg ((0 : Int32)).toNatClampNeg ((4 : Int32)).toNatClampNeg)
      else none
def c_Teams_send (F : Nat) : Nat → Int32 → Int32 → Int64 → St → Option St := lp (fun _ _ _ _ => none) (c_Teams_send_b F)
def c_Teams_choose (F : Nat)  (s0 : St) : Option St :=
  gB (c_Teams_weigh F s0) fun s1 =>
  gB (c_Teams_send F 5 (0 : Int32) (0 : Int32) (0 : Int64) (sJ s1 14 9 (-1 : Int64))) fun s2 =>
  some s2
def c_whom_J64 (F : Nat)   (s0 : St) : Option (Int64 × St) :=
    gB2 (c_refuse F (-4 : Int32) s0) fun r1 s1 =>
    some ((r1).toInt64, s1)
def c_whom (F : Nat) (a1 : Int32) (s0 : St) : Option (Int64 × St) :=
  gB2 (c_isIn F a1 (-1 : Int32) (3 : Int32) s0) fun r2 s2 =>
  if r2 = 0 then
    gB2 (c_refuse F (-1 : Int32) s2) fun r6 s6 =>
    some ((r6).toInt64, s6)
  else
    gB2 (c_Night_isOut F s2) fun r3 s3 =>
    if r3 = 0 then
      gB2 (c_refuse F (-2 : Int32) s3) fun r5 s5 =>
      some ((r5).toInt64, s5)
    else
      if (s3.1 14 7) = 0 then
        c_whom_J64 F s3
      else
        if a1 < (s3.1 14 7) then
          gB (c_Teams_choose F s3) fun s4 =>
          if 0 ≤ a1 then
            if inb a1 4 = true then
            some ((s4.1 21 (a1).toNatClampNeg).toInt64, s4)
            else none
          else
            some (s4.2 14 9, s4)
        else
          c_whom_J64 F s3
def c_Teams_greatestTogether_L25b (F : Nat) (k10 : Int64 → Int32 → St → Option (Int64 × St)) (k25 : Int64 → Int32 → Int64 → Int32 → St → Option (Int64 × St)) (x2 : Int64) (x4 : Int32) (x5 : Int64) (x7 : Int32) (s0 : St) : Option (Int64 × St) :=
    if (s0.1 14 8) ≤ x7 then
      k10 (x2 + x5) (x4 + (1 : Int32)) s0
    else
      if inb ((x4 * (6 : Int32)) + x7) 24 = true then
      k25 x2 x4 (gMmaxL x5 (s0.2 19 ((x4 * (6 : Int32)) + x7).toNatClampNeg)) (x7 + (1 : Int32)) s0
      else none
def c_Teams_greatestTogether_L25 (F : Nat) (k10 : Int64 → Int32 → St → Option (Int64 × St)) : Nat → Int64 → Int32 → Int64 → Int32 → St → Option (Int64 × St) := lp (fun _ _ _ _ _ => none) (c_Teams_greatestTogether_L25b F k10)
def c_Teams_greatestTogether_L10b (F : Nat)  (k10 : Int64 → Int32 → St → Option (Int64 × St)) (x2 : Int64) (x4 : Int32) (s0 : St) : Option (Int64 × St) :=
    if (s0.1 14 7) ≤ x4 then
      some (x2, s0)
    else
      c_Teams_greatestTogether_L25 F k10 F x2 x4 (0 : Int64) (0 : Int32) s0
def c_Teams_greatestTogether_L10 (F : Nat)  : Nat → Int64 → Int32 → St → Option (Int64 × St) := lp (fun _ _ _ => none) (c_Teams_greatestTogether_L10b F )
def c_Teams_greatestTogether (F : Nat)  (s0 : St) : Option (Int64 × St) :=
  gB (c_Teams_weigh F s0) fun s1 =>
  c_Teams_greatestTogether_L10 F F (0 : Int64) (0 : Int32) s1
def c_bound (F : Nat)  (s0 : St) : Option (Int64 × St) :=
  gB2 (c_Night_isOut F s0) fun r1 s1 =>
  if r1 = 0 then
    gB2 (c_refuse F (-2 : Int32) s1) fun r4 s4 =>
    some ((r4).toInt64, s4)
  else
    if (s1.1 14 7) = 0 then
      gB2 (c_refuse F (-4 : Int32) s1) fun r3 s3 =>
      some ((r3).toInt64, s3)
    else
      gB2 (c_Teams_greatestTogether F s1) fun r2 s2 =>
      some (r2, s2)
def c_State_bestOf_J74 (F : Nat) (k10 : Int32 → Int32 → Int32 → Int64 → Int32 → St → Option (Int32 × St)) (x1 : Int32) (x2 : Int32) (x3 : Int32) (x4 : Int64) (x6 : Int32) (s0 : St) : Option (Int32 × St) :=
    k10 x1 x2 x3 x4 (x6 + (1 : Int32)) s0
def c_State_bestOf_J36 (F : Nat) (k10 : Int32 → Int32 → Int32 → Int64 → Int32 → St → Option (Int32 × St)) (x1 : Int32) (x2 : Int32) (x3 : Int32) (x4 : Int64) (x6 : Int32) (y0 : Int32) (s0 : St) : Option (Int32 × St) :=
    if y0 = x2 then
      gB2 (c_State_seen F x1 x6 (s0.1 9 4) s0) fun r1 s1 =>
      if (lg_cmp r1 x4) ≤ 0 then
        c_State_bestOf_J74 F k10 x1 x2 x3 x4 x6 s1
      else
        c_State_bestOf_J74 F k10 x1 x2 x6 r1 x6 s1
    else
      c_State_bestOf_J74 F k10 x1 x2 x3 x4 x6 s0
def c_State_bestOf_L10b (F : Nat)  (k10 : Int32 → Int32 → Int32 → Int64 → Int32 → St → Option (Int32 × St)) (x1 : Int32) (x2 : Int32) (x3 : Int32) (x4 : Int64) (x6 : Int32) (s0 : St) : Option (Int32 × St) :=
    if (144 : Int32) ≤ x6 then
      some (x3, s0)
    else
      if inb x6 144 = true then
      if (s0.1 5 (x6).toNatClampNeg) ≤ 0 then
        c_State_bestOf_J36 F k10 x1 x2 x3 x4 x6 (0 : Int32) s0
      else
        c_State_bestOf_J36 F k10 x1 x2 x3 x4 x6 (1 : Int32) s0
      else none
def c_State_bestOf_L10 (F : Nat)  : Nat → Int32 → Int32 → Int32 → Int64 → Int32 → St → Option (Int32 × St) := lp (fun _ _ _ _ _ _ => none) (c_State_bestOf_L10b F )
def c_State_bestOf (F : Nat) (a1 : Int32) (a2 : Int32) (s0 : St) : Option (Int32 × St) :=
  c_State_bestOf_L10 F F a1 a2 (-1 : Int32) (-1 : Int64) (0 : Int32) s0
def c_State_isWorthMore_J41 (F : Nat)   (s0 : St) : Option (Int32 × St) :=
    some ((1 : Int32), s0)
def c_State_isWorthMore (F : Nat) (a1 : Int32) (a2 : Int32) (s0 : St) : Option (Int32 × St) :=
  gB2 (c_State_bestOf F a1 (0 : Int32) s0) fun r1 s1 =>
  if r1 < 0 then
    c_State_isWorthMore_J41 F s1
  else
    gB2 (c_State_seen F a1 a2 (s1.1 9 4) s1) fun r2 s2 =>
    gB2 (c_State_seen F a1 r1 (s2.1 9 4) s2) fun r3 s3 =>
    if (lg_cmp r2 r3) ≤ 0 then
      some ((0 : Int32), s3)
    else
      c_State_isWorthMore_J41 F s3
def c_again_J16 (F : Nat)   (s0 : St) : Option (Int32 × St) :=
    gB2 (c_refuse F (-1 : Int32) s0) fun r1 s1 =>
    some (r1, s1)
def c_again (F : Nat) (a1 : Int32) (a2 : Int32) (s0 : St) : Option (Int32 × St) :=
  gB2 (c_isSort F a1 s0) fun r2 s2 =>
  if r2 = 0 then
    c_again_J16 F s2
  else
    gB2 (c_isIn F a2 (0 : Int32) (1 : Int32) s2) fun r3 s3 =>
    if r3 = 0 then
      c_again_J16 F s3
    else
      gB2 (c_Night_isOut F s3) fun r4 s4 =>
      if r4 = 0 then
        gB2 (c_refuse F (-2 : Int32) s4) fun r8 s8 =>
        some (r8, s8)
      else
        gB2 (c_State_bestOf F a1 (1 : Int32) s4) fun r5 s5 =>
        if 0 ≤ r5 then
          if a2 = 0 then
            some (r5, s5)
          else
            gB2 (c_State_isWorthMore F a1 r5 s5) fun r6 s6 =>
            if r6 = 0 then
              some ((0 : Int32), s6)
            else
              some ((1 : Int32), s6)
        else
          gB2 (c_refuse F (-4 : Int32) s5) fun r7 s7 =>
          some (r7, s7)
def c_Land_isNear_J22 (F : Nat)   (s0 : St) : Option (Int32 × St) :=
    some ((0 : Int32), s0)
def c_Land_isNear (F : Nat) (a0 : Int32) (a1 : Int32) (a2 : Int32) (s0 : St) : Option (Int32 × St) :=
  gB2 (c_Land_rowsApart F a0 a1 s0) fun r1 s1 =>
  if a2 < r1 then
    c_Land_isNear_J22 F s1
  else
    gB2 (c_Land_columnsApart F a0 a1 s1) fun r2 s2 =>
    if a2 < r2 then
      c_Land_isNear_J22 F s2
    else
      some ((1 : Int32), s2)
def c_Night_doubtFarther_J90 (F : Nat) (k3 : Int32 → Int32 → Int32 → Int32 → St → Option St) (x1 : Int32) (x2 : Int32) (x3 : Int32) (x4 : Int32) (s0 : St) : Option St :=
    k3 x1 x2 x3 (x4 + (1 : Int32)) s0
def c_Night_doubtFarther_L48b (F : Nat) (k3 : Int32 → Int32 → Int32 → Int32 → St → Option St) (k48 : Int32 → Int32 → Int32 → Int32 → Int32 → St → Option St) (x1 : Int32) (x2 : Int32) (x3 : Int32) (x4 : Int32) (x5 : Int32) (s0 : St) : Option St :=
    if (4 : Int32) ≤ x5 then
      c_Night_doubtFarther_J90 F k3 x1 x2 x3 x4 s0
    else
      if inb ((x4 * (4 : Int32)) + x5) 576 = true then
      if inb ((x4 * (4 : Int32)) + x5) 576 = true then
      k48 x1 x2 x3 x4 (x5 + (1 : Int32)) (sJ s0 10 ((x4 * (4 : Int32)) + x5).toNatClampNeg (((s0.2 10 ((x4 * (4 : Int32)) + x5).toNatClampNeg) * ((x3).toInt64)) / (16 : Int64)))
      else none
      else none
def c_Night_doubtFarther_L48 (F : Nat) (k3 : Int32 → Int32 → Int32 → Int32 → St → Option St) : Nat → Int32 → Int32 → Int32 → Int32 → Int32 → St → Option St := lp (fun _ _ _ _ _ _ => none) (c_Night_doubtFarther_L48b F k3)
def c_Night_doubtFarther_L3b (F : Nat)  (k3 : Int32 → Int32 → Int32 → Int32 → St → Option St) (x1 : Int32) (x2 : Int32) (x3 : Int32) (x4 : Int32) (s0 : St) : Option St :=
    if (144 : Int32) ≤ x4 then
      some s0
    else
      gB2 (c_Land_isNear F x1 x4 x2 s0) fun r1 s1 =>
      if r1 = 0 then
        if inb x4 144 = true then
        if inb x4 144 = true then
        c_Night_doubtFarther_L48 F k3 F x1 x2 x3 x4 (0 : Int32) (sJ s1 11 (x4).toNatClampNeg (((s1.2 11 (x4).toNatClampNeg) * ((x3).toInt64)) / (16 : Int64)))
        else none
        else none
      else
        c_Night_doubtFarther_J90 F k3 x1 x2 x3 x4 s1
def c_Night_doubtFarther_L3 (F : Nat)  : Nat → Int32 → Int32 → Int32 → Int32 → St → Option St := lp (fun _ _ _ _ _ => none) (c_Night_doubtFarther_L3b F )
def c_Night_doubtFarther (F : Nat) (a1 : Int32) (a2 : Int32) (a3 : Int32) (s0 : St) : Option St :=
  c_Night_doubtFarther_L3 F F a1 a2 a3 (0 : Int32) s0
def c_call_J27 (F : Nat)   (s0 : St) : Option (Int32 × St) :=
    gB2 (c_refuse F (-1 : Int32) s0) fun r1 s1 =>
    some (r1, s1)
def c_call (F : Nat) (a1 : Int32) (a2 : Int32) (a3 : Int32) (s0 : St) : Option (Int32 × St) :=
  gB2 (c_isCell F a1 s0) fun r2 s2 =>
  if r2 = 0 then
    c_call_J27 F s2
  else
    gB2 (c_isIn F a2 (0 : Int32) (9 : Int32) s2) fun r3 s3 =>
    if r3 = 0 then
      c_call_J27 F s3
    else
      gB2 (c_isIn F a3 (0 : Int32) (15 : Int32) s3) fun r4 s4 =>
      if r4 = 0 then
        c_call_J27 F s4
      else
        gB2 (c_Night_isOut F s4) fun r5 s5 =>
        if r5 = 0 then
          gB2 (c_refuse F (-2 : Int32) s5) fun r11 s11 =>
          some (r11, s11)
        else
          gB2 (c_Night_all F s5) fun r6 s6 =>
          if 0 < (lg_cmp r6 (0 : Int64)) then
            gB (c_Night_doubtFarther F a1 a2 ((16 : Int32) - a3) s6) fun s7 =>
            gB2 (c_Night_all F s7) fun r8 s8 =>
            gB2 (c_thousandths F r8 r6 s8) fun r9 s9 =>
            some (r9, s9)
          else
            gB2 (c_refuse F (-4 : Int32) s6) fun r10 s10 =>
            some (r10, s10)
def c_Night_near_J32 (F : Nat) (k5 : Int32 → Int32 → Int64 → Int32 → St → Option (Int64 × St)) (x1 : Int32) (x2 : Int32) (x3 : Int64) (x5 : Int32) (s0 : St) : Option (Int64 × St) :=
    k5 x1 x2 x3 (x5 + (1 : Int32)) s0
def c_Night_near_L5b (F : Nat)  (k5 : Int32 → Int32 → Int64 → Int32 → St → Option (Int64 × St)) (x1 : Int32) (x2 : Int32) (x3 : Int64) (x5 : Int32) (s0 : St) : Option (Int64 × St) :=
    if (144 : Int32) ≤ x5 then
      some (x3, s0)
    else
      gB2 (c_Land_isNear F x1 x5 x2 s0) fun r1 s1 =>
      if r1 = 0 then
        c_Night_near_J32 F k5 x1 x2 x3 x5 s1
      else
        gB2 (c_Night_together F x5 s1) fun r2 s2 =>
        c_Night_near_J32 F k5 x1 x2 (x3 + r2) x5 s2
def c_Night_near_L5 (F : Nat)  : Nat → Int32 → Int32 → Int64 → Int32 → St → Option (Int64 × St) := lp (fun _ _ _ _ _ => none) (c_Night_near_L5b F )
def c_Night_near (F : Nat) (a1 : Int32) (a2 : Int32) (s0 : St) : Option (Int64 × St) :=
  c_Night_near_L5 F F a1 a2 (0 : Int64) (0 : Int32) s0
def c_Land_cellsNear_J23 (F : Nat) (k4 : Int32 → Int32 → Int32 → Int32 → St → Option (Int32 × St)) (x0 : Int32) (x1 : Int32) (x2 : Int32) (x3 : Int32) (s0 : St) : Option (Int32 × St) :=
    k4 x0 x1 x2 (x3 + (1 : Int32)) s0
def c_Land_cellsNear_L4b (F : Nat)  (k4 : Int32 → Int32 → Int32 → Int32 → St → Option (Int32 × St)) (x0 : Int32) (x1 : Int32) (x2 : Int32) (x3 : Int32) (s0 : St) : Option (Int32 × St) :=
    if (144 : Int32) ≤ x3 then
      some (x2, s0)
    else
      gB2 (c_Land_isNear F x0 x3 x1 s0) fun r1 s1 =>
      if r1 = 0 then
        c_Land_cellsNear_J23 F k4 x0 x1 x2 x3 s1
      else
        c_Land_cellsNear_J23 F k4 x0 x1 (x2 + (1 : Int32)) x3 s1
def c_Land_cellsNear_L4 (F : Nat)  : Nat → Int32 → Int32 → Int32 → Int32 → St → Option (Int32 × St) := lp (fun _ _ _ _ _ => none) (c_Land_cellsNear_L4b F )
def c_Land_cellsNear (F : Nat) (a0 : Int32) (a1 : Int32) (s0 : St) : Option (Int32 × St) :=
  c_Land_cellsNear_L4 F F a0 a1 (0 : Int32) (0 : Int32) s0
def c_truly_J35 (F : Nat)   (s0 : St) : Option (Int64 × St) :=
    gB2 (c_refuse F (-1 : Int32) s0) fun r1 s1 =>
    some ((r1).toInt64, s1)
def c_truly (F : Nat) (a1 : Int32) (a2 : Int32) (a3 : Int32) (a4 : Int32) (s0 : St) : Option (Int64 × St) :=
  gB2 (c_isCell F a1 s0) fun r2 s2 =>
  if r2 = 0 then
    c_truly_J35 F s2
  else
    gB2 (c_isIn F a2 (0 : Int32) (9 : Int32) s2) fun r3 s3 =>
    if r3 = 0 then
      c_truly_J35 F s3
    else
      gB2 (c_isIn F a3 (0 : Int32) (15 : Int32) s3) fun r4 s4 =>
      if r4 = 0 then
        c_truly_J35 F s4
      else
        gB2 (c_isPart F a4 s4) fun r5 s5 =>
        if r5 = 0 then
          c_truly_J35 F s5
        else
          gB2 (c_Night_isOut F s5) fun r6 s6 =>
          if r6 = 0 then
            gB2 (c_refuse F (-2 : Int32) s6) fun r12 s12 =>
            some ((r12).toInt64, s12)
          else
            gB2 (c_Night_all F s6) fun r7 s7 =>
            if 0 < (lg_cmp r7 (0 : Int64)) then
              gB2 (c_Night_near F a1 a2 s7) fun r8 s8 =>
              gB2 (c_Land_cellsNear F a1 a2 s8) fun r9 s9 =>
              gB2 (c_lowest F ((r8 * ((a3).toInt64)) * (144 : Int64)) (((r8 * ((a3).toInt64)) * (144 : Int64)) + ((r7 * (((16 : Int32) - a3).toInt64)) * ((r9).toInt64))) a4 s9) fun r10 s10 =>
              some (r10, s10)
            else
              gB2 (c_refuse F (-4 : Int32) s7) fun r11 s11 =>
              some ((r11).toInt64, s11)
def c_Jobs_add (F : Nat) (a1 : Int32) (a2 : Int32) (a3 : Int32) (s0 : St) : Option (Int32 × St) :=
  if (s0.1 22 5) < (6 : Int32) then
    if inb (s0.1 22 5) 6 = true then
    if inb ((sI s0 23 (s0.1 22 5).toNatClampNeg a1).1 22 5) 6 = true then
    if inb ((sI (sI s0 23 (s0.1 22 5).toNatClampNeg a1) 24 ((sI s0 23 (s0.1 22 5).toNatClampNeg a1).1 22 5).toNatClampNeg a2).1 22 5) 6 = true then
    some ((sI (sI (sI s0 23 (s0.1 22 5).toNatClampNeg a1) 24 ((sI s0 23 (s0.1 22 5).toNatClampNeg a1).1 22 5).toNatClampNeg a2) 25 ((sI (sI s0 23 (s0.1 22 5).toNatClampNeg a1) 24 ((sI s0 23 (s0.1 22 5).toNatClampNeg a1).1 22 5).toNatClampNeg a2).1 22 5).toNatClampNeg a3).1 22 5, (sI (sI (sI (sI s0 23 (s0.1 22 5).toNatClampNeg a1) 24 ((sI s0 23 (s0.1 22 5).toNatClampNeg a1).1 22 5).toNatClampNeg a2) 25 ((sI (sI s0 23 (s0.1 22 5).toNatClampNeg a1) 24 ((sI s0 23 (s0.1 22 5).toNatClampNeg a1).1 22 5).toNatClampNeg a2).1 22 5).toNatClampNeg a3) 22 5 (((sI (sI (sI s0 23 (s0.1 22 5).toNatClampNeg a1) 24 ((sI s0 23 (s0.1 22 5).toNatClampNeg a1).1 22 5).toNatClampNeg a2) 25 ((sI (sI s0 23 (s0.1 22 5).toNatClampNeg a1) 24 ((sI s0 23 (s0.1 22 5).toNatClampNeg a1).1 22 5).toNatClampNeg a2).1 22 5).toNatClampNeg a3).1 22 5) + (1 : Int32))))
    else none
    else none
    else none
  else
    some ((-3 : Int32), s0)
def c_job_J24 (F : Nat)   (s0 : St) : Option (Int32 × St) :=
    gB2 (c_refuse F (-1 : Int32) s0) fun r1 s1 =>
    some (r1, s1)
def c_job (F : Nat) (a1 : Int32) (a2 : Int32) (a3 : Int32) (s0 : St) : Option (Int32 × St) :=
  gB2 (c_isCell F a1 s0) fun r2 s2 =>
  if r2 = 0 then
    c_job_J24 F s2
  else
    gB2 (c_isSort F a2 s2) fun r3 s3 =>
    if r3 = 0 then
      c_job_J24 F s3
    else
      gB2 (c_isIn F a3 (1 : Int32) (60 : Int32) s3) fun r4 s4 =>
      if r4 = 0 then
        c_job_J24 F s4
      else
        gB2 (c_Jobs_add F a1 a2 a3 s4) fun r5 s5 =>
        gB2 (c_answered F r5 s5) fun r6 s6 =>
        some (r6, s6)
def c_Jobs_line_J125 (F : Nat) (self : Int32 → Int32 → Int32 → Int64 → St → Option St) (k43 : Int32 → Int32 → Int32 → Int64 → Int32 → St → Option St) (x2 : Int32) (x3 : Int32) (x4 : Int32) (x5 : Int64) (x7 : Int32) (s0 : St) : Option St :=
    k43 x2 x3 x4 x5 (x7 + (1 : Int32)) s0
def c_Jobs_line_L43b (F : Nat) (self : Int32 → Int32 → Int32 → Int64 → St → Option St)  (k43 : Int32 → Int32 → Int32 → Int64 → Int32 → St → Option St) (x2 : Int32) (x3 : Int32) (x4 : Int32) (x5 : Int64) (x7 : Int32) (s0 : St) : Option St :=
    if (s0.1 22 5) ≤ x7 then
      some s0
    else
      if (x3 &&& ((1 : Int32) <<< (x7 &&& 31))) = 0 then
        if inb x7 6 = true then
        if inb x2 6 = true then
        if inb x7 6 = true then
        if inb x7 6 = true then
        gB2 (c_State_worth F ((sI s0 26 (x2).toNatClampNeg x7).1 24 (x7).toNatClampNeg) ((sI s0 26 (x2).toNatClampNeg x7).1 23 (x7).toNatClampNeg) x4 (x4 + (s0.1 25 (x7).toNatClampNeg)) (sI s0 26 (x2).toNatClampNeg x7)) fun r1 s1 =>
        gB (self (x2 + (1 : Int32)) (x3 ||| ((1 : Int32) <<< (x7 &&& 31))) (x4 + (s0.1 25 (x7).toNatClampNeg)) (x5 + r1) s1) fun s2 =>
        c_Jobs_line_J125 F self k43 x2 x3 x4 x5 x7 s2
        else none
        else none
        else none
        else none
      else
        c_Jobs_line_J125 F self k43 x2 x3 x4 x5 x7 s0
def c_Jobs_line_L43 (F : Nat) (self : Int32 → Int32 → Int32 → Int64 → St → Option St)  : Nat → Int32 → Int32 → Int32 → Int64 → Int32 → St → Option St := lp (fun _ _ _ _ _ _ => none) (c_Jobs_line_L43b F self )
def c_Jobs_line_b (F : Nat) (self : Int32 → Int32 → Int32 → Int64 → St → Option St) (a2 : Int32) (a3 : Int32) (a4 : Int32) (a5 : Int64) (s0 : St) : Option St :=
  if a2 < (s0.1 22 5) then
    c_Jobs_line_L43 F self F a2 a3 a4 a5 (0 : Int32) s0
  else
    if (lg_cmp a5 (s0.2 22 6)) ≤ 0 then
      some s0
    else
      if ¬ (0 : Int32) < 0 ∧ ¬ (0 : Int32) < 0 ∧ ¬ (6 : Int32) < 0 ∧ ((0 : Int32)).toNatClampNeg + ((6 : Int32)).toNatClampNeg ≤ 6 ∧ ((0 : Int32)).toNatClampNeg + ((6 : Int32)).toNatClampNeg ≤ 6 then
      some (cpI (sJ s0 22 6 a5) 26 27 ((0 : Int32)).toNatClampNeg ((0 : Int32)).toNatClampNeg ((6 : Int32)).toNatClampNeg)
      else none
def c_Jobs_line (F : Nat) : Nat → Int32 → Int32 → Int32 → Int64 → St → Option St := lp (fun _ _ _ _ _ => none) (c_Jobs_line_b F)
def c_Jobs_choose (F : Nat)  (s0 : St) : Option St :=
  gB (c_Jobs_line F 7 (0 : Int32) (0 : Int32) ((sJ s0 22 6 (-1 : Int64)).1 9 4) (0 : Int64) (sJ s0 22 6 (-1 : Int64))) fun s1 =>
  some s1
def c_order_J64 (F : Nat)   (s0 : St) : Option (Int64 × St) :=
    gB2 (c_refuse F (-4 : Int32) s0) fun r1 s1 =>
    some ((r1).toInt64, s1)
def c_order (F : Nat) (a1 : Int32) (s0 : St) : Option (Int64 × St) :=
  gB2 (c_isIn F a1 (-1 : Int32) (5 : Int32) s0) fun r2 s2 =>
  if r2 = 0 then
    gB2 (c_refuse F (-1 : Int32) s2) fun r6 s6 =>
    some ((r6).toInt64, s6)
  else
    gB2 (c_Night_isOut F s2) fun r3 s3 =>
    if r3 = 0 then
      gB2 (c_refuse F (-2 : Int32) s3) fun r5 s5 =>
      some ((r5).toInt64, s5)
    else
      if (s3.1 22 5) = 0 then
        c_order_J64 F s3
      else
        if a1 < (s3.1 22 5) then
          gB (c_Jobs_choose F s3) fun s4 =>
          if 0 ≤ a1 then
            if inb a1 6 = true then
            some ((s4.1 27 (a1).toNatClampNeg).toInt64, s4)
            else none
          else
            some (s4.2 22 6, s4)
        else
          c_order_J64 F s3
def c_Book_isAsTold_J48 (F : Nat)   (s0 : St) : Option (Int32 × St) :=
    some ((0 : Int32), s0)
def c_Book_isAsTold (F : Nat) (a0 : Int64) (a2 : Int64) (a4 : Int64) (s0 : St) : Option (Int32 × St) :=
  if (lg_cmp a0 (0 : Int64)) < 0 then
    c_Book_isAsTold_J48 F s0
  else
    if 0 ≤ (lg_cmp a0 (4 : Int64)) then
      c_Book_isAsTold_J48 F s0
    else
      if (lg_cmp a2 (0 : Int64)) < 0 then
        c_Book_isAsTold_J48 F s0
      else
        if 0 < (lg_cmp a2 (99 : Int64)) then
          c_Book_isAsTold_J48 F s0
        else
          if (lg_cmp a4 (0 : Int64)) < 0 then
            c_Book_isAsTold_J48 F s0
          else
            if 0 ≤ (lg_cmp a4 (8 : Int64)) then
              c_Book_isAsTold_J48 F s0
            else
              some ((1 : Int32), s0)
def c_Book_add (F : Nat) (a1 : Int32) (a2 : Int32) (a3 : Int32) (s0 : St) : Option (Int32 × St) :=
  if (s0.1 28 3) < (60 : Int32) then
    if inb (s0.1 28 3) 60 = true then
    if inb ((sI s0 29 (s0.1 28 3).toNatClampNeg a1).1 28 3) 60 = true then
    if inb ((sI (sI s0 29 (s0.1 28 3).toNatClampNeg a1) 30 ((sI s0 29 (s0.1 28 3).toNatClampNeg a1).1 28 3).toNatClampNeg a2).1 28 3) 60 = true then
    some (((sI (sI (sI s0 29 (s0.1 28 3).toNatClampNeg a1) 30 ((sI s0 29 (s0.1 28 3).toNatClampNeg a1).1 28 3).toNatClampNeg a2) 31 ((sI (sI s0 29 (s0.1 28 3).toNatClampNeg a1) 30 ((sI s0 29 (s0.1 28 3).toNatClampNeg a1).1 28 3).toNatClampNeg a2).1 28 3).toNatClampNeg a3).1 28 3) + (1 : Int32), (sI (sI (sI (sI s0 29 (s0.1 28 3).toNatClampNeg a1) 30 ((sI s0 29 (s0.1 28 3).toNatClampNeg a1).1 28 3).toNatClampNeg a2) 31 ((sI (sI s0 29 (s0.1 28 3).toNatClampNeg a1) 30 ((sI s0 29 (s0.1 28 3).toNatClampNeg a1).1 28 3).toNatClampNeg a2).1 28 3).toNatClampNeg a3) 28 3 (((sI (sI (sI s0 29 (s0.1 28 3).toNatClampNeg a1) 30 ((sI s0 29 (s0.1 28 3).toNatClampNeg a1).1 28 3).toNatClampNeg a2) 31 ((sI (sI s0 29 (s0.1 28 3).toNatClampNeg a1) 30 ((sI s0 29 (s0.1 28 3).toNatClampNeg a1).1 28 3).toNatClampNeg a2).1 28 3).toNatClampNeg a3).1 28 3) + (1 : Int32))))
    else none
    else none
    else none
  else
    some ((-3 : Int32), s0)
def c_found (F : Nat) (a1 : Int32) (a2 : Int32) (a3 : Int32) (s0 : St) : Option (Int32 × St) :=
  gB2 (c_Book_isAsTold F ((a1).toInt64) ((a2).toInt64) ((a3).toInt64) s0) fun r1 s1 =>
  if r1 = 0 then
    gB2 (c_refuse F (-1 : Int32) s1) fun r4 s4 =>
    some (r4, s4)
  else
    gB2 (c_Book_add F a1 a2 a3 s1) fun r2 s2 =>
    gB2 (c_answered F r2 s2) fun r3 s3 =>
    some (r3, s3)
def c_Book_ofKind_J25 (F : Nat) (k4 : Int32 → Int32 → Int32 → St → Option (Int32 × St)) (x1 : Int32) (x2 : Int32) (x3 : Int32) (s0 : St) : Option (Int32 × St) :=
    k4 x1 x2 (x3 + (1 : Int32)) s0
def c_Book_ofKind_L4b (F : Nat)  (k4 : Int32 → Int32 → Int32 → St → Option (Int32 × St)) (x1 : Int32) (x2 : Int32) (x3 : Int32) (s0 : St) : Option (Int32 × St) :=
    if (s0.1 28 3) ≤ x3 then
      some (x2, s0)
    else
      if inb x3 60 = true then
      if (s0.1 31 (x3).toNatClampNeg) = x1 then
        c_Book_ofKind_J25 F k4 x1 (x2 + (1 : Int32)) x3 s0
      else
        c_Book_ofKind_J25 F k4 x1 x2 x3 s0
      else none
def c_Book_ofKind_L4 (F : Nat)  : Nat → Int32 → Int32 → Int32 → St → Option (Int32 × St) := lp (fun _ _ _ _ => none) (c_Book_ofKind_L4b F )
def c_Book_ofKind (F : Nat) (a1 : Int32) (s0 : St) : Option (Int32 × St) :=
  c_Book_ofKind_L4 F F a1 (0 : Int32) (0 : Int32) s0
def c_share_J14 (F : Nat)   (s0 : St) : Option (Int32 × St) :=
    gB2 (c_refuse F (-1 : Int32) s0) fun r1 s1 =>
    some (r1, s1)
def c_share (F : Nat) (a1 : Int32) (a2 : Int32) (s0 : St) : Option (Int32 × St) :=
  gB2 (c_isKind F a1 s0) fun r2 s2 =>
  if r2 = 0 then
    c_share_J14 F s2
  else
    gB2 (c_isPart F a2 s2) fun r3 s3 =>
    if r3 = 0 then
      c_share_J14 F s3
    else
      gB2 (c_Book_ofKind F a1 s3) fun r4 s4 =>
      gB2 (c_lowest F ((r4 + (1 : Int32)).toInt64) (((s4.1 28 3) + (8 : Int32)).toInt64) a2 s4) fun r5 s5 =>
      some ((r5).toInt32, s5)
def c_Book_within_J39 (F : Nat) (k5 : Int32 → Int32 → Int32 → Int32 → St → Option (Int32 × St)) (x1 : Int32) (x2 : Int32) (x3 : Int32) (x4 : Int32) (s0 : St) : Option (Int32 × St) :=
    k5 x1 x2 x3 (x4 + (1 : Int32)) s0
def c_Book_within_L5b (F : Nat)  (k5 : Int32 → Int32 → Int32 → Int32 → St → Option (Int32 × St)) (x1 : Int32) (x2 : Int32) (x3 : Int32) (x4 : Int32) (s0 : St) : Option (Int32 × St) :=
    if (s0.1 28 3) ≤ x4 then
      some (x3, s0)
    else
      if inb x4 60 = true then
      if (s0.1 29 (x4).toNatClampNeg) = x1 then
        if inb x4 60 = true then
        if x2 < (s0.1 30 (x4).toNatClampNeg) then
          c_Book_within_J39 F k5 x1 x2 x3 x4 s0
        else
          c_Book_within_J39 F k5 x1 x2 (x3 + (1 : Int32)) x4 s0
        else none
      else
        c_Book_within_J39 F k5 x1 x2 x3 x4 s0
      else none
def c_Book_within_L5 (F : Nat)  : Nat → Int32 → Int32 → Int32 → Int32 → St → Option (Int32 × St) := lp (fun _ _ _ _ _ => none) (c_Book_within_L5b F )
def c_Book_within (F : Nat) (a1 : Int32) (a2 : Int32) (s0 : St) : Option (Int32 × St) :=
  c_Book_within_L5 F F a1 a2 (0 : Int32) (0 : Int32) s0
def c_Book_quarters (F : Nat) (a0 : Int32) (a1 : Int32) (s0 : St) : Option (Int32 × St) :=
  some (((a0 * a1) + (3 : Int32)) / (4 : Int32), s0)
def c_Book_reach_L15b (F : Nat)  (k15 : Int32 → Int32 → Int32 → St → Option (Int32 × St)) (x1 : Int32) (x3 : Int32) (x4 : Int32) (s0 : St) : Option (Int32 × St) :=
    if (99 : Int32) < x4 then
      some ((-1 : Int32), s0)
    else
      if x3 ≤ 0 then
        some ((-1 : Int32), s0)
      else
        gB2 (c_Book_within F x1 x4 s0) fun r1 s1 =>
        if r1 < x3 then
          k15 x1 x3 (x4 + (1 : Int32)) s1
        else
          some (x4, s1)
def c_Book_reach_L15 (F : Nat)  : Nat → Int32 → Int32 → Int32 → St → Option (Int32 × St) := lp (fun _ _ _ _ => none) (c_Book_reach_L15b F )
def c_Book_reach (F : Nat) (a1 : Int32) (a2 : Int32) (s0 : St) : Option (Int32 × St) :=
  gB2 (c_Book_within F a1 (99 : Int32) s0) fun r2 s2 =>
  gB2 (c_Book_quarters F a2 r2 s2) fun r3 s3 =>
  c_Book_reach_L15 F F a1 r3 (0 : Int32) s3
def c_span_J18 (F : Nat)   (s0 : St) : Option (Int32 × St) :=
    gB2 (c_refuse F (-1 : Int32) s0) fun r1 s1 =>
    some (r1, s1)
def c_span (F : Nat) (a1 : Int32) (a2 : Int32) (s0 : St) : Option (Int32 × St) :=
  gB2 (c_isIn F a1 (0 : Int32) (3 : Int32) s0) fun r2 s2 =>
  if r2 = 0 then
    c_span_J18 F s2
  else
    gB2 (c_isIn F a2 (1 : Int32) (4 : Int32) s2) fun r3 s3 =>
    if r3 = 0 then
      c_span_J18 F s3
    else
      gB2 (c_Book_reach F a1 a2 s3) fun r4 s4 =>
      if 0 ≤ r4 then
        some (r4, s4)
      else
        gB2 (c_refuse F (-4 : Int32) s4) fun r5 s5 =>
        some (r5, s5)
def c_Book_heldUp_J56 (F : Nat) (k4 : Int32 → Int32 → St → Option (Int32 × St)) (x1 : Int32) (x2 : Int32) (s0 : St) : Option (Int32 × St) :=
    k4 x1 (x2 + (1 : Int32)) s0
def c_Book_heldUp_L4b (F : Nat)  (k4 : Int32 → Int32 → St → Option (Int32 × St)) (x1 : Int32) (x2 : Int32) (s0 : St) : Option (Int32 × St) :=
    if (s0.1 28 3) ≤ x2 then
      some (x1, s0)
    else
      if inb x2 60 = true then
      gB2 (c_Book_within F (s0.1 29 (x2).toNatClampNeg) (99 : Int32) s0) fun r1 s1 =>
      if inb x2 60 = true then
      if inb x2 60 = true then
      gB2 (c_Book_within F (s1.1 29 (x2).toNatClampNeg) ((s1.1 30 (x2).toNatClampNeg) - (1 : Int32)) s1) fun r2 s2 =>
      gB2 (c_Book_quarters F (3 : Int32) (r1 - (1 : Int32)) s2) fun r3 s3 =>
      if r3 ≤ r2 then
        c_Book_heldUp_J56 F k4 x1 x2 s3
      else
        c_Book_heldUp_J56 F k4 (x1 + (1 : Int32)) x2 s3
      else none
      else none
      else none
def c_Book_heldUp_L4 (F : Nat)  : Nat → Int32 → Int32 → St → Option (Int32 × St) := lp (fun _ _ _ => none) (c_Book_heldUp_L4b F )
def c_Book_heldUp (F : Nat)  (s0 : St) : Option (Int32 × St) :=
  c_Book_heldUp_L4 F F (0 : Int32) (0 : Int32) s0
def c_held (F : Nat)  (s0 : St) : Option (Int32 × St) :=
  gB2 (c_Book_heldUp F s0) fun r1 s1 =>
  some (r1, s1)
def c_Door_add (F : Nat) (a1 : Int32) (a2 : Int32) (s0 : St) : Option (Int32 × St) :=
  if (s0.1 32 2) < (8 : Int32) then
    if inb (s0.1 32 2) 8 = true then
    if inb ((sI s0 33 (s0.1 32 2).toNatClampNeg a1).1 32 2) 8 = true then
    some ((sI (sI s0 33 (s0.1 32 2).toNatClampNeg a1) 34 ((sI s0 33 (s0.1 32 2).toNatClampNeg a1).1 32 2).toNatClampNeg a2).1 32 2, (sI (sI (sI s0 33 (s0.1 32 2).toNatClampNeg a1) 34 ((sI s0 33 (s0.1 32 2).toNatClampNeg a1).1 32 2).toNatClampNeg a2) 32 2 (((sI (sI s0 33 (s0.1 32 2).toNatClampNeg a1) 34 ((sI s0 33 (s0.1 32 2).toNatClampNeg a1).1 32 2).toNatClampNeg a2).1 32 2) + (1 : Int32))))
    else none
    else none
  else
    some ((-3 : Int32), s0)
def c_measure_J20 (F : Nat)   (s0 : St) : Option (Int32 × St) :=
    gB2 (c_refuse F (-1 : Int32) s0) fun r1 s1 =>
    some (r1, s1)
def c_measure (F : Nat) (a1 : Int32) (a2 : Int32) (s0 : St) : Option (Int32 × St) :=
  gB2 (c_isIn F a1 (0 : Int32) (15 : Int32) s0) fun r2 s2 =>
  if r2 = 0 then
    c_measure_J20 F s2
  else
    gB2 (c_isIn F a2 (0 : Int32) (15 : Int32) s2) fun r3 s3 =>
    if r3 = 0 then
      c_measure_J20 F s3
    else
      gB2 (c_Door_add F a1 a2 s3) fun r4 s4 =>
      gB2 (c_answered F r4 s4) fun r5 s5 =>
      some (r5, s5)
def c_Door_isSet_J18 (F : Nat)   (s0 : St) : Option (Int32 × St) :=
    some ((0 : Int32), s0)
def c_Door_isSet (F : Nat) (a1 : Int32) (s0 : St) : Option (Int32 × St) :=
  if a1 < 0 then
    c_Door_isSet_J18 F s0
  else
    if ((1 : Int32) <<< ((s0.1 32 2) &&& 31)) ≤ a1 then
      c_Door_isSet_J18 F s0
    else
      some ((1 : Int32), s0)
def c_Door_left_J37 (F : Nat) (k5 : Int32 → Int64 → Int32 → St → Option (Int64 × St)) (x1 : Int32) (x2 : Int64) (x4 : Int32) (s0 : St) : Option (Int64 × St) :=
    k5 x1 x2 (x4 + (1 : Int32)) s0
def c_Door_left_L5b (F : Nat)  (k5 : Int32 → Int64 → Int32 → St → Option (Int64 × St)) (x1 : Int32) (x2 : Int64) (x4 : Int32) (s0 : St) : Option (Int64 × St) :=
    if (s0.1 32 2) ≤ x4 then
      some (x2, s0)
    else
      if (x1 &&& ((1 : Int32) <<< (x4 &&& 31))) = 0 then
        c_Door_left_J37 F k5 x1 x2 x4 s0
      else
        if inb x4 8 = true then
        c_Door_left_J37 F k5 x1 (x2 * (((16 : Int32) - (s0.1 33 (x4).toNatClampNeg)).toInt64)) x4 s0
        else none
def c_Door_left_L5 (F : Nat)  : Nat → Int32 → Int64 → Int32 → St → Option (Int64 × St) := lp (fun _ _ _ _ => none) (c_Door_left_L5b F )
def c_Door_left (F : Nat) (a1 : Int32) (s0 : St) : Option (Int64 × St) :=
  c_Door_left_L5 F F a1 (1 : Int64) (0 : Int32) s0
def c_Integer_bitCount (F : Nat) (a0 : Int32) (s0 : St) : Option (Int32 × St) :=
  some ((((((((a0 - ((((a0).toUInt32 >>> (((1 : Int32)).toUInt32 &&& Int32.toUInt32 31)).toInt32) &&& (1431655765 : Int32))) &&& (858993459 : Int32)) + ((((a0 - ((((a0).toUInt32 >>> (((1 : Int32)).toUInt32 &&& Int32.toUInt32 31)).toInt32) &&& (1431655765 : Int32))).toUInt32 >>> (((2 : Int32)).toUInt32 &&& Int32.toUInt32 31)).toInt32) &&& (858993459 : Int32))) + (((((a0 - ((((a0).toUInt32 >>> (((1 : Int32)).toUInt32 &&& Int32.toUInt32 31)).toInt32) &&& (1431655765 : Int32))) &&& (858993459 : Int32)) + ((((a0 - ((((a0).toUInt32 >>> (((1 : Int32)).toUInt32 &&& Int32.toUInt32 31)).toInt32) &&& (1431655765 : Int32))).toUInt32 >>> (((2 : Int32)).toUInt32 &&& Int32.toUInt32 31)).toInt32) &&& (858993459 : Int32))).toUInt32 >>> (((4 : Int32)).toUInt32 &&& Int32.toUInt32 31)).toInt32)) &&& (252645135 : Int32)) + (((((((a0 - ((((a0).toUInt32 >>> (((1 : Int32)).toUInt32 &&& Int32.toUInt32 31)).toInt32) &&& (1431655765 : Int32))) &&& (858993459 : Int32)) + ((((a0 - ((((a0).toUInt32 >>> (((1 : Int32)).toUInt32 &&& Int32.toUInt32 31)).toInt32) &&& (1431655765 : Int32))).toUInt32 >>> (((2 : Int32)).toUInt32 &&& Int32.toUInt32 31)).toInt32) &&& (858993459 : Int32))) + (((((a0 - ((((a0).toUInt32 >>> (((1 : Int32)).toUInt32 &&& Int32.toUInt32 31)).toInt32) &&& (1431655765 : Int32))) &&& (858993459 : Int32)) + ((((a0 - ((((a0).toUInt32 >>> (((1 : Int32)).toUInt32 &&& Int32.toUInt32 31)).toInt32) &&& (1431655765 : Int32))).toUInt32 >>> (((2 : Int32)).toUInt32 &&& Int32.toUInt32 31)).toInt32) &&& (858993459 : Int32))).toUInt32 >>> (((4 : Int32)).toUInt32 &&& Int32.toUInt32 31)).toInt32)) &&& (252645135 : Int32)).toUInt32 >>> (((8 : Int32)).toUInt32 &&& Int32.toUInt32 31)).toInt32)) + ((((((((a0 - ((((a0).toUInt32 >>> (((1 : Int32)).toUInt32 &&& Int32.toUInt32 31)).toInt32) &&& (1431655765 : Int32))) &&& (858993459 : Int32)) + ((((a0 - ((((a0).toUInt32 >>> (((1 : Int32)).toUInt32 &&& Int32.toUInt32 31)).toInt32) &&& (1431655765 : Int32))).toUInt32 >>> (((2 : Int32)).toUInt32 &&& Int32.toUInt32 31)).toInt32) &&& (858993459 : Int32))) + (((((a0 - ((((a0).toUInt32 >>> (((1 : Int32)).toUInt32 &&& Int32.toUInt32 31)).toInt32) &&& (1431655765 : Int32))) &&& (858993459 : Int32)) + ((((a0 - ((((a0).toUInt32 >>> (((1 : Int32)).toUInt32 &&& Int32.toUInt32 31)).toInt32) &&& (1431655765 : Int32))).toUInt32 >>> (((2 : Int32)).toUInt32 &&& Int32.toUInt32 31)).toInt32) &&& (858993459 : Int32))).toUInt32 >>> (((4 : Int32)).toUInt32 &&& Int32.toUInt32 31)).toInt32)) &&& (252645135 : Int32)) + (((((((a0 - ((((a0).toUInt32 >>> (((1 : Int32)).toUInt32 &&& Int32.toUInt32 31)).toInt32) &&& (1431655765 : Int32))) &&& (858993459 : Int32)) + ((((a0 - ((((a0).toUInt32 >>> (((1 : Int32)).toUInt32 &&& Int32.toUInt32 31)).toInt32) &&& (1431655765 : Int32))).toUInt32 >>> (((2 : Int32)).toUInt32 &&& Int32.toUInt32 31)).toInt32) &&& (858993459 : Int32))) + (((((a0 - ((((a0).toUInt32 >>> (((1 : Int32)).toUInt32 &&& Int32.toUInt32 31)).toInt32) &&& (1431655765 : Int32))) &&& (858993459 : Int32)) + ((((a0 - ((((a0).toUInt32 >>> (((1 : Int32)).toUInt32 &&& Int32.toUInt32 31)).toInt32) &&& (1431655765 : Int32))).toUInt32 >>> (((2 : Int32)).toUInt32 &&& Int32.toUInt32 31)).toInt32) &&& (858993459 : Int32))).toUInt32 >>> (((4 : Int32)).toUInt32 &&& Int32.toUInt32 31)).toInt32)) &&& (252645135 : Int32)).toUInt32 >>> (((8 : Int32)).toUInt32 &&& Int32.toUInt32 31)).toInt32)).toUInt32 >>> (((16 : Int32)).toUInt32 &&& Int32.toUInt32 31)).toInt32)) &&& (63 : Int32), s0)
def c_Door_whole (F : Nat) (a1 : Int32) (s0 : St) : Option (Int64 × St) :=
  gB2 (c_Integer_bitCount F a1 s0) fun r1 s1 =>
  some (((1 : Int64)) <<< (((4 : Int32) * r1).toInt64 &&& 63), s1)
def c_leaves_J21 (F : Nat)   (s0 : St) : Option (Int64 × St) :=
    gB2 (c_refuse F (-1 : Int32) s0) fun r1 s1 =>
    some ((r1).toInt64, s1)
def c_leaves (F : Nat) (a1 : Int32) (a2 : Int32) (s0 : St) : Option (Int64 × St) :=
  gB2 (c_Door_isSet F a1 s0) fun r2 s2 =>
  if r2 = 0 then
    c_leaves_J21 F s2
  else
    gB2 (c_isPart F a2 s2) fun r3 s3 =>
    if r3 = 0 then
      c_leaves_J21 F s3
    else
      gB2 (c_Door_left F a1 s3) fun r4 s4 =>
      gB2 (c_Door_whole F a1 s4) fun r5 s5 =>
      gB2 (c_lowest F r4 r5 a2 s5) fun r6 s6 =>
      some (r6, s6)
def c_Door_shutIn_J29 (F : Nat) (k4 : Int32 → Int32 → Int32 → St → Option (Int32 × St)) (x1 : Int32) (x2 : Int32) (x3 : Int32) (s0 : St) : Option (Int32 × St) :=
    k4 x1 x2 (x3 + (1 : Int32)) s0
def c_Door_shutIn_L4b (F : Nat)  (k4 : Int32 → Int32 → Int32 → St → Option (Int32 × St)) (x1 : Int32) (x2 : Int32) (x3 : Int32) (s0 : St) : Option (Int32 × St) :=
    if (s0.1 32 2) ≤ x3 then
      some (x2, s0)
    else
      if (x1 &&& ((1 : Int32) <<< (x3 &&& 31))) = 0 then
        c_Door_shutIn_J29 F k4 x1 x2 x3 s0
      else
        if inb x3 8 = true then
        c_Door_shutIn_J29 F k4 x1 (x2 + (s0.1 34 (x3).toNatClampNeg)) x3 s0
        else none
def c_Door_shutIn_L4 (F : Nat)  : Nat → Int32 → Int32 → Int32 → St → Option (Int32 × St) := lp (fun _ _ _ _ => none) (c_Door_shutIn_L4b F )
def c_Door_shutIn (F : Nat) (a1 : Int32) (s0 : St) : Option (Int32 × St) :=
  c_Door_shutIn_L4 F F a1 (0 : Int32) (0 : Int32) s0
def c_Door_mildest_J57 (F : Nat) (k4 : Int32 → Int32 → Int32 → St → Option (Int32 × St)) (x1 : Int32) (x2 : Int32) (x3 : Int32) (s0 : St) : Option (Int32 × St) :=
    k4 x1 x2 (x3 + (1 : Int32)) s0
def c_Door_mildest_J55 (F : Nat) (k4 : Int32 → Int32 → Int32 → St → Option (Int32 × St)) (x1 : Int32) (x3 : Int32) (s0 : St) : Option (Int32 × St) :=
    c_Door_mildest_J57 F k4 x1 x3 x3 s0
def c_Door_mildest_L4b (F : Nat)  (k4 : Int32 → Int32 → Int32 → St → Option (Int32 × St)) (x1 : Int32) (x2 : Int32) (x3 : Int32) (s0 : St) : Option (Int32 × St) :=
    if ((1 : Int32) <<< ((s0.1 32 2) &&& 31)) ≤ x3 then
      some (x2, s0)
    else
      gB2 (c_Door_left F x3 s0) fun r1 s1 =>
      gB2 (c_Door_whole F x3 s1) fun r2 s2 =>
      if (lg_cmp (r1 * (16 : Int64)) (r2 * ((x1).toInt64))) ≤ 0 then
        if x2 < 0 then
          c_Door_mildest_J55 F k4 x1 x3 s2
        else
          gB2 (c_Door_shutIn F x3 s2) fun r3 s3 =>
          gB2 (c_Door_shutIn F x2 s3) fun r4 s4 =>
          if r4 ≤ r3 then
            c_Door_mildest_J57 F k4 x1 x2 x3 s4
          else
            c_Door_mildest_J55 F k4 x1 x3 s4
      else
        c_Door_mildest_J57 F k4 x1 x2 x3 s2
def c_Door_mildest_L4 (F : Nat)  : Nat → Int32 → Int32 → Int32 → St → Option (Int32 × St) := lp (fun _ _ _ _ => none) (c_Door_mildest_L4b F )
def c_Door_mildest (F : Nat) (a1 : Int32) (s0 : St) : Option (Int32 × St) :=
  c_Door_mildest_L4 F F a1 (-1 : Int32) (0 : Int32) s0
def c_least_J19 (F : Nat)   (s0 : St) : Option (Int32 × St) :=
    gB2 (c_refuse F (-1 : Int32) s0) fun r1 s1 =>
    some (r1, s1)
def c_least (F : Nat) (a1 : Int32) (a2 : Int32) (s0 : St) : Option (Int32 × St) :=
  gB2 (c_isIn F a1 (0 : Int32) (16 : Int32) s0) fun r2 s2 =>
  if r2 = 0 then
    c_least_J19 F s2
  else
    gB2 (c_isIn F a2 (0 : Int32) (1 : Int32) s2) fun r3 s3 =>
    if r3 = 0 then
      c_least_J19 F s3
    else
      gB2 (c_Door_mildest F a1 s3) fun r4 s4 =>
      if 0 ≤ r4 then
        if a2 = 0 then
          some (r4, s4)
        else
          gB2 (c_Door_shutIn F r4 s4) fun r5 s5 =>
          some (r5, s5)
      else
        gB2 (c_refuse F (-4 : Int32) s4) fun r6 s6 =>
        some (r6, s6)
def c_Net_findHouses_J51 (F : Nat) (k7 : Int32 → St → Option St) (x2 : Int32) (s0 : St) : Option St :=
    k7 (x2 + (1 : Int32)) s0
def c_Net_findHouses_L7b (F : Nat)  (k7 : Int32 → St → Option St) (x2 : Int32) (s0 : St) : Option St :=
    if (144 : Int32) ≤ x2 then
      some s0
    else
      if (10 : Int32) ≤ (s0.1 69 1) then
        some s0
      else
        if inb x2 144 = true then
        if (s0.1 3 (x2).toNatClampNeg) = (7 : Int32) then
          if inb (s0.1 69 1) 10 = true then
          c_Net_findHouses_J51 F k7 x2 (sI (sI s0 69 1 ((s0.1 69 1) + (1 : Int32))) 70 (s0.1 69 1).toNatClampNeg x2)
          else none
        else
          c_Net_findHouses_J51 F k7 x2 s0
        else none
def c_Net_findHouses_L7 (F : Nat)  : Nat → Int32 → St → Option St := lp (fun _ _ => none) (c_Net_findHouses_L7b F )
def c_Net_findHouses (F : Nat)  (s0 : St) : Option St :=
  c_Net_findHouses_L7 F F (0 : Int32) (sI s0 69 1 (0 : Int32))
def c_Land_neighbour_J51 (F : Nat)   (s0 : St) : Option (Int32 × St) :=
    some ((-1 : Int32), s0)
def c_Land_neighbour (F : Nat) (a0 : Int32) (a1 : Int32) (s0 : St) : Option (Int32 × St) :=
  gB2 (c_isIn F (((a0 / (12 : Int32)) + (a1 / (3 : Int32))) - (1 : Int32)) (0 : Int32) (11 : Int32) s0) fun r1 s1 =>
  if r1 = 0 then
    c_Land_neighbour_J51 F s1
  else
    gB2 (c_isIn F (((a0 - a0 / (12 : Int32) * (12 : Int32)) + (a1 - a1 / (3 : Int32) * (3 : Int32))) - (1 : Int32)) (0 : Int32) (11 : Int32) s1) fun r2 s2 =>
    if r2 = 0 then
      c_Land_neighbour_J51 F s2
    else
      some (((((a0 / (12 : Int32)) + (a1 / (3 : Int32))) - (1 : Int32)) * (12 : Int32)) + (((a0 - a0 / (12 : Int32) * (12 : Int32)) + (a1 - a1 / (3 : Int32) * (3 : Int32))) - (1 : Int32)), s2)
def c_Net_hear_J49 (F : Nat) (k5 : Int32 → Int64 → Int32 → St → Option (Int64 × St)) (x2 : Int32) (x3 : Int64) (x5 : Int32) (s0 : St) : Option (Int64 × St) :=
    k5 x2 x3 (x5 + (1 : Int32)) s0
def c_Net_hear_L5b (F : Nat)  (k5 : Int32 → Int64 → Int32 → St → Option (Int64 × St)) (x2 : Int32) (x3 : Int64) (x5 : Int32) (s0 : St) : Option (Int64 × St) :=
    if (9 : Int32) ≤ x5 then
      some (x3, s0)
    else
      gB2 (c_Land_neighbour F x2 x5 s0) fun r1 s1 =>
      if r1 < 0 then
        c_Net_hear_J49 F k5 x2 x3 x5 s1
      else
        if inb r1 144 = true then
        if inb r1 144 = true then
        if (s1.1 71 (r1).toNatClampNeg) = 0 then
          gB2 (c_Night_together F r1 (sI s1 71 (r1).toNatClampNeg ((s1.1 71 (r1).toNatClampNeg) + (1 : Int32)))) fun r2 s2 =>
          c_Net_hear_J49 F k5 x2 (x3 + r2) x5 s2
        else
          c_Net_hear_J49 F k5 x2 x3 x5 (sI s1 71 (r1).toNatClampNeg ((s1.1 71 (r1).toNatClampNeg) + (1 : Int32)))
        else none
        else none
def c_Net_hear_L5 (F : Nat)  : Nat → Int32 → Int64 → Int32 → St → Option (Int64 × St) := lp (fun _ _ _ _ => none) (c_Net_hear_L5b F )
def c_Net_hear (F : Nat) (a2 : Int32) (s0 : St) : Option (Int64 × St) :=
  c_Net_hear_L5 F F a2 (0 : Int64) (0 : Int32) s0
def c_Net_forget_J28 (F : Nat) (k2 : Int32 → Int32 → St → Option St) (x1 : Int32) (x2 : Int32) (s0 : St) : Option St :=
    k2 x1 (x2 + (1 : Int32)) s0
def c_Net_forget_L2b (F : Nat)  (k2 : Int32 → Int32 → St → Option St) (x1 : Int32) (x2 : Int32) (s0 : St) : Option St :=
    if (9 : Int32) ≤ x2 then
      some s0
    else
      gB2 (c_Land_neighbour F x1 x2 s0) fun r1 s1 =>
      if r1 < 0 then
        c_Net_forget_J28 F k2 x1 x2 s1
      else
        if inb r1 144 = true then
        if inb r1 144 = true then
        c_Net_forget_J28 F k2 x1 x2 (sI s1 71 (r1).toNatClampNeg ((s1.1 71 (r1).toNatClampNeg) - (1 : Int32)))
        else none
        else none
def c_Net_forget_L2 (F : Nat)  : Nat → Int32 → Int32 → St → Option St := lp (fun _ _ _ => none) (c_Net_forget_L2b F )
def c_Net_forget (F : Nat) (a1 : Int32) (s0 : St) : Option St :=
  c_Net_forget_L2 F F a1 (0 : Int32) s0
def c_Net_tell_L42b (F : Nat) (self : Int32 → Int32 → Int64 → St → Option St)  (k42 : Int32 → Int64 → Int32 → St → Option St) (x2 : Int32) (x4 : Int64) (x6 : Int32) (s0 : St) : Option St :=
    if (s0.1 69 1) ≤ x6 then
      some s0
    else
      if inb x6 10 = true then
      if inb x2 4 = true then
      if inb x6 10 = true then
      gB2 (c_Net_hear F ((sI s0 72 (x2).toNatClampNeg (s0.1 70 (x6).toNatClampNeg)).1 70 (x6).toNatClampNeg) (sI s0 72 (x2).toNatClampNeg (s0.1 70 (x6).toNatClampNeg))) fun r1 s1 =>
      gB (self (x2 + (1 : Int32)) (x6 + (1 : Int32)) (x4 + r1) s1) fun s2 =>
      if inb x6 10 = true then
      gB (c_Net_forget F (s2.1 70 (x6).toNatClampNeg) s2) fun s3 =>
      k42 x2 x4 (x6 + (1 : Int32)) s3
      else none
      else none
      else none
      else none
def c_Net_tell_L42 (F : Nat) (self : Int32 → Int32 → Int64 → St → Option St)  : Nat → Int32 → Int64 → Int32 → St → Option St := lp (fun _ _ _ _ => none) (c_Net_tell_L42b F self )
def c_Net_tell_b (F : Nat) (self : Int32 → Int32 → Int64 → St → Option St) (a2 : Int32) (a3 : Int32) (a4 : Int64) (s0 : St) : Option St :=
  if a2 < (s0.1 69 4) then
    c_Net_tell_L42 F self F a2 a4 a3 s0
  else
    if (lg_cmp a4 (s0.2 69 6)) ≤ 0 then
      some s0
    else
      if ¬ (0 : Int32) < 0 ∧ ¬ (0 : Int32) < 0 ∧ ¬ (4 : Int32) < 0 ∧ ((0 : Int32)).toNatClampNeg + ((4 : Int32)).toNatClampNeg ≤ 4 ∧ ((0 : Int32)).toNatClampNeg + ((4 : Int32)).toNatClampNeg ≤ 4 then
      some (cpI (sJ s0 69 6 a4) 72 73 ((0 : Int32)).toNatClampNeg ((0 : Int32)).toNatClampNeg ((4 : Int32)).toNatClampNeg)
      else none
def c_Net_tell (F : Nat) : Nat → Int32 → Int32 → Int64 → St → Option St := lp (fun _ _ _ _ => none) (c_Net_tell_b F)
def c_Net_choose (F : Nat) (a2 : Int32) (s0 : St) : Option St :=
  gB (c_Net_findHouses F s0) fun s1 =>
  gB (c_Net_tell F 5 (0 : Int32) (0 : Int32) (0 : Int64) (sJ (sI s1 69 4 (gMmin a2 (4 : Int32))) 69 6 (-1 : Int64))) fun s2 =>
  some s2
def c_net_J20 (F : Nat)   (s0 : St) : Option (Int64 × St) :=
    gB2 (c_refuse F (-1 : Int32) s0) fun r1 s1 =>
    some ((r1).toInt64, s1)
def c_net (F : Nat) (a1 : Int32) (a2 : Int32) (s0 : St) : Option (Int64 × St) :=
  gB2 (c_isIn F a1 (1 : Int32) (4 : Int32) s0) fun r2 s2 =>
  if r2 = 0 then
    c_net_J20 F s2
  else
    gB2 (c_isIn F a2 (-1 : Int32) (a1 - (1 : Int32)) s2) fun r3 s3 =>
    if r3 = 0 then
      c_net_J20 F s3
    else
      gB2 (c_Land_cellsOf F (7 : Int32) s3) fun r4 s4 =>
      if a1 ≤ r4 then
        gB (c_Net_choose F a1 s4) fun s5 =>
        if 0 ≤ a2 then
          if inb a2 4 = true then
          some ((s5.1 73 (a2).toNatClampNeg).toInt64, s5)
          else none
        else
          some (s5.2 69 6, s5)
      else
        gB2 (c_refuse F (-4 : Int32) s4) fun r6 s6 =>
        some ((r6).toInt64, s6)
def c_Teams_empty (F : Nat)  (s0 : St) : Option (Int32 × St) :=
  some ((s0.1 14 7) + (s0.1 14 8), (sI (sI s0 14 7 (0 : Int32)) 14 8 (0 : Int32)))
def c_Jobs_empty (F : Nat)  (s0 : St) : Option (Int32 × St) :=
  some (s0.1 22 5, (sI s0 22 5 (0 : Int32)))
def c_Door_empty (F : Nat)  (s0 : St) : Option (Int32 × St) :=
  some (s0.1 32 2, (sI s0 32 2 (0 : Int32)))
def c_Book_empty (F : Nat)  (s0 : St) : Option (Int32 × St) :=
  some (s0.1 28 3, (sI s0 28 3 (0 : Int32)))
def c_clear (F : Nat)  (s0 : St) : Option (Int32 × St) :=
  gB2 (c_Teams_empty F s0) fun r1 s1 =>
  gB2 (c_Jobs_empty F s1) fun r2 s2 =>
  gB2 (c_Door_empty F s2) fun r3 s3 =>
  gB2 (c_Book_empty F s3) fun r4 s4 =>
  some (((r1 + r2) + r3) + r4, s4)
def c_Land_become (F : Nat)  (s0 : St) : Option St :=
  if ¬ (0 : Int32) < 0 ∧ ¬ (0 : Int32) < 0 ∧ ¬ (144 : Int32) < 0 ∧ ((0 : Int32)).toNatClampNeg + ((144 : Int32)).toNatClampNeg ≤ 144 ∧ ((0 : Int32)).toNatClampNeg + ((144 : Int32)).toNatClampNeg ≤ 144 then
  if ¬ (0 : Int32) < 0 ∧ ¬ (0 : Int32) < 0 ∧ ¬ (144 : Int32) < 0 ∧ ((0 : Int32)).toNatClampNeg + ((144 : Int32)).toNatClampNeg ≤ 144 ∧ ((0 : Int32)).toNatClampNeg + ((144 : Int32)).toNatClampNeg ≤ 144 then
  if ¬ (0 : Int32) < 0 ∧ ¬ (0 : Int32) < 0 ∧ ¬ (144 : Int32) < 0 ∧ ((0 : Int32)).toNatClampNeg + ((144 : Int32)).toNatClampNeg ≤ 144 ∧ ((0 : Int32)).toNatClampNeg + ((144 : Int32)).toNatClampNeg ≤ 144 then
  some (cpI (cpI (cpI s0 3 37 ((0 : Int32)).toNatClampNeg ((0 : Int32)).toNatClampNeg ((144 : Int32)).toNatClampNeg) 4 38 ((0 : Int32)).toNatClampNeg ((0 : Int32)).toNatClampNeg ((144 : Int32)).toNatClampNeg) 5 39 ((0 : Int32)).toNatClampNeg ((0 : Int32)).toNatClampNeg ((144 : Int32)).toNatClampNeg)
  else none
  else none
  else none
def c_Law_become (F : Nat)  (s0 : St) : Option St :=
  if ¬ (0 : Int32) < 0 ∧ ¬ (0 : Int32) < 0 ∧ ¬ (10 : Int32) < 0 ∧ ((0 : Int32)).toNatClampNeg + ((10 : Int32)).toNatClampNeg ≤ 10 ∧ ((0 : Int32)).toNatClampNeg + ((10 : Int32)).toNatClampNeg ≤ 10 then
  if ¬ (0 : Int32) < 0 ∧ ¬ (0 : Int32) < 0 ∧ ¬ (8 : Int32) < 0 ∧ ((0 : Int32)).toNatClampNeg + ((8 : Int32)).toNatClampNeg ≤ 8 ∧ ((0 : Int32)).toNatClampNeg + ((8 : Int32)).toNatClampNeg ≤ 8 then
  some (cpI (cpI s0 7 41 ((0 : Int32)).toNatClampNeg ((0 : Int32)).toNatClampNeg ((10 : Int32)).toNatClampNeg) 8 42 ((0 : Int32)).toNatClampNeg ((0 : Int32)).toNatClampNeg ((8 : Int32)).toNatClampNeg)
  else none
  else none
def c_Night_become (F : Nat)  (s0 : St) : Option St :=
  if ¬ (0 : Int32) < 0 ∧ ¬ (0 : Int32) < 0 ∧ ¬ (576 : Int32) < 0 ∧ ((0 : Int32)).toNatClampNeg + ((576 : Int32)).toNatClampNeg ≤ 576 ∧ ((0 : Int32)).toNatClampNeg + ((576 : Int32)).toNatClampNeg ≤ 576 then
  if ¬ (0 : Int32) < 0 ∧ ¬ (0 : Int32) < 0 ∧ ¬ (144 : Int32) < 0 ∧ ((0 : Int32)).toNatClampNeg + ((144 : Int32)).toNatClampNeg ≤ 144 ∧ ((0 : Int32)).toNatClampNeg + ((144 : Int32)).toNatClampNeg ≤ 144 then
  some (sI (cpJ (cpJ s0 10 44 ((0 : Int32)).toNatClampNeg ((0 : Int32)).toNatClampNeg ((576 : Int32)).toNatClampNeg) 11 45 ((0 : Int32)).toNatClampNeg ((0 : Int32)).toNatClampNeg ((144 : Int32)).toNatClampNeg) 43 4 ((cpJ (cpJ s0 10 44 ((0 : Int32)).toNatClampNeg ((0 : Int32)).toNatClampNeg ((576 : Int32)).toNatClampNeg) 11 45 ((0 : Int32)).toNatClampNeg ((0 : Int32)).toNatClampNeg ((144 : Int32)).toNatClampNeg).1 9 4))
  else none
  else none
def c_Teams_become (F : Nat)  (s0 : St) : Option St :=
  if ¬ (0 : Int32) < 0 ∧ ¬ (0 : Int32) < 0 ∧ ¬ (4 : Int32) < 0 ∧ ((0 : Int32)).toNatClampNeg + ((4 : Int32)).toNatClampNeg ≤ 4 ∧ ((0 : Int32)).toNatClampNeg + ((4 : Int32)).toNatClampNeg ≤ 4 then
  if ¬ (0 : Int32) < 0 ∧ ¬ (0 : Int32) < 0 ∧ ¬ (4 : Int32) < 0 ∧ ((0 : Int32)).toNatClampNeg + ((4 : Int32)).toNatClampNeg ≤ 4 ∧ ((0 : Int32)).toNatClampNeg + ((4 : Int32)).toNatClampNeg ≤ 4 then
  if ¬ (0 : Int32) < 0 ∧ ¬ (0 : Int32) < 0 ∧ ¬ (4 : Int32) < 0 ∧ ((0 : Int32)).toNatClampNeg + ((4 : Int32)).toNatClampNeg ≤ 4 ∧ ((0 : Int32)).toNatClampNeg + ((4 : Int32)).toNatClampNeg ≤ 4 then
  if ¬ (0 : Int32) < 0 ∧ ¬ (0 : Int32) < 0 ∧ ¬ (6 : Int32) < 0 ∧ ((0 : Int32)).toNatClampNeg + ((6 : Int32)).toNatClampNeg ≤ 6 ∧ ((0 : Int32)).toNatClampNeg + ((6 : Int32)).toNatClampNeg ≤ 6 then
  some (sI (sI (cpI (cpI (cpI (cpI s0 15 49 ((0 : Int32)).toNatClampNeg ((0 : Int32)).toNatClampNeg ((4 : Int32)).toNatClampNeg) 16 50 ((0 : Int32)).toNatClampNeg ((0 : Int32)).toNatClampNeg ((4 : Int32)).toNatClampNeg) 17 51 ((0 : Int32)).toNatClampNeg ((0 : Int32)).toNatClampNeg ((4 : Int32)).toNatClampNeg) 18 52 ((0 : Int32)).toNatClampNeg ((0 : Int32)).toNatClampNeg ((6 : Int32)).toNatClampNeg) 48 7 ((cpI (cpI (cpI (cpI s0 15 49 ((0 : Int32)).toNatClampNeg ((0 : Int32)).toNatClampNeg ((4 : Int32)).toNatClampNeg) 16 50 ((0 : Int32)).toNatClampNeg ((0 : Int32)).toNatClampNeg ((4 : Int32)).toNatClampNeg) 17 51 ((0 : Int32)).toNatClampNeg ((0 : Int32)).toNatClampNeg ((4 : Int32)).toNatClampNeg) 18 52 ((0 : Int32)).toNatClampNeg ((0 : Int32)).toNatClampNeg ((6 : Int32)).toNatClampNeg).1 14 7)) 48 8 ((sI (cpI (cpI (cpI (cpI s0 15 49 ((0 : Int32)).toNatClampNeg ((0 : Int32)).toNatClampNeg ((4 : Int32)).toNatClampNeg) 16 50 ((0 : Int32)).toNatClampNeg ((0 : Int32)).toNatClampNeg ((4 : Int32)).toNatClampNeg) 17 51 ((0 : Int32)).toNatClampNeg ((0 : Int32)).toNatClampNeg ((4 : Int32)).toNatClampNeg) 18 52 ((0 : Int32)).toNatClampNeg ((0 : Int32)).toNatClampNeg ((6 : Int32)).toNatClampNeg) 48 7 ((cpI (cpI (cpI (cpI s0 15 49 ((0 : Int32)).toNatClampNeg ((0 : Int32)).toNatClampNeg ((4 : Int32)).toNatClampNeg) 16 50 ((0 : Int32)).toNatClampNeg ((0 : Int32)).toNatClampNeg ((4 : Int32)).toNatClampNeg) 17 51 ((0 : Int32)).toNatClampNeg ((0 : Int32)).toNatClampNeg ((4 : Int32)).toNatClampNeg) 18 52 ((0 : Int32)).toNatClampNeg ((0 : Int32)).toNatClampNeg ((6 : Int32)).toNatClampNeg).1 14 7)).1 14 8))
  else none
  else none
  else none
  else none
def c_Jobs_become (F : Nat)  (s0 : St) : Option St :=
  if ¬ (0 : Int32) < 0 ∧ ¬ (0 : Int32) < 0 ∧ ¬ (6 : Int32) < 0 ∧ ((0 : Int32)).toNatClampNeg + ((6 : Int32)).toNatClampNeg ≤ 6 ∧ ((0 : Int32)).toNatClampNeg + ((6 : Int32)).toNatClampNeg ≤ 6 then
  if ¬ (0 : Int32) < 0 ∧ ¬ (0 : Int32) < 0 ∧ ¬ (6 : Int32) < 0 ∧ ((0 : Int32)).toNatClampNeg + ((6 : Int32)).toNatClampNeg ≤ 6 ∧ ((0 : Int32)).toNatClampNeg + ((6 : Int32)).toNatClampNeg ≤ 6 then
  if ¬ (0 : Int32) < 0 ∧ ¬ (0 : Int32) < 0 ∧ ¬ (6 : Int32) < 0 ∧ ((0 : Int32)).toNatClampNeg + ((6 : Int32)).toNatClampNeg ≤ 6 ∧ ((0 : Int32)).toNatClampNeg + ((6 : Int32)).toNatClampNeg ≤ 6 then
  some (sI (cpI (cpI (cpI s0 23 57 ((0 : Int32)).toNatClampNeg ((0 : Int32)).toNatClampNeg ((6 : Int32)).toNatClampNeg) 24 58 ((0 : Int32)).toNatClampNeg ((0 : Int32)).toNatClampNeg ((6 : Int32)).toNatClampNeg) 25 59 ((0 : Int32)).toNatClampNeg ((0 : Int32)).toNatClampNeg ((6 : Int32)).toNatClampNeg) 56 5 ((cpI (cpI (cpI s0 23 57 ((0 : Int32)).toNatClampNeg ((0 : Int32)).toNatClampNeg ((6 : Int32)).toNatClampNeg) 24 58 ((0 : Int32)).toNatClampNeg ((0 : Int32)).toNatClampNeg ((6 : Int32)).toNatClampNeg) 25 59 ((0 : Int32)).toNatClampNeg ((0 : Int32)).toNatClampNeg ((6 : Int32)).toNatClampNeg).1 22 5))
  else none
  else none
  else none
def c_Book_become (F : Nat)  (s0 : St) : Option St :=
  if ¬ (0 : Int32) < 0 ∧ ¬ (0 : Int32) < 0 ∧ ¬ (60 : Int32) < 0 ∧ ((0 : Int32)).toNatClampNeg + ((60 : Int32)).toNatClampNeg ≤ 60 ∧ ((0 : Int32)).toNatClampNeg + ((60 : Int32)).toNatClampNeg ≤ 60 then
  if ¬ (0 : Int32) < 0 ∧ ¬ (0 : Int32) < 0 ∧ ¬ (60 : Int32) < 0 ∧ ((0 : Int32)).toNatClampNeg + ((60 : Int32)).toNatClampNeg ≤ 60 ∧ ((0 : Int32)).toNatClampNeg + ((60 : Int32)).toNatClampNeg ≤ 60 then
  if ¬ (0 : Int32) < 0 ∧ ¬ (0 : Int32) < 0 ∧ ¬ (60 : Int32) < 0 ∧ ((0 : Int32)).toNatClampNeg + ((60 : Int32)).toNatClampNeg ≤ 60 ∧ ((0 : Int32)).toNatClampNeg + ((60 : Int32)).toNatClampNeg ≤ 60 then
  some (sI (cpI (cpI (cpI s0 29 63 ((0 : Int32)).toNatClampNeg ((0 : Int32)).toNatClampNeg ((60 : Int32)).toNatClampNeg) 30 64 ((0 : Int32)).toNatClampNeg ((0 : Int32)).toNatClampNeg ((60 : Int32)).toNatClampNeg) 31 65 ((0 : Int32)).toNatClampNeg ((0 : Int32)).toNatClampNeg ((60 : Int32)).toNatClampNeg) 62 3 ((cpI (cpI (cpI s0 29 63 ((0 : Int32)).toNatClampNeg ((0 : Int32)).toNatClampNeg ((60 : Int32)).toNatClampNeg) 30 64 ((0 : Int32)).toNatClampNeg ((0 : Int32)).toNatClampNeg ((60 : Int32)).toNatClampNeg) 31 65 ((0 : Int32)).toNatClampNeg ((0 : Int32)).toNatClampNeg ((60 : Int32)).toNatClampNeg).1 28 3))
  else none
  else none
  else none
def c_Door_become (F : Nat)  (s0 : St) : Option St :=
  if ¬ (0 : Int32) < 0 ∧ ¬ (0 : Int32) < 0 ∧ ¬ (8 : Int32) < 0 ∧ ((0 : Int32)).toNatClampNeg + ((8 : Int32)).toNatClampNeg ≤ 8 ∧ ((0 : Int32)).toNatClampNeg + ((8 : Int32)).toNatClampNeg ≤ 8 then
  if ¬ (0 : Int32) < 0 ∧ ¬ (0 : Int32) < 0 ∧ ¬ (8 : Int32) < 0 ∧ ((0 : Int32)).toNatClampNeg + ((8 : Int32)).toNatClampNeg ≤ 8 ∧ ((0 : Int32)).toNatClampNeg + ((8 : Int32)).toNatClampNeg ≤ 8 then
  some (sI (cpI (cpI s0 33 67 ((0 : Int32)).toNatClampNeg ((0 : Int32)).toNatClampNeg ((8 : Int32)).toNatClampNeg) 34 68 ((0 : Int32)).toNatClampNeg ((0 : Int32)).toNatClampNeg ((8 : Int32)).toNatClampNeg) 66 2 ((cpI (cpI s0 33 67 ((0 : Int32)).toNatClampNeg ((0 : Int32)).toNatClampNeg ((8 : Int32)).toNatClampNeg) 34 68 ((0 : Int32)).toNatClampNeg ((0 : Int32)).toNatClampNeg ((8 : Int32)).toNatClampNeg).1 32 2))
  else none
  else none
def c_State_become (F : Nat)  (s0 : St) : Option St :=
  gB (c_Land_become F s0) fun s1 =>
  gB (c_Law_become F s1) fun s2 =>
  gB (c_Night_become F s2) fun s3 =>
  gB (c_Teams_become F s3) fun s4 =>
  gB (c_Jobs_become F s4) fun s5 =>
  gB (c_Book_become F s5) fun s6 =>
  gB (c_Door_become F s6) fun s7 =>
  some s7
def c_image (F : Nat)  (s0 : St) : Option (Int32 × St) :=
  gB (c_State_become F s0) fun s1 =>
  some ((1 : Int32), (sI s1 0 6 (1 : Int32)))
def c_Land_become_v1 (F : Nat)  (s0 : St) : Option St :=
  if ¬ (0 : Int32) < 0 ∧ ¬ (0 : Int32) < 0 ∧ ¬ (144 : Int32) < 0 ∧ ((0 : Int32)).toNatClampNeg + ((144 : Int32)).toNatClampNeg ≤ 144 ∧ ((0 : Int32)).toNatClampNeg + ((144 : Int32)).toNatClampNeg ≤ 144 then
  if ¬ (0 : Int32) < 0 ∧ ¬ (0 : Int32) < 0 ∧ ¬ (144 : Int32) < 0 ∧ ((0 : Int32)).toNatClampNeg + ((144 : Int32)).toNatClampNeg ≤ 144 ∧ ((0 : Int32)).toNatClampNeg + ((144 : Int32)).toNatClampNeg ≤ 144 then
  if ¬ (0 : Int32) < 0 ∧ ¬ (0 : Int32) < 0 ∧ ¬ (144 : Int32) < 0 ∧ ((0 : Int32)).toNatClampNeg + ((144 : Int32)).toNatClampNeg ≤ 144 ∧ ((0 : Int32)).toNatClampNeg + ((144 : Int32)).toNatClampNeg ≤ 144 then
  some (cpI (cpI (cpI s0 37 3 ((0 : Int32)).toNatClampNeg ((0 : Int32)).toNatClampNeg ((144 : Int32)).toNatClampNeg) 38 4 ((0 : Int32)).toNatClampNeg ((0 : Int32)).toNatClampNeg ((144 : Int32)).toNatClampNeg) 39 5 ((0 : Int32)).toNatClampNeg ((0 : Int32)).toNatClampNeg ((144 : Int32)).toNatClampNeg)
  else none
  else none
  else none
def c_Law_become_v1 (F : Nat)  (s0 : St) : Option St :=
  if ¬ (0 : Int32) < 0 ∧ ¬ (0 : Int32) < 0 ∧ ¬ (10 : Int32) < 0 ∧ ((0 : Int32)).toNatClampNeg + ((10 : Int32)).toNatClampNeg ≤ 10 ∧ ((0 : Int32)).toNatClampNeg + ((10 : Int32)).toNatClampNeg ≤ 10 then
  if ¬ (0 : Int32) < 0 ∧ ¬ (0 : Int32) < 0 ∧ ¬ (8 : Int32) < 0 ∧ ((0 : Int32)).toNatClampNeg + ((8 : Int32)).toNatClampNeg ≤ 8 ∧ ((0 : Int32)).toNatClampNeg + ((8 : Int32)).toNatClampNeg ≤ 8 then
  some (cpI (cpI s0 41 7 ((0 : Int32)).toNatClampNeg ((0 : Int32)).toNatClampNeg ((10 : Int32)).toNatClampNeg) 42 8 ((0 : Int32)).toNatClampNeg ((0 : Int32)).toNatClampNeg ((8 : Int32)).toNatClampNeg)
  else none
  else none
def c_Night_become_v1 (F : Nat)  (s0 : St) : Option St :=
  if ¬ (0 : Int32) < 0 ∧ ¬ (0 : Int32) < 0 ∧ ¬ (576 : Int32) < 0 ∧ ((0 : Int32)).toNatClampNeg + ((576 : Int32)).toNatClampNeg ≤ 576 ∧ ((0 : Int32)).toNatClampNeg + ((576 : Int32)).toNatClampNeg ≤ 576 then
  if ¬ (0 : Int32) < 0 ∧ ¬ (0 : Int32) < 0 ∧ ¬ (144 : Int32) < 0 ∧ ((0 : Int32)).toNatClampNeg + ((144 : Int32)).toNatClampNeg ≤ 144 ∧ ((0 : Int32)).toNatClampNeg + ((144 : Int32)).toNatClampNeg ≤ 144 then
  some (sI (cpJ (cpJ s0 44 10 ((0 : Int32)).toNatClampNeg ((0 : Int32)).toNatClampNeg ((576 : Int32)).toNatClampNeg) 45 11 ((0 : Int32)).toNatClampNeg ((0 : Int32)).toNatClampNeg ((144 : Int32)).toNatClampNeg) 9 4 ((cpJ (cpJ s0 44 10 ((0 : Int32)).toNatClampNeg ((0 : Int32)).toNatClampNeg ((576 : Int32)).toNatClampNeg) 45 11 ((0 : Int32)).toNatClampNeg ((0 : Int32)).toNatClampNeg ((144 : Int32)).toNatClampNeg).1 43 4))
  else none
  else none
def c_Teams_become_v1 (F : Nat)  (s0 : St) : Option St :=
  if ¬ (0 : Int32) < 0 ∧ ¬ (0 : Int32) < 0 ∧ ¬ (4 : Int32) < 0 ∧ ((0 : Int32)).toNatClampNeg + ((4 : Int32)).toNatClampNeg ≤ 4 ∧ ((0 : Int32)).toNatClampNeg + ((4 : Int32)).toNatClampNeg ≤ 4 then
  if ¬ (0 : Int32) < 0 ∧ ¬ (0 : Int32) < 0 ∧ ¬ (4 : Int32) < 0 ∧ ((0 : Int32)).toNatClampNeg + ((4 : Int32)).toNatClampNeg ≤ 4 ∧ ((0 : Int32)).toNatClampNeg + ((4 : Int32)).toNatClampNeg ≤ 4 then
  if ¬ (0 : Int32) < 0 ∧ ¬ (0 : Int32) < 0 ∧ ¬ (4 : Int32) < 0 ∧ ((0 : Int32)).toNatClampNeg + ((4 : Int32)).toNatClampNeg ≤ 4 ∧ ((0 : Int32)).toNatClampNeg + ((4 : Int32)).toNatClampNeg ≤ 4 then
  if ¬ (0 : Int32) < 0 ∧ ¬ (0 : Int32) < 0 ∧ ¬ (6 : Int32) < 0 ∧ ((0 : Int32)).toNatClampNeg + ((6 : Int32)).toNatClampNeg ≤ 6 ∧ ((0 : Int32)).toNatClampNeg + ((6 : Int32)).toNatClampNeg ≤ 6 then
  some (sI (sI (cpI (cpI (cpI (cpI s0 49 15 ((0 : Int32)).toNatClampNeg ((0 : Int32)).toNatClampNeg ((4 : Int32)).toNatClampNeg) 50 16 ((0 : Int32)).toNatClampNeg ((0 : Int32)).toNatClampNeg ((4 : Int32)).toNatClampNeg) 51 17 ((0 : Int32)).toNatClampNeg ((0 : Int32)).toNatClampNeg ((4 : Int32)).toNatClampNeg) 52 18 ((0 : Int32)).toNatClampNeg ((0 : Int32)).toNatClampNeg ((6 : Int32)).toNatClampNeg) 14 7 ((cpI (cpI (cpI (cpI s0 49 15 ((0 : Int32)).toNatClampNeg ((0 : Int32)).toNatClampNeg ((4 : Int32)).toNatClampNeg) 50 16 ((0 : Int32)).toNatClampNeg ((0 : Int32)).toNatClampNeg ((4 : Int32)).toNatClampNeg) 51 17 ((0 : Int32)).toNatClampNeg ((0 : Int32)).toNatClampNeg ((4 : Int32)).toNatClampNeg) 52 18 ((0 : Int32)).toNatClampNeg ((0 : Int32)).toNatClampNeg ((6 : Int32)).toNatClampNeg).1 48 7)) 14 8 ((sI (cpI (cpI (cpI (cpI s0 49 15 ((0 : Int32)).toNatClampNeg ((0 : Int32)).toNatClampNeg ((4 : Int32)).toNatClampNeg) 50 16 ((0 : Int32)).toNatClampNeg ((0 : Int32)).toNatClampNeg ((4 : Int32)).toNatClampNeg) 51 17 ((0 : Int32)).toNatClampNeg ((0 : Int32)).toNatClampNeg ((4 : Int32)).toNatClampNeg) 52 18 ((0 : Int32)).toNatClampNeg ((0 : Int32)).toNatClampNeg ((6 : Int32)).toNatClampNeg) 14 7 ((cpI (cpI (cpI (cpI s0 49 15 ((0 : Int32)).toNatClampNeg ((0 : Int32)).toNatClampNeg ((4 : Int32)).toNatClampNeg) 50 16 ((0 : Int32)).toNatClampNeg ((0 : Int32)).toNatClampNeg ((4 : Int32)).toNatClampNeg) 51 17 ((0 : Int32)).toNatClampNeg ((0 : Int32)).toNatClampNeg ((4 : Int32)).toNatClampNeg) 52 18 ((0 : Int32)).toNatClampNeg ((0 : Int32)).toNatClampNeg ((6 : Int32)).toNatClampNeg).1 48 7)).1 48 8))
  else none
  else none
  else none
  else none
def c_Jobs_become_v1 (F : Nat)  (s0 : St) : Option St :=
  if ¬ (0 : Int32) < 0 ∧ ¬ (0 : Int32) < 0 ∧ ¬ (6 : Int32) < 0 ∧ ((0 : Int32)).toNatClampNeg + ((6 : Int32)).toNatClampNeg ≤ 6 ∧ ((0 : Int32)).toNatClampNeg + ((6 : Int32)).toNatClampNeg ≤ 6 then
  if ¬ (0 : Int32) < 0 ∧ ¬ (0 : Int32) < 0 ∧ ¬ (6 : Int32) < 0 ∧ ((0 : Int32)).toNatClampNeg + ((6 : Int32)).toNatClampNeg ≤ 6 ∧ ((0 : Int32)).toNatClampNeg + ((6 : Int32)).toNatClampNeg ≤ 6 then
  if ¬ (0 : Int32) < 0 ∧ ¬ (0 : Int32) < 0 ∧ ¬ (6 : Int32) < 0 ∧ ((0 : Int32)).toNatClampNeg + ((6 : Int32)).toNatClampNeg ≤ 6 ∧ ((0 : Int32)).toNatClampNeg + ((6 : Int32)).toNatClampNeg ≤ 6 then
  some (sI (cpI (cpI (cpI s0 57 23 ((0 : Int32)).toNatClampNeg ((0 : Int32)).toNatClampNeg ((6 : Int32)).toNatClampNeg) 58 24 ((0 : Int32)).toNatClampNeg ((0 : Int32)).toNatClampNeg ((6 : Int32)).toNatClampNeg) 59 25 ((0 : Int32)).toNatClampNeg ((0 : Int32)).toNatClampNeg ((6 : Int32)).toNatClampNeg) 22 5 ((cpI (cpI (cpI s0 57 23 ((0 : Int32)).toNatClampNeg ((0 : Int32)).toNatClampNeg ((6 : Int32)).toNatClampNeg) 58 24 ((0 : Int32)).toNatClampNeg ((0 : Int32)).toNatClampNeg ((6 : Int32)).toNatClampNeg) 59 25 ((0 : Int32)).toNatClampNeg ((0 : Int32)).toNatClampNeg ((6 : Int32)).toNatClampNeg).1 56 5))
  else none
  else none
  else none
def c_Book_become_v1 (F : Nat)  (s0 : St) : Option St :=
  if ¬ (0 : Int32) < 0 ∧ ¬ (0 : Int32) < 0 ∧ ¬ (60 : Int32) < 0 ∧ ((0 : Int32)).toNatClampNeg + ((60 : Int32)).toNatClampNeg ≤ 60 ∧ ((0 : Int32)).toNatClampNeg + ((60 : Int32)).toNatClampNeg ≤ 60 then
  if ¬ (0 : Int32) < 0 ∧ ¬ (0 : Int32) < 0 ∧ ¬ (60 : Int32) < 0 ∧ ((0 : Int32)).toNatClampNeg + ((60 : Int32)).toNatClampNeg ≤ 60 ∧ ((0 : Int32)).toNatClampNeg + ((60 : Int32)).toNatClampNeg ≤ 60 then
  if ¬ (0 : Int32) < 0 ∧ ¬ (0 : Int32) < 0 ∧ ¬ (60 : Int32) < 0 ∧ ((0 : Int32)).toNatClampNeg + ((60 : Int32)).toNatClampNeg ≤ 60 ∧ ((0 : Int32)).toNatClampNeg + ((60 : Int32)).toNatClampNeg ≤ 60 then
  some (sI (cpI (cpI (cpI s0 63 29 ((0 : Int32)).toNatClampNeg ((0 : Int32)).toNatClampNeg ((60 : Int32)).toNatClampNeg) 64 30 ((0 : Int32)).toNatClampNeg ((0 : Int32)).toNatClampNeg ((60 : Int32)).toNatClampNeg) 65 31 ((0 : Int32)).toNatClampNeg ((0 : Int32)).toNatClampNeg ((60 : Int32)).toNatClampNeg) 28 3 ((cpI (cpI (cpI s0 63 29 ((0 : Int32)).toNatClampNeg ((0 : Int32)).toNatClampNeg ((60 : Int32)).toNatClampNeg) 64 30 ((0 : Int32)).toNatClampNeg ((0 : Int32)).toNatClampNeg ((60 : Int32)).toNatClampNeg) 65 31 ((0 : Int32)).toNatClampNeg ((0 : Int32)).toNatClampNeg ((60 : Int32)).toNatClampNeg).1 62 3))
  else none
  else none
  else none
def c_Door_become_v1 (F : Nat)  (s0 : St) : Option St :=
  if ¬ (0 : Int32) < 0 ∧ ¬ (0 : Int32) < 0 ∧ ¬ (8 : Int32) < 0 ∧ ((0 : Int32)).toNatClampNeg + ((8 : Int32)).toNatClampNeg ≤ 8 ∧ ((0 : Int32)).toNatClampNeg + ((8 : Int32)).toNatClampNeg ≤ 8 then
  if ¬ (0 : Int32) < 0 ∧ ¬ (0 : Int32) < 0 ∧ ¬ (8 : Int32) < 0 ∧ ((0 : Int32)).toNatClampNeg + ((8 : Int32)).toNatClampNeg ≤ 8 ∧ ((0 : Int32)).toNatClampNeg + ((8 : Int32)).toNatClampNeg ≤ 8 then
  some (sI (cpI (cpI s0 67 33 ((0 : Int32)).toNatClampNeg ((0 : Int32)).toNatClampNeg ((8 : Int32)).toNatClampNeg) 68 34 ((0 : Int32)).toNatClampNeg ((0 : Int32)).toNatClampNeg ((8 : Int32)).toNatClampNeg) 32 2 ((cpI (cpI s0 67 33 ((0 : Int32)).toNatClampNeg ((0 : Int32)).toNatClampNeg ((8 : Int32)).toNatClampNeg) 68 34 ((0 : Int32)).toNatClampNeg ((0 : Int32)).toNatClampNeg ((8 : Int32)).toNatClampNeg).1 66 2))
  else none
  else none
def c_State_become_v1 (F : Nat)  (s0 : St) : Option St :=
  gB (c_Land_become_v1 F s0) fun s1 =>
  gB (c_Law_become_v1 F s1) fun s2 =>
  gB (c_Night_become_v1 F s2) fun s3 =>
  gB (c_Teams_become_v1 F s3) fun s4 =>
  gB (c_Jobs_become_v1 F s4) fun s5 =>
  gB (c_Book_become_v1 F s5) fun s6 =>
  gB (c_Door_become_v1 F s6) fun s7 =>
  some s7
def c_restore (F : Nat)  (s0 : St) : Option (Int32 × St) :=
  if (s0.1 0 6) = 0 then
    gB2 (c_refuse F (-4 : Int32) s0) fun r2 s2 =>
    some (r2, s2)
  else
    gB (c_State_become_v1 F s0) fun s1 =>
    some ((1 : Int32), s1)
def c_status (F : Nat) (a1 : Int32) (s0 : St) : Option (Int32 × St) :=
  gB2 (c_isIn F a1 (0 : Int32) (8 : Int32) s0) fun r1 s1 =>
  if r1 = 0 then
    gB2 (c_refuse F (-1 : Int32) s1) fun r2 s2 =>
    some (r2, s2)
  else
    if inb a1 9 = true then
    some (s1.1 80 (a1).toNatClampNeg, s1)
    else none
def c_Sheets_at (F : Nat) (a1 : Int32) (a2 : Int32) (s0 : St) : Option (Int64 × St) :=
  if inb ((a1 * (24 : Int32)) + a2) 96 = true then
  some (s0.2 77 ((a1 * (24 : Int32)) + a2).toNatClampNeg, s0)
  else none
def c_Sheets_isSheet (F : Nat) (a0 : Int32) (s0 : St) : Option (Int32 × St) :=
  gB2 (c_isIn F a0 (0 : Int32) (3 : Int32) s0) fun r1 s1 =>
  if r1 = 0 ∨ r1 = 1 then some (r1, s1) else none
def c_Sheets_isLane (F : Nat) (a0 : Int32) (s0 : St) : Option (Int32 × St) :=
  gB2 (c_isIn F a0 (0 : Int32) (3 : Int32) s0) fun r1 s1 =>
  if r1 = 0 ∨ r1 = 1 then some (r1, s1) else none
def c_Sheets_isThere (F : Nat) (a1 : Int32) (s0 : St) : Option (Int32 × St) :=
  if inb a1 4 = true then
  if (s0.1 78 (a1).toNatClampNeg) = (-1 : Int32) then
    some ((0 : Int32), s0)
  else
    some ((1 : Int32), s0)
  else none
def c_Sheets_holds_J34 (F : Nat)   (s0 : St) : Option (Int32 × St) :=
    some ((0 : Int32), s0)
def c_Sheets_holds (F : Nat) (a1 : Int32) (a2 : Int32) (a3 : Int32) (s0 : St) : Option (Int32 × St) :=
  if a3 < 0 then
    c_Sheets_holds_J34 F s0
  else
    if a2 < 0 then
      c_Sheets_holds_J34 F s0
    else
      if inb a1 4 = true then
      if (s0.1 79 (a1).toNatClampNeg) < a2 then
        c_Sheets_holds_J34 F s0
      else
        if inb a1 4 = true then
        if ((s0.1 79 (a1).toNatClampNeg) - a2) < a3 then
          c_Sheets_holds_J34 F s0
        else
          some ((1 : Int32), s0)
        else none
      else none
def c_Sheets_wrong (F : Nat) (a1 : Int32) (a2 : Int32) (a3 : Int32) (a4 : Int32) (s0 : St) : Option (Int32 × St) :=
  gB2 (c_Sheets_isThere F a1 s0) fun r1 s1 =>
  if r1 = 0 then
    some ((-11 : Int32), s1)
  else
    if inb a1 4 = true then
    if (s1.1 78 (a1).toNatClampNeg) = a2 then
      gB2 (c_Sheets_holds F a1 a3 a4 s1) fun r2 s2 =>
      if r2 = 0 then
        some ((-13 : Int32), s2)
      else
        some ((0 : Int32), s2)
    else
      some ((-12 : Int32), s1)
    else none
def c_areFindsAsTold_L3b (F : Nat)  (k3 : Int32 → Int32 → Int32 → Int32 → St → Option (Int32 × St)) (x1 : Int32) (x2 : Int32) (x3 : Int32) (x4 : Int32) (s0 : St) : Option (Int32 × St) :=
    if x3 ≤ x4 then
      some ((1 : Int32), s0)
    else
      gB2 (c_Sheets_at F x1 (x2 + (x4 * (3 : Int32))) s0) fun r1 s1 =>
      gB2 (c_Sheets_at F x1 ((x2 + (x4 * (3 : Int32))) + (1 : Int32)) s1) fun r2 s2 =>
      gB2 (c_Sheets_at F x1 ((x2 + (x4 * (3 : Int32))) + (2 : Int32)) s2) fun r3 s3 =>
      gB2 (c_Book_isAsTold F r1 r2 r3 s3) fun r4 s4 =>
      if r4 = 0 then
        some ((0 : Int32), s4)
      else
        k3 x1 x2 x3 (x4 + (1 : Int32)) s4
def c_areFindsAsTold_L3 (F : Nat)  : Nat → Int32 → Int32 → Int32 → Int32 → St → Option (Int32 × St) := lp (fun _ _ _ _ _ => none) (c_areFindsAsTold_L3b F )
def c_areFindsAsTold (F : Nat) (a1 : Int32) (a2 : Int32) (a3 : Int32) (s0 : St) : Option (Int32 × St) :=
  c_areFindsAsTold_L3 F F a1 a2 a3 (0 : Int32) s0
def c_finds_J25 (F : Nat)   (s0 : St) : Option (Int32 × St) :=
    gB2 (c_refuse F (-1 : Int32) s0) fun r1 s1 =>
    some (r1, s1)
def c_finds_L105b (F : Nat)  (k105 : Int32 → Int32 → Int32 → Int32 → St → Option (Int32 × St)) (x1 : Int32) (x3 : Int32) (x4 : Int32) (x6 : Int32) (s0 : St) : Option (Int32 × St) :=
    if x4 ≤ x6 then
      some (s0.1 28 3, s0)
    else
      gB2 (c_Sheets_at F x1 (x3 + (x6 * (3 : Int32))) s0) fun r2 s2 =>
      gB2 (c_Sheets_at F x1 ((x3 + (x6 * (3 : Int32))) + (1 : Int32)) s2) fun r3 s3 =>
      gB2 (c_Sheets_at F x1 ((x3 + (x6 * (3 : Int32))) + (2 : Int32)) s3) fun r4 s4 =>
      gB2 (c_Book_add F ((r2).toInt32) ((r3).toInt32) ((r4).toInt32) s4) fun r5 s5 =>
      k105 x1 x3 x4 (x6 + (1 : Int32)) s5
def c_finds_L105 (F : Nat)  : Nat → Int32 → Int32 → Int32 → Int32 → St → Option (Int32 × St) := lp (fun _ _ _ _ _ => none) (c_finds_L105b F )
def c_finds (F : Nat) (a1 : Int32) (a2 : Int32) (a3 : Int32) (a4 : Int32) (s0 : St) : Option (Int32 × St) :=
  gB2 (c_Sheets_isSheet F a1 s0) fun r6 s6 =>
  if r6 = 0 then
    c_finds_J25 F s6
  else
    gB2 (c_Sheets_isLane F a2 s6) fun r7 s7 =>
    if r7 = 0 then
      c_finds_J25 F s7
    else
      gB2 (c_isIn F a4 (1 : Int32) (8 : Int32) s7) fun r8 s8 =>
      if r8 = 0 then
        c_finds_J25 F s8
      else
        gB2 (c_Sheets_wrong F a1 a2 a3 (a4 * (3 : Int32)) s8) fun r9 s9 =>
        if 0 ≤ r9 then
          gB2 (c_areFindsAsTold F a1 a3 a4 s9) fun r10 s10 =>
          if r10 = 0 then
            gB2 (c_refuse F (-2 : Int32) s10) fun r12 s12 =>
            some (r12, s12)
          else
            if a4 ≤ ((60 : Int32) - (s10.1 28 3)) then
              c_finds_L105 F F a1 a3 a4 (0 : Int32) s10
            else
              gB2 (c_refuse F (-3 : Int32) s10) fun r11 s11 =>
              some (r11, s11)
        else
          gB2 (c_refuse F r9 s9) fun r13 s13 =>
          some (r13, s13)
def c_Sheets_cut (F : Nat) (a0 : Int32) (a1 : Int64) (s0 : St) : Option (Int64 × St) :=
  if a0 = (0 : Int32) then
    some ((((a1).toInt32).toInt8.toInt32).toInt64, s0)
  else
  if a0 = (1 : Int32) then
    some ((((a1).toInt32).toInt16.toInt32).toInt64, s0)
  else
  if a0 = (2 : Int32) then
    some (((a1).toInt32).toInt64, s0)
  else
  some (a1, s0)
def c_Sheets_put (F : Nat) (a1 : Int32) (a2 : Int32) (a3 : Int64) (s0 : St) : Option St :=
  if inb a1 4 = true then
  gB2 (c_Sheets_cut F (s0.1 78 (a1).toNatClampNeg) a3 s0) fun r1 s1 =>
  if inb ((a1 * (24 : Int32)) + a2) 96 = true then
  some (sJ s1 77 ((a1 * (24 : Int32)) + a2).toNatClampNeg r1)
  else none
  else none
def c_film_J24 (F : Nat)   (s0 : St) : Option (Int32 × St) :=
    gB2 (c_refuse F (-1 : Int32) s0) fun r1 s1 =>
    some (r1, s1)
def c_film_L86b (F : Nat)  (k86 : Int32 → Int32 → Int32 → Int64 → Int32 → St → Option (Int32 × St)) (x1 : Int32) (x2 : Int32) (x4 : Int32) (x6 : Int64) (x8 : Int32) (s0 : St) : Option (Int32 × St) :=
    if (12 : Int32) ≤ x8 then
      some ((12 : Int32), s0)
    else
      gB2 (c_Night_together F ((x1 * (12 : Int32)) + x8) s0) fun r2 s2 =>
      gB2 (c_thousandths F r2 x6 s2) fun r3 s3 =>
      gB (c_Sheets_put F x2 (x4 + x8) ((r3).toInt64) s3) fun s4 =>
      k86 x1 x2 x4 x6 (x8 + (1 : Int32)) s4
def c_film_L86 (F : Nat)  : Nat → Int32 → Int32 → Int32 → Int64 → Int32 → St → Option (Int32 × St) := lp (fun _ _ _ _ _ _ => none) (c_film_L86b F )
def c_film (F : Nat) (a1 : Int32) (a2 : Int32) (a3 : Int32) (a4 : Int32) (s0 : St) : Option (Int32 × St) :=
  gB2 (c_isIn F a1 (0 : Int32) (11 : Int32) s0) fun r5 s5 =>
  if r5 = 0 then
    c_film_J24 F s5
  else
    gB2 (c_Sheets_isSheet F a2 s5) fun r6 s6 =>
    if r6 = 0 then
      c_film_J24 F s6
    else
      gB2 (c_Sheets_isLane F a3 s6) fun r7 s7 =>
      if r7 = 0 then
        c_film_J24 F s7
      else
        gB2 (c_Sheets_wrong F a2 a3 a4 (12 : Int32) s7) fun r8 s8 =>
        if 0 ≤ r8 then
          gB2 (c_Night_all F s8) fun r9 s9 =>
          if 0 < (lg_cmp r9 (0 : Int64)) then
            c_film_L86 F F a1 a2 a4 r9 (0 : Int32) s9
          else
            gB2 (c_refuse F (-4 : Int32) s9) fun r10 s10 =>
            some (r10, s10)
        else
          gB2 (c_refuse F r8 s8) fun r11 s11 =>
          some (r11, s11)
def c_Arrays_rangeCheck (F : Nat) (a0 : Int32) (a1 : Int32) (a2 : Int32) (s0 : St) : Option St :=
  if a1 ≤ a2 then
    if 0 ≤ a1 then
      if a2 ≤ a0 then
        some s0
      else
        none
    else
      none
  else
    none
def c_Arrays_fill_bad5a_L10b (F : Nat)  (k10 : Int32 → Int64 → Int32 → St → Option St) (x2 : Int32) (x3 : Int64) (x5 : Int32) (s0 : St) : Option St :=
    if x2 ≤ x5 then
      some s0
    else
      if inb x5 96 = true then
      k10 x2 x3 (x5 + (1 : Int32)) (sJ s0 77 (x5).toNatClampNeg x3)
      else none
def c_Arrays_fill_bad5a_L10 (F : Nat)  : Nat → Int32 → Int64 → Int32 → St → Option St := lp (fun _ _ _ _ => none) (c_Arrays_fill_bad5a_L10b F )
def c_Arrays_fill_bad5a (F : Nat) (a1 : Int32) (a2 : Int32) (a3 : Int64) (s0 : St) : Option St :=
  gB (c_Arrays_rangeCheck F (96 : Int32) a1 a2 s0) fun s1 =>
  c_Arrays_fill_bad5a_L10 F F a2 a3 a1 s1
def c_Sheets_renew (F : Nat) (a1 : Int32) (a2 : Int32) (a3 : Int32) (s0 : St) : Option St :=
  if inb a1 4 = true then
  if inb a1 4 = true then
  gB (c_Arrays_fill_bad5a F (a1 * (24 : Int32)) ((a1 * (24 : Int32)) + (24 : Int32)) (0 : Int64) (sI (sI s0 78 (a1).toNatClampNeg a2) 79 (a1).toNatClampNeg a3)) fun s1 =>
  some s1
  else none
  else none
def c_sheet_J20 (F : Nat)   (s0 : St) : Option (Int32 × St) :=
    gB2 (c_refuse F (-1 : Int32) s0) fun r1 s1 =>
    some (r1, s1)
def c_sheet (F : Nat) (a1 : Int32) (a2 : Int32) (a3 : Int32) (s0 : St) : Option (Int32 × St) :=
  gB2 (c_Sheets_isSheet F a1 s0) fun r2 s2 =>
  if r2 = 0 then
    c_sheet_J20 F s2
  else
    gB2 (c_Sheets_isLane F a2 s2) fun r3 s3 =>
    if r3 = 0 then
      c_sheet_J20 F s3
    else
      if a3 ≤ (24 : Int32) then
        if 0 ≤ a3 then
          gB (c_Sheets_renew F a1 a2 a3 s3) fun s4 =>
          some (a3, s4)
        else
          gB2 (c_refuse F (-14 : Int32) s3) fun r5 s5 =>
          some (r5, s5)
      else
        c_sheet_J20 F s3
def c_Sheets_empty (F : Nat) (a1 : Int32) (s0 : St) : Option (Int32 × St) :=
  if inb a1 4 = true then
  if inb a1 4 = true then
  some ((sI s0 78 (a1).toNatClampNeg (-1 : Int32)).1 79 (a1).toNatClampNeg, (sI s0 78 (a1).toNatClampNeg (-1 : Int32)))
  else none
  else none
def c_drop (F : Nat) (a1 : Int32) (s0 : St) : Option (Int32 × St) :=
  gB2 (c_Sheets_isSheet F a1 s0) fun r1 s1 =>
  if r1 = 0 then
    gB2 (c_refuse F (-1 : Int32) s1) fun r5 s5 =>
    some (r5, s5)
  else
    gB2 (c_Sheets_isThere F a1 s1) fun r2 s2 =>
    if r2 = 0 then
      gB2 (c_refuse F (-11 : Int32) s2) fun r4 s4 =>
      some (r4, s4)
    else
      gB2 (c_Sheets_empty F a1 s2) fun r3 s3 =>
      some (r3, s3)
def c_item_J14 (F : Nat)   (s0 : St) : Option (Int32 × St) :=
    gB2 (c_refuse F (-1 : Int32) s0) fun r1 s1 =>
    some (r1, s1)
def c_item (F : Nat) (a1 : Int32) (a2 : Int32) (a3 : Int32) (a4 : Int64) (s0 : St) : Option (Int32 × St) :=
  gB2 (c_Sheets_isSheet F a1 s0) fun r2 s2 =>
  if r2 = 0 then
    c_item_J14 F s2
  else
    gB2 (c_Sheets_isLane F a2 s2) fun r3 s3 =>
    if r3 = 0 then
      c_item_J14 F s3
    else
      gB2 (c_Sheets_wrong F a1 a2 a3 (1 : Int32) s3) fun r4 s4 =>
      if 0 ≤ r4 then
        gB (c_Sheets_put F a1 a3 a4 s4) fun s5 =>
        some ((1 : Int32), s5)
      else
        gB2 (c_refuse F r4 s4) fun r6 s6 =>
        some (r6, s6)
def c_Sheets_areAlike (F : Nat) (a1 : Int32) (a2 : Int32) (s0 : St) : Option (Int32 × St) :=
  if inb a1 4 = true then
  if inb a2 4 = true then
  if (s0.1 78 (a1).toNatClampNeg) = (s0.1 78 (a2).toNatClampNeg) then
    some ((1 : Int32), s0)
  else
    some ((0 : Int32), s0)
  else none
  else none
def c_Sheets_move (F : Nat) (a1 : Int32) (a2 : Int32) (a3 : Int32) (a4 : Int32) (a5 : Int32) (s0 : St) : Option St :=
  if ¬ ((a1 * (24 : Int32)) + a2) < 0 ∧ ¬ ((a3 * (24 : Int32)) + a4) < 0 ∧ ¬ a5 < 0 ∧ ((a1 * (24 : Int32)) + a2).toNatClampNeg + (a5).toNatClampNeg ≤ 96 ∧ ((a3 * (24 : Int32)) + a4).toNatClampNeg + (a5).toNatClampNeg ≤ 96 then
  some (cpJ s0 77 77 ((a1 * (24 : Int32)) + a2).toNatClampNeg ((a3 * (24 : Int32)) + a4).toNatClampNeg (a5).toNatClampNeg)
  else none
def c_copy_J14 (F : Nat)   (s0 : St) : Option (Int32 × St) :=
    gB2 (c_refuse F (-1 : Int32) s0) fun r1 s1 =>
    some (r1, s1)
def c_copy_J42 (F : Nat)   (s0 : St) : Option (Int32 × St) :=
    gB2 (c_refuse F (-11 : Int32) s0) fun r2 s2 =>
    some (r2, s2)
def c_copy_J97 (F : Nat)   (s0 : St) : Option (Int32 × St) :=
    gB2 (c_refuse F (-13 : Int32) s0) fun r3 s3 =>
    some (r3, s3)
def c_copy (F : Nat) (a1 : Int32) (a2 : Int32) (a3 : Int32) (a4 : Int32) (a5 : Int32) (s0 : St) : Option (Int32 × St) :=
  gB2 (c_Sheets_isSheet F a1 s0) fun r4 s4 =>
  if r4 = 0 then
    c_copy_J14 F s4
  else
    gB2 (c_Sheets_isSheet F a3 s4) fun r5 s5 =>
    if r5 = 0 then
      c_copy_J14 F s5
    else
      gB2 (c_Sheets_isThere F a1 s5) fun r6 s6 =>
      if r6 = 0 then
        c_copy_J42 F s6
      else
        gB2 (c_Sheets_isThere F a3 s6) fun r7 s7 =>
        if r7 = 0 then
          c_copy_J42 F s7
        else
          gB2 (c_Sheets_areAlike F a1 a3 s7) fun r8 s8 =>
          if r8 = 0 then
            gB2 (c_refuse F (-12 : Int32) s8) fun r12 s12 =>
            some (r12, s12)
          else
            gB2 (c_Sheets_holds F a1 a2 a5 s8) fun r9 s9 =>
            if r9 = 0 then
              c_copy_J97 F s9
            else
              gB2 (c_Sheets_holds F a3 a4 a5 s9) fun r10 s10 =>
              if r10 = 0 then
                c_copy_J97 F s10
              else
                gB (c_Sheets_move F a1 a2 a3 a4 a5 s10) fun s11 =>
                some (a5, s11)
def m_in_J17 (F : Nat)   (s0 : St) : Option (Int32 × St) :=
    some ((0 : Int32), s0)
def m_in (F : Nat) (a0 : Int64) (a2 : Int64) (a4 : Int64) (s0 : St) : Option (Int32 × St) :=
  if (lg_cmp a0 a2) < 0 then
    m_in_J17 F s0
  else
    if 0 < (lg_cmp a0 a4) then
      m_in_J17 F s0
    else
      some ((1 : Int32), s0)
def m_says_J66 (F : Nat)  (x1 : Int64) (y1 : Int32) (y2 : Int32) (y3 : Int32) (s0 : St) : Option (Int64 × St) :=
    if inb y1 9 = true then
    some (x1, (sI s0 1 (y1).toNatClampNeg (y2 + y3)))
    else none
def m_says_J42 (F : Nat)  (x1 : Int64) (y0 : Int32) (s0 : St) : Option (Int64 × St) :=
    if inb y0 9 = true then
    if inb y0 9 = true then
    if (1000000 : Int32) ≤ (s0.1 1 (y0).toNatClampNeg) then
      m_says_J66 F x1 y0 (s0.1 1 (y0).toNatClampNeg) (0 : Int32) s0
    else
      m_says_J66 F x1 y0 (s0.1 1 (y0).toNatClampNeg) (1 : Int32) s0
    else none
    else none
def m_says (F : Nat) (a1 : Int64) (s0 : St) : Option (Int64 × St) :=
  if 0 ≤ (lg_cmp a1 (0 : Int64)) then
    some (a1, s0)
  else
    if 0 < (lg_cmp a1 (-20 : Int64)) then
      if 0 < (lg_cmp a1 (-11 : Int64)) then
        m_says_J42 F a1 (((-1 : Int64) - a1).toInt32) s0
      else
        m_says_J42 F a1 (((-7 : Int64) - a1).toInt32) s0
    else
      m_says_J42 F a1 (8 : Int32) s0
def m_tells (F : Nat) (a1 : Int32) (s0 : St) : Option (Int32 × St) :=
  gB2 (m_says F ((a1).toInt64) s0) fun r1 s1 =>
  some ((r1).toInt32, s1)
def m_status (F : Nat) (a1 : Int32) (s0 : St) : Option (Int32 × St) :=
  gB2 (m_in F ((a1).toInt64) (0 : Int64) (8 : Int64) s0) fun r1 s1 =>
  if r1 = 0 then
    gB2 (m_tells F (-1 : Int32) s1) fun r2 s2 =>
    some (r2, s2)
  else
    if inb a1 9 = true then
    some (s1.1 1 (a1).toNatClampNeg, s1)
    else none
def m_isCell (F : Nat) (a0 : Int32) (s0 : St) : Option (Int32 × St) :=
  gB2 (m_in F ((a0).toInt64) (0 : Int64) (143 : Int64) s0) fun r1 s1 =>
  if r1 = 0 ∨ r1 = 1 then some (r1, s1) else none
def m_isKind (F : Nat) (a0 : Int32) (s0 : St) : Option (Int32 × St) :=
  gB2 (m_in F ((a0).toInt64) (0 : Int64) (7 : Int64) s0) fun r1 s1 =>
  if r1 = 0 ∨ r1 = 1 then some (r1, s1) else none
def m_kind_J14 (F : Nat)   (s0 : St) : Option (Int32 × St) :=
    gB2 (m_tells F (-1 : Int32) s0) fun r1 s1 =>
    some (r1, s1)
def m_kind (F : Nat) (a1 : Int32) (a2 : Int32) (s0 : St) : Option (Int32 × St) :=
  gB2 (m_isCell F a1 s0) fun r2 s2 =>
  if r2 = 0 then
    m_kind_J14 F s2
  else
    gB2 (m_isKind F a2 s2) fun r3 s3 =>
    if r3 = 0 then
      m_kind_J14 F s3
    else
      if inb a1 144 = true then
      if inb a1 144 = true then
      some (s3.1 2 (a1).toNatClampNeg, (sI s3 2 (a1).toNatClampNeg a2))
      else none
      else none
def m_draw_J19 (F : Nat)   (s0 : St) : Option (Int32 × St) :=
    gB2 (m_tells F (-1 : Int32) s0) fun r1 s1 =>
    some (r1, s1)
def m_draw (F : Nat) (a1 : Int32) (a2 : Int32) (s0 : St) : Option (Int32 × St) :=
  gB2 (m_isCell F a1 s0) fun r2 s2 =>
  if r2 = 0 then
    m_draw_J19 F s2
  else
    gB2 (m_in F ((a2).toInt64) (0 : Int64) (9 : Int64) s2) fun r3 s3 =>
    if r3 = 0 then
      m_draw_J19 F s3
    else
      if inb a1 144 = true then
      if inb a1 144 = true then
      some (s3.1 3 (a1).toNatClampNeg, (sI s3 3 (a1).toNatClampNeg a2))
      else none
      else none
def m_told_J19 (F : Nat)   (s0 : St) : Option (Int32 × St) :=
    gB2 (m_tells F (-1 : Int32) s0) fun r1 s1 =>
    some (r1, s1)
def m_told (F : Nat) (a1 : Int32) (a2 : Int32) (s0 : St) : Option (Int32 × St) :=
  gB2 (m_isCell F a1 s0) fun r2 s2 =>
  if r2 = 0 then
    m_told_J19 F s2
  else
    gB2 (m_in F ((a2).toInt64) (0 : Int64) (2 : Int64) s2) fun r3 s3 =>
    if r3 = 0 then
      m_told_J19 F s3
    else
      if a2 = 0 then
        if inb a1 144 = true then
        some (s3.1 2 (a1).toNatClampNeg, s3)
        else none
      else
        if a2 = (1 : Int32) then
          if inb a1 144 = true then
          some (s3.1 3 (a1).toNatClampNeg, s3)
          else none
        else
          if inb a1 144 = true then
          some (s3.1 4 (a1).toNatClampNeg, s3)
          else none
def m_set_J48 (F : Nat)   (s0 : St) : Option (Int32 × St) :=
    gB2 (m_tells F (-1 : Int32) s0) fun r1 s1 =>
    some (r1, s1)
def m_set_J42 (F : Nat)  (x1 : Int32) (x2 : Int32) (y0 : Int64) (y1 : Int64) (y2 : Int64) (s0 : St) : Option (Int32 × St) :=
    gB2 (m_in F y0 y1 y2 s0) fun r2 s2 =>
    if r2 = 0 then
      m_set_J48 F s2
    else
      if inb x1 10 = true then
      if inb x1 10 = true then
      some (s2.1 5 (x1).toNatClampNeg, (sI s2 5 (x1).toNatClampNeg x2))
      else none
      else none
def m_set (F : Nat) (a1 : Int32) (a2 : Int32) (s0 : St) : Option (Int32 × St) :=
  gB2 (m_in F ((a1).toInt64) (0 : Int64) (9 : Int64) s0) fun r3 s3 =>
  if r3 = 0 then
    m_set_J48 F s3
  else
    if a1 = (6 : Int32) then
      m_set_J42 F a1 a2 ((a2).toInt64) (0 : Int64) (3 : Int64) s3
    else
      if a1 ≤ (7 : Int32) then
        m_set_J42 F a1 a2 ((a2).toInt64) (0 : Int64) (9 : Int64) s3
      else
        m_set_J42 F a1 a2 ((a2).toInt64) (0 : Int64) (999 : Int64) s3
def m_sits_J19 (F : Nat)   (s0 : St) : Option (Int32 × St) :=
    gB2 (m_tells F (-1 : Int32) s0) fun r1 s1 =>
    some (r1, s1)
def m_sits (F : Nat) (a1 : Int32) (a2 : Int32) (s0 : St) : Option (Int32 × St) :=
  gB2 (m_isKind F a1 s0) fun r2 s2 =>
  if r2 = 0 then
    m_sits_J19 F s2
  else
    gB2 (m_in F ((a2).toInt64) (0 : Int64) (9 : Int64) s2) fun r3 s3 =>
    if r3 = 0 then
      m_sits_J19 F s3
    else
      if inb a1 8 = true then
      if inb a1 8 = true then
      some (s3.1 6 (a1).toNatClampNeg, (sI s3 6 (a1).toNatClampNeg a2))
      else none
      else none
def m_type_L86b (F : Nat)  (k86 : Int64 → Int32 → St → Option (Int32 × St)) (x1 : Int64) (x4 : Int32) (s0 : St) : Option (Int32 × St) :=
    if x4 < 0 then
      some (s0.1 0 7, s0)
    else
      if inb (s0.1 0 7) 160 = true then
      k86 x1 (x4 + (-1 : Int32)) (sI (sI s0 7 (s0.1 0 7).toNatClampNeg ((((x1) >>> (((8 : Int32) * x4).toInt64 &&& 63)) &&& (255 : Int64)).toInt32)) 0 7 (((sI s0 7 (s0.1 0 7).toNatClampNeg ((((x1) >>> (((8 : Int32) * x4).toInt64 &&& 63)) &&& (255 : Int64)).toInt32)).1 0 7) + (1 : Int32)))
      else none
def m_type_L86 (F : Nat)  : Nat → Int64 → Int32 → St → Option (Int32 × St) := lp (fun _ _ _ => none) (m_type_L86b F )
def m_type_L21b (F : Nat)  (k21 : Int64 → Int32 → Int32 → St → Option (Int32 × St)) (x1 : Int64) (x3 : Int32) (x4 : Int32) (s0 : St) : Option (Int32 × St) :=
    if x3 ≤ x4 then
      if ((s0.1 0 7) + x3) ≤ (160 : Int32) then
        m_type_L86 F F x1 (x3 - (1 : Int32)) s0
      else
        gB2 (m_tells F (-3 : Int32) s0) fun r1 s1 =>
        some (r1, s1)
    else
      gB2 (m_in F (((x1) >>> (((8 : Int32) * x4).toInt64 &&& 63)) &&& (255 : Int64)) (32 : Int64) (126 : Int64) s0) fun r2 s2 =>
      if r2 = 0 then
        gB2 (m_tells F (-1 : Int32) s2) fun r3 s3 =>
        some (r3, s3)
      else
        k21 x1 x3 (x4 + (1 : Int32)) s2
def m_type_L21 (F : Nat)  : Nat → Int64 → Int32 → Int32 → St → Option (Int32 × St) := lp (fun _ _ _ _ => none) (m_type_L21b F )
def m_type (F : Nat) (a1 : Int64) (a3 : Int32) (s0 : St) : Option (Int32 × St) :=
  gB2 (m_in F ((a3).toInt64) (1 : Int64) (8 : Int64) s0) fun r4 s4 =>
  if r4 = 0 then
    gB2 (m_tells F (-1 : Int32) s4) fun r5 s5 =>
    some (r5, s5)
  else
    m_type_L21 F F a1 a3 (0 : Int32) s4
def m_here_J38 (F : Nat)   (s0 : St) : Option (Int32 × St) :=
    if (s0.1 0 7) ≤ (s0.1 0 8) then
      some ((0 : Int32), s0)
    else
      if inb (s0.1 0 8) 160 = true then
      some (s0.1 7 (s0.1 0 8).toNatClampNeg, s0)
      else none
def m_here_L0b (F : Nat)  (k0 : St → Option (Int32 × St))  (s0 : St) : Option (Int32 × St) :=
    if (s0.1 0 7) ≤ (s0.1 0 8) then
      m_here_J38 F s0
    else
      if inb (s0.1 0 8) 160 = true then
      if (s0.1 7 (s0.1 0 8).toNatClampNeg) = (32 : Int32) then
        k0 (sI s0 0 8 ((s0.1 0 8) + (1 : Int32)))
      else
        m_here_J38 F s0
      else none
def m_here_L0 (F : Nat)  : Nat → St → Option (Int32 × St) := lp (fun _ => none) (m_here_L0b F )
def m_here (F : Nat)  (s0 : St) : Option (Int32 × St) :=
  m_here_L0 F F s0
def m_has_J35 (F : Nat)  (x2 : Int32) (y1 : Int32) (y2 : Int32) (s0 : St) : Option (Int32 × St) :=
    if x2 = 0 ∨ x2 = 1 then some (x2, (sI s0 0 8 (y1 + y2))) else none
def m_has_J20 (F : Nat)  (y0 : Int32) (s0 : St) : Option (Int32 × St) :=
    if y0 = 0 then
      m_has_J35 F y0 (s0.1 0 8) (0 : Int32) s0
    else
      m_has_J35 F y0 (s0.1 0 8) (1 : Int32) s0
def m_has_J19 (F : Nat)   (s0 : St) : Option (Int32 × St) :=
    m_has_J20 F (0 : Int32) s0
def m_has (F : Nat) (a1 : Int32) (s0 : St) : Option (Int32 × St) :=
  if (s0.1 0 9) = 0 then
    gB2 (m_here F s0) fun r1 s1 =>
    if r1 = a1 then
      m_has_J20 F (1 : Int32) s1
    else
      m_has_J19 F s1
  else
    m_has_J19 F s0
def m_kindOf (F : Nat) (a0 : Int32) (s0 : St) : Option (Int32 × St) :=
  if a0 = (97 : Int32) then
    some ((4 : Int32), s0)
  else
  if a0 = (98 : Int32) then
    some ((-4 : Int32), s0)
  else
  if a0 = (99 : Int32) then
    some ((-4 : Int32), s0)
  else
  if a0 = (100 : Int32) then
    some ((-4 : Int32), s0)
  else
  if a0 = (101 : Int32) then
    some ((7 : Int32), s0)
  else
  if a0 = (102 : Int32) then
    some ((-4 : Int32), s0)
  else
  if a0 = (103 : Int32) then
    some ((-4 : Int32), s0)
  else
  if a0 = (104 : Int32) then
    some ((5 : Int32), s0)
  else
  if a0 = (105 : Int32) then
    some ((-4 : Int32), s0)
  else
  if a0 = (106 : Int32) then
    some ((-4 : Int32), s0)
  else
  if a0 = (107 : Int32) then
    some ((-4 : Int32), s0)
  else
  if a0 = (108 : Int32) then
    some ((-4 : Int32), s0)
  else
  if a0 = (109 : Int32) then
    some ((3 : Int32), s0)
  else
  if a0 = (110 : Int32) then
    some ((-4 : Int32), s0)
  else
  if a0 = (111 : Int32) then
    some ((0 : Int32), s0)
  else
  if a0 = (112 : Int32) then
    some ((1 : Int32), s0)
  else
  if a0 = (113 : Int32) then
    some ((-4 : Int32), s0)
  else
  if a0 = (114 : Int32) then
    some ((-4 : Int32), s0)
  else
  if a0 = (115 : Int32) then
    some ((6 : Int32), s0)
  else
  if a0 = (116 : Int32) then
    some ((-4 : Int32), s0)
  else
  if a0 = (117 : Int32) then
    some ((-4 : Int32), s0)
  else
  if a0 = (118 : Int32) then
    some ((-4 : Int32), s0)
  else
  if a0 = (119 : Int32) then
    some ((2 : Int32), s0)
  else
  some ((-4 : Int32), s0)
def m_row_J190 (F : Nat) (k4 : Int32 → Int32 → Int32 → St → Option (Int32 × St)) (x1 : Int32) (x2 : Int32) (y0 : Int32) (s0 : St) : Option (Int32 × St) :=
    k4 x1 x2 y0 s0
def m_row_J189 (F : Nat) (k4 : Int32 → Int32 → Int32 → St → Option (Int32 × St)) (x1 : Int32) (x2 : Int32) (s0 : St) : Option (Int32 × St) :=
    m_row_J190 F k4 x1 x2 (0 : Int32) s0
def m_row_J168 (F : Nat) (k4 : Int32 → Int32 → Int32 → St → Option (Int32 × St)) (x1 : Int32) (x2 : Int32) (s0 : St) : Option (Int32 × St) :=
    if (s0.1 0 9) = 0 then
      gB2 (m_here F s0) fun r1 s1 =>
      gB2 (m_kindOf F r1 s1) fun r2 s2 =>
      if r2 < 0 then
        m_row_J189 F k4 x1 x2 s2
      else
        m_row_J190 F k4 x1 x2 (1 : Int32) s2
    else
      m_row_J189 F k4 x1 x2 s0
def m_row_L132b (F : Nat) (k4 : Int32 → Int32 → Int32 → St → Option (Int32 × St)) (k132 : Int32 → Int32 → Int32 → Int32 → Int32 → St → Option (Int32 × St)) (x1 : Int32) (x2 : Int32) (x4 : Int32) (x5 : Int32) (x6 : Int32) (s0 : St) : Option (Int32 × St) :=
    if x5 ≤ x6 then
      m_row_J168 F k4 x1 x2 s0
    else
      if (s0.1 0 9) = 0 then
        if inb (((12 : Int32) * x1) + x2) 144 = true then
        k132 x1 (x2 + (1 : Int32)) x4 x5 (x6 + (1 : Int32)) (sI s0 8 (((12 : Int32) * x1) + x2).toNatClampNeg x4)
        else none
      else
        m_row_J168 F k4 x1 x2 s0
def m_row_L132 (F : Nat) (k4 : Int32 → Int32 → Int32 → St → Option (Int32 × St)) : Nat → Int32 → Int32 → Int32 → Int32 → Int32 → St → Option (Int32 × St) := lp (fun _ _ _ _ _ _ => none) (m_row_L132b F k4)
def m_row_J129 (F : Nat) (k4 : Int32 → Int32 → Int32 → St → Option (Int32 × St)) (x1 : Int32) (x2 : Int32) (x4 : Int32) (x5 : Int32) (s0 : St) : Option (Int32 × St) :=
    m_row_L132 F k4 F x1 x2 x4 x5 (0 : Int32) s0
def m_row_J125 (F : Nat) (k4 : Int32 → Int32 → Int32 → St → Option (Int32 × St)) (x1 : Int32) (x2 : Int32) (x4 : Int32) (x5 : Int32) (y1 : Int32) (y2 : Int32) (s0 : St) : Option (Int32 × St) :=
    m_row_J129 F k4 x1 x2 x4 x5 (sI s0 0 8 (y1 + y2))
def m_row_J105 (F : Nat) (k4 : Int32 → Int32 → Int32 → St → Option (Int32 × St)) (x1 : Int32) (x2 : Int32) (x4 : Int32) (x5 : Int32) (y1 : Int32) (s0 : St) : Option (Int32 × St) :=
    if y1 = 0 ∨ y1 = 1 then
    if ((sI s0 0 9 y1).1 0 9) = 0 then
      m_row_J125 F k4 x1 x2 x4 x5 ((sI s0 0 9 y1).1 0 8) (1 : Int32) (sI s0 0 9 y1)
    else
      m_row_J125 F k4 x1 x2 x4 x5 ((sI s0 0 9 y1).1 0 8) (0 : Int32) (sI s0 0 9 y1)
    else none
def m_row_J41 (F : Nat) (k4 : Int32 → Int32 → Int32 → St → Option (Int32 × St)) (x1 : Int32) (x2 : Int32) (x4 : Int32) (y1 : Int32) (s0 : St) : Option (Int32 × St) :=
    if y1 = 0 ∨ y1 = 1 then
    if ((sI s0 0 9 y1).1 0 9) = 0 then
      gB2 (m_here F (sI (sI s0 0 9 y1) 0 8 (((sI s0 0 9 y1).1 0 8) + (1 : Int32)))) fun r3 s3 =>
      gB2 (m_in F ((r3).toInt64) (49 : Int64) (57 : Int64) s3) fun r4 s4 =>
      if r4 = 0 then
        m_row_J129 F k4 x1 x2 x4 (1 : Int32) s4
      else
        gB2 (m_here F s4) fun r5 s5 =>
        if (x2 + (r5 - (48 : Int32))) ≤ (12 : Int32) then
          m_row_J105 F k4 x1 x2 x4 (r5 - (48 : Int32)) (0 : Int32) s5
        else
          m_row_J105 F k4 x1 x2 x4 (r5 - (48 : Int32)) (1 : Int32) s5
    else
      m_row_J168 F k4 x1 x2 (sI s0 0 9 y1)
    else none
def m_row_J36 (F : Nat) (k4 : Int32 → Int32 → Int32 → St → Option (Int32 × St)) (x1 : Int32) (x2 : Int32) (x4 : Int32) (s0 : St) : Option (Int32 × St) :=
    m_row_J41 F k4 x1 x2 x4 (1 : Int32) s0
def m_row_L4b (F : Nat)  (k4 : Int32 → Int32 → Int32 → St → Option (Int32 × St)) (x1 : Int32) (x2 : Int32) (x3 : Int32) (s0 : St) : Option (Int32 × St) :=
    if x3 = 0 then
      some (x2, s0)
    else
      gB2 (m_here F s0) fun r6 s6 =>
      gB2 (m_kindOf F r6 s6) fun r7 s7 =>
      if (s7.1 0 9) = 0 then
        if r7 < 0 then
          m_row_J36 F k4 x1 x2 r7 s7
        else
          if x2 = (12 : Int32) then
            m_row_J36 F k4 x1 x2 r7 s7
          else
            m_row_J41 F k4 x1 x2 r7 (0 : Int32) s7
      else
        m_row_J36 F k4 x1 x2 r7 s7
def m_row_L4 (F : Nat)  : Nat → Int32 → Int32 → Int32 → St → Option (Int32 × St) := lp (fun _ _ _ _ => none) (m_row_L4b F )
def m_row (F : Nat) (a1 : Int32) (s0 : St) : Option (Int32 × St) :=
  m_row_L4 F F a1 (0 : Int32) (1 : Int32) s0
def m_land_J180 (F : Nat) (k119 : Int32 → Int32 → St → Option (Int32 × St)) (x1 : Int32) (x2 : Int32) (y1 : Int32) (y2 : Int32) (s0 : St) : Option (Int32 × St) :=
    if inb y1 144 = true then
    k119 x1 (x2 + (1 : Int32)) (sI s0 3 (y1).toNatClampNeg y2)
    else none
def m_land_J155 (F : Nat) (k119 : Int32 → Int32 → St → Option (Int32 × St)) (x1 : Int32) (x2 : Int32) (y1 : Int32) (y2 : Int32) (s0 : St) : Option (Int32 × St) :=
    if inb y1 144 = true then
    if inb x2 144 = true then
    if 0 ≤ ((sI s0 2 (y1).toNatClampNeg y2).1 8 (x2).toNatClampNeg) then
      m_land_J180 F k119 x1 x2 x2 (0 : Int32) (sI s0 2 (y1).toNatClampNeg y2)
    else
      if inb x2 144 = true then
      m_land_J180 F k119 x1 x2 x2 ((sI s0 2 (y1).toNatClampNeg y2).1 3 (x2).toNatClampNeg) (sI s0 2 (y1).toNatClampNeg y2)
      else none
    else none
    else none
def m_land_L119b (F : Nat)  (k119 : Int32 → Int32 → St → Option (Int32 × St)) (x1 : Int32) (x2 : Int32) (s0 : St) : Option (Int32 × St) :=
    if (144 : Int32) ≤ x2 then
      some (x1, s0)
    else
      if inb x2 144 = true then
      if 0 ≤ (s0.1 8 (x2).toNatClampNeg) then
        if inb x2 144 = true then
        m_land_J155 F k119 x1 x2 x2 (s0.1 8 (x2).toNatClampNeg) s0
        else none
      else
        if inb x2 144 = true then
        m_land_J155 F k119 x1 x2 x2 (s0.1 2 (x2).toNatClampNeg) s0
        else none
      else none
def m_land_L119 (F : Nat)  : Nat → Int32 → Int32 → St → Option (Int32 × St) := lp (fun _ _ _ => none) (m_land_L119b F )
def m_land_J90 (F : Nat)  (x1 : Int32) (y1 : Int32) (s0 : St) : Option (Int32 × St) :=
    if y1 = 0 ∨ y1 = 1 then
    if ((sI (sI s0 0 9 y1) 0 7 (0 : Int32)).1 0 9) = 0 then
      m_land_L119 F F x1 (0 : Int32) (sI (sI s0 0 9 y1) 0 7 (0 : Int32))
    else
      gB2 (m_tells F ((-20 : Int32) - ((sI (sI s0 0 9 y1) 0 7 (0 : Int32)).1 0 8)) (sI (sI s0 0 9 y1) 0 7 (0 : Int32))) fun r1 s1 =>
      some (r1, s1)
    else none
def m_land_J85 (F : Nat)  (x1 : Int32) (s0 : St) : Option (Int32 × St) :=
    m_land_J90 F x1 (1 : Int32) s0
def m_land_J70 (F : Nat)  (x1 : Int32) (s0 : St) : Option (Int32 × St) :=
    if (s0.1 0 9) = 0 then
      gB2 (m_here F s0) fun r2 s2 =>
      if r2 = 0 then
        m_land_J90 F x1 (0 : Int32) s2
      else
        m_land_J85 F x1 s2
    else
      m_land_J85 F x1 s0
def m_land_L41b (F : Nat)  (k41 : Int32 → Int32 → St → Option (Int32 × St)) (x1 : Int32) (x2 : Int32) (s0 : St) : Option (Int32 × St) :=
    if (12 : Int32) ≤ x2 then
      m_land_J70 F x1 s0
    else
      gB2 (m_has F (47 : Int32) s0) fun r3 s3 =>
      if r3 = 0 then
        m_land_J70 F x1 s3
      else
        gB2 (m_row F x2 s3) fun r4 s4 =>
        k41 (x1 + r4) (x2 + (1 : Int32)) s4
def m_land_L41 (F : Nat)  : Nat → Int32 → Int32 → St → Option (Int32 × St) := lp (fun _ _ _ => none) (m_land_L41b F )
def m_land_L12b (F : Nat)  (k12 : Int32 → St → Option (Int32 × St)) (x1 : Int32) (s0 : St) : Option (Int32 × St) :=
    if (144 : Int32) ≤ x1 then
      gB2 (m_row F (0 : Int32) s0) fun r5 s5 =>
      m_land_L41 F F r5 (1 : Int32) s5
    else
      if inb x1 144 = true then
      k12 (x1 + (1 : Int32)) (sI s0 8 (x1).toNatClampNeg (-4 : Int32))
      else none
def m_land_L12 (F : Nat)  : Nat → Int32 → St → Option (Int32 × St) := lp (fun _ _ => none) (m_land_L12b F )
def m_land (F : Nat)  (s0 : St) : Option (Int32 × St) :=
  m_land_L12 F F (0 : Int32) (sI (sI s0 0 8 (0 : Int32)) 0 9 (0 : Int32))
def m_settingOf (F : Nat) (a0 : Int32) (s0 : St) : Option (Int32 × St) :=
  if a0 = (97 : Int32) then
    some ((0 : Int32), s0)
  else
  if a0 = (98 : Int32) then
    some ((3 : Int32), s0)
  else
  if a0 = (99 : Int32) then
    some ((-4 : Int32), s0)
  else
  if a0 = (100 : Int32) then
    some ((5 : Int32), s0)
  else
  if a0 = (101 : Int32) then
    some ((-4 : Int32), s0)
  else
  if a0 = (102 : Int32) then
    some ((-4 : Int32), s0)
  else
  if a0 = (103 : Int32) then
    some ((-4 : Int32), s0)
  else
  if a0 = (104 : Int32) then
    some ((-4 : Int32), s0)
  else
  if a0 = (105 : Int32) then
    some ((-4 : Int32), s0)
  else
  if a0 = (106 : Int32) then
    some ((-4 : Int32), s0)
  else
  if a0 = (107 : Int32) then
    some ((-4 : Int32), s0)
  else
  if a0 = (108 : Int32) then
    some ((1 : Int32), s0)
  else
  if a0 = (109 : Int32) then
    some ((-4 : Int32), s0)
  else
  if a0 = (110 : Int32) then
    some ((-4 : Int32), s0)
  else
  if a0 = (111 : Int32) then
    some ((-4 : Int32), s0)
  else
  if a0 = (112 : Int32) then
    some ((-4 : Int32), s0)
  else
  if a0 = (113 : Int32) then
    some ((-4 : Int32), s0)
  else
  if a0 = (114 : Int32) then
    some ((2 : Int32), s0)
  else
  if a0 = (115 : Int32) then
    some ((-4 : Int32), s0)
  else
  if a0 = (116 : Int32) then
    some ((4 : Int32), s0)
  else
  some ((-4 : Int32), s0)
def m_rules_J253 (F : Nat) (k218 : Int32 → Int32 → St → Option (Int32 × St)) (x1 : Int32) (x3 : Int32) (y1 : Int32) (y2 : Int32) (s0 : St) : Option (Int32 × St) :=
    if inb y1 10 = true then
    k218 x1 (x3 + (1 : Int32)) (sI s0 5 (y1).toNatClampNeg y2)
    else none
def m_rules_L218b (F : Nat)  (k218 : Int32 → Int32 → St → Option (Int32 × St)) (x1 : Int32) (x3 : Int32) (s0 : St) : Option (Int32 × St) :=
    if (6 : Int32) ≤ x3 then
      some (x1, s0)
    else
      if inb x3 144 = true then
      if 0 ≤ (s0.1 8 (x3).toNatClampNeg) then
        if inb x3 144 = true then
        m_rules_J253 F k218 x1 x3 x3 (s0.1 8 (x3).toNatClampNeg) s0
        else none
      else
        if inb x3 10 = true then
        m_rules_J253 F k218 x1 x3 x3 (s0.1 5 (x3).toNatClampNeg) s0
        else none
      else none
def m_rules_L218 (F : Nat)  : Nat → Int32 → Int32 → St → Option (Int32 × St) := lp (fun _ _ _ => none) (m_rules_L218b F )
def m_rules_J188 (F : Nat) (k36 : Int32 → Int32 → St → Option (Int32 × St)) (x1 : Int32) (y0 : Int32) (s0 : St) : Option (Int32 × St) :=
    k36 x1 y0 s0
def m_rules_J187 (F : Nat) (k36 : Int32 → Int32 → St → Option (Int32 × St)) (x1 : Int32) (s0 : St) : Option (Int32 × St) :=
    m_rules_J188 F k36 x1 (0 : Int32) s0
def m_rules_J169 (F : Nat) (k36 : Int32 → Int32 → St → Option (Int32 × St)) (x1 : Int32) (s0 : St) : Option (Int32 × St) :=
    if (s0.1 0 9) = 0 then
      gB2 (m_here F s0) fun r1 s1 =>
      if r1 = 0 then
        m_rules_J187 F k36 x1 s1
      else
        m_rules_J188 F k36 x1 (1 : Int32) s1
    else
      m_rules_J187 F k36 x1 s0
def m_rules_J162 (F : Nat) (k36 : Int32 → Int32 → St → Option (Int32 × St)) (x1 : Int32) (y1 : Int32) (y2 : Int32) (s0 : St) : Option (Int32 × St) :=
    m_rules_J169 F k36 (x1 + (1 : Int32)) (sI s0 0 8 (y1 + y2))
def m_rules_J129 (F : Nat) (k36 : Int32 → Int32 → St → Option (Int32 × St)) (x1 : Int32) (x3 : Int32) (y1 : Int32) (s0 : St) : Option (Int32 × St) :=
    if y1 = 0 ∨ y1 = 1 then
    gB2 (m_here F (sI s0 0 9 y1)) fun r2 s2 =>
    if inb x3 144 = true then
    if ((sI s2 8 (x3).toNatClampNeg (r2 - (48 : Int32))).1 0 9) = 0 then
      m_rules_J162 F k36 x1 ((sI s2 8 (x3).toNatClampNeg (r2 - (48 : Int32))).1 0 8) (1 : Int32) (sI s2 8 (x3).toNatClampNeg (r2 - (48 : Int32)))
    else
      m_rules_J162 F k36 x1 ((sI s2 8 (x3).toNatClampNeg (r2 - (48 : Int32))).1 0 8) (0 : Int32) (sI s2 8 (x3).toNatClampNeg (r2 - (48 : Int32)))
    else none
    else none
def m_rules_J95 (F : Nat) (k36 : Int32 → Int32 → St → Option (Int32 × St)) (x1 : Int32) (x3 : Int32) (y1 : Int32) (y2 : Int32) (s0 : St) : Option (Int32 × St) :=
    if ((sI s0 0 8 (y1 + y2)).1 0 9) = 0 then
      gB2 (m_here F (sI s0 0 8 (y1 + y2))) fun r3 s3 =>
      gB2 (m_in F ((r3).toInt64) (48 : Int64) (57 : Int64) s3) fun r4 s4 =>
      if r4 = 0 then
        m_rules_J129 F k36 x1 x3 (1 : Int32) s4
      else
        m_rules_J129 F k36 x1 x3 (0 : Int32) s4
    else
      m_rules_J169 F k36 x1 (sI s0 0 8 (y1 + y2))
def m_rules_J75 (F : Nat) (k36 : Int32 → Int32 → St → Option (Int32 × St)) (x1 : Int32) (x3 : Int32) (y1 : Int32) (s0 : St) : Option (Int32 × St) :=
    if y1 = 0 ∨ y1 = 1 then
    if ((sI s0 0 9 y1).1 0 9) = 0 then
      m_rules_J95 F k36 x1 x3 ((sI s0 0 9 y1).1 0 8) (1 : Int32) (sI s0 0 9 y1)
    else
      m_rules_J95 F k36 x1 x3 ((sI s0 0 9 y1).1 0 8) (0 : Int32) (sI s0 0 9 y1)
    else none
def m_rules_J70 (F : Nat) (k36 : Int32 → Int32 → St → Option (Int32 × St)) (x1 : Int32) (x3 : Int32) (s0 : St) : Option (Int32 × St) :=
    m_rules_J75 F k36 x1 x3 (1 : Int32) s0
def m_rules_J66 (F : Nat) (k36 : Int32 → Int32 → St → Option (Int32 × St)) (x1 : Int32) (x3 : Int32) (y2 : Int32) (s0 : St) : Option (Int32 × St) :=
    if inb y2 144 = true then
    if (s0.1 8 (y2).toNatClampNeg) < 0 then
      m_rules_J75 F k36 x1 x3 (0 : Int32) s0
    else
      m_rules_J70 F k36 x1 x3 s0
    else none
def m_rules_L36b (F : Nat)  (k36 : Int32 → Int32 → St → Option (Int32 × St)) (x1 : Int32) (x2 : Int32) (s0 : St) : Option (Int32 × St) :=
    if x2 = 0 then
      if ((sI s0 0 7 (0 : Int32)).1 0 9) = 0 then
        m_rules_L218 F F x1 (0 : Int32) (sI s0 0 7 (0 : Int32))
      else
        gB2 (m_tells F ((-20 : Int32) - ((sI s0 0 7 (0 : Int32)).1 0 8)) (sI s0 0 7 (0 : Int32))) fun r5 s5 =>
        some (r5, s5)
    else
      gB2 (m_here F s0) fun r6 s6 =>
      gB2 (m_settingOf F r6 s6) fun r7 s7 =>
      if r7 < 0 then
        m_rules_J70 F k36 x1 r7 s7
      else
        if 0 ≤ r7 then
          m_rules_J66 F k36 x1 r7 r7 s7
        else
          m_rules_J66 F k36 x1 r7 (0 : Int32) s7
def m_rules_L36 (F : Nat)  : Nat → Int32 → Int32 → St → Option (Int32 × St) := lp (fun _ _ _ => none) (m_rules_L36b F )
def m_rules_L12b (F : Nat)  (k12 : Int32 → St → Option (Int32 × St)) (x1 : Int32) (s0 : St) : Option (Int32 × St) :=
    if (6 : Int32) ≤ x1 then
      m_rules_L36 F F (0 : Int32) (1 : Int32) s0
    else
      if inb x1 144 = true then
      k12 (x1 + (1 : Int32)) (sI s0 8 (x1).toNatClampNeg (-4 : Int32))
      else none
def m_rules_L12 (F : Nat)  : Nat → Int32 → St → Option (Int32 × St) := lp (fun _ _ => none) (m_rules_L12b F )
def m_rules (F : Nat)  (s0 : St) : Option (Int32 × St) :=
  m_rules_L12 F F (0 : Int32) (sI (sI s0 0 8 (0 : Int32)) 0 9 (0 : Int32))
def m_start_J19 (F : Nat)   (s0 : St) : Option (Int32 × St) :=
    gB2 (m_tells F (-1 : Int32) s0) fun r1 s1 =>
    some (r1, s1)
def m_start_J45 (F : Nat)   (s0 : St) : Option (Int32 × St) :=
    gB2 (m_tells F (-2 : Int32) s0) fun r2 s2 =>
    some (r2, s2)
def m_start_L76b (F : Nat)  (k76 : Int32 → Int32 → Int32 → St → Option (Int32 × St)) (x1 : Int32) (x2 : Int32) (x3 : Int32) (s0 : St) : Option (Int32 × St) :=
    if (144 : Int32) ≤ x3 then
      if inb (((5 : Int32) * x1) + x2) 720 = true then
      some ((1 : Int32), (sI (sJ s0 9 (((5 : Int32) * x1) + x2).toNatClampNeg (1099511627776 : Int64)) 0 13 (0 : Int32)))
      else none
    else
      if inb x3 144 = true then
      k76 x1 x2 (x3 + (1 : Int32)) (sI s0 4 (x3).toNatClampNeg (0 : Int32))
      else none
def m_start_L76 (F : Nat)  : Nat → Int32 → Int32 → Int32 → St → Option (Int32 × St) := lp (fun _ _ _ _ => none) (m_start_L76b F )
def m_start_L54b (F : Nat)  (k54 : Int32 → Int32 → Int32 → St → Option (Int32 × St)) (x1 : Int32) (x2 : Int32) (x3 : Int32) (s0 : St) : Option (Int32 × St) :=
    if (720 : Int32) ≤ x3 then
      m_start_L76 F F x1 x2 (0 : Int32) s0
    else
      if inb x3 720 = true then
      k54 x1 x2 (x3 + (1 : Int32)) (sJ s0 9 (x3).toNatClampNeg (0 : Int64))
      else none
def m_start_L54 (F : Nat)  : Nat → Int32 → Int32 → Int32 → St → Option (Int32 × St) := lp (fun _ _ _ _ => none) (m_start_L54b F )
def m_start (F : Nat) (a1 : Int32) (a2 : Int32) (s0 : St) : Option (Int32 × St) :=
  gB2 (m_isCell F a1 s0) fun r3 s3 =>
  if r3 = 0 then
    m_start_J19 F s3
  else
    gB2 (m_in F ((a2).toInt64) (0 : Int64) (3 : Int64) s3) fun r4 s4 =>
    if r4 = 0 then
      m_start_J19 F s4
    else
      if inb a1 144 = true then
      if (s4.1 2 (a1).toNatClampNeg) = (3 : Int32) then
        m_start_J45 F s4
      else
        if inb a1 144 = true then
        if (s4.1 2 (a1).toNatClampNeg) = (4 : Int32) then
          m_start_J45 F s4
        else
          m_start_L54 F F a1 a2 (0 : Int32) s4
        else none
      else none
def m_stopBehind_L8b (F : Nat)  (k8 : Int32 → St → Option (Int32 × St)) (x2 : Int32) (s0 : St) : Option (Int32 × St) :=
    if inb x2 144 = true then
    if (s0.1 2 (x2).toNatClampNeg) = (6 : Int32) then
      some (x2, s0)
    else
      k8 ((x2 + (1 : Int32)) - (x2 + (1 : Int32)) / (144 : Int32) * (144 : Int32)) s0
    else none
def m_stopBehind_L8 (F : Nat)  : Nat → Int32 → St → Option (Int32 × St) := lp (fun _ _ => none) (m_stopBehind_L8b F )
def m_stopBehind (F : Nat) (a1 : Int32) (s0 : St) : Option (Int32 × St) :=
  m_stopBehind_L8 F F ((a1 + (1 : Int32)) - (a1 + (1 : Int32)) / (144 : Int32) * (144 : Int32)) s0
def m_next_J82 (F : Nat)   (s0 : St) : Option (Int32 × St) :=
    some ((-4 : Int32), s0)
def m_next_J47 (F : Nat)  (x2 : Int32) (y0 : Int32) (y1 : Int32) (s0 : St) : Option (Int32 × St) :=
    gB2 (m_in F ((x2).toInt64) (0 : Int64) (11 : Int64) s0) fun r1 s1 =>
    if r1 = 0 then
      m_next_J82 F s1
    else
      gB2 (m_in F ((y0 + y1).toInt64) (0 : Int64) (11 : Int64) s1) fun r2 s2 =>
      if r2 = 0 then
        m_next_J82 F s2
      else
        some (((12 : Int32) * x2) + (y0 + y1), s2)
def m_next_J22 (F : Nat)  (x0 : Int32) (x1 : Int32) (y0 : Int32) (y1 : Int32) (s0 : St) : Option (Int32 × St) :=
    if x1 = (1 : Int32) then
      m_next_J47 F (y0 + y1) (x0 - x0 / (12 : Int32) * (12 : Int32)) (1 : Int32) s0
    else
      if x1 = (3 : Int32) then
        m_next_J47 F (y0 + y1) (x0 - x0 / (12 : Int32) * (12 : Int32)) (-1 : Int32) s0
      else
        m_next_J47 F (y0 + y1) (x0 - x0 / (12 : Int32) * (12 : Int32)) (0 : Int32) s0
def m_next (F : Nat) (a0 : Int32) (a1 : Int32) (s0 : St) : Option (Int32 × St) :=
  if a1 = 0 then
    m_next_J22 F a0 a1 (a0 / (12 : Int32)) (-1 : Int32) s0
  else
    if a1 = (2 : Int32) then
      m_next_J22 F a0 a1 (a0 / (12 : Int32)) (1 : Int32) s0
    else
      m_next_J22 F a0 a1 (a0 / (12 : Int32)) (0 : Int32) s0
def m_weight_J34 (F : Nat)   (s0 : St) : Option (Int32 × St) :=
    some ((0 : Int32), s0)
def m_weight (F : Nat) (a1 : Int32) (a2 : Int32) (a3 : Int32) (s0 : St) : Option (Int32 × St) :=
  gB2 (m_next F a1 a2 s0) fun r1 s1 =>
  if r1 < 0 then
    m_weight_J34 F s1
  else
    if inb r1 144 = true then
    if (s1.1 2 (r1).toNatClampNeg) = (3 : Int32) then
      m_weight_J34 F s1
    else
      if inb r1 144 = true then
      if (s1.1 2 (r1).toNatClampNeg) = (4 : Int32) then
        m_weight_J34 F s1
      else
        if inb a3 10 = true then
        if inb r1 144 = true then
        some ((s1.1 5 (a3).toNatClampNeg) * ((1 : Int32) + (s1.1 3 (r1).toNatClampNeg)), s1)
        else none
        else none
      else none
    else none
def m_goes_J303 (F : Nat)  (x1 : Int32) (x8 : Int64) (s0 : St) : Option St :=
    if inb (((5 : Int32) * x1) + (4 : Int32)) 720 = true then
    if inb (((5 : Int32) * x1) + (4 : Int32)) 720 = true then
    some (sJ s0 10 (((5 : Int32) * x1) + (4 : Int32)).toNatClampNeg ((s0.2 10 (((5 : Int32) * x1) + (4 : Int32)).toNatClampNeg) + x8))
    else none
    else none
def m_goes_J261 (F : Nat)  (x1 : Int32) (x2 : Int32) (x3 : Int64) (x6 : Int32) (x7 : Int32) (x8 : Int64) (s0 : St) : Option St :=
    if x6 ≤ 0 then
      m_goes_J303 F x1 x8 s0
    else
      if ((x7).toInt64) = 0 then none else
      gB2 (m_stopBehind F x1 s0) fun r1 s1 =>
      if inb (((5 : Int32) * r1) + x2) 720 = true then
      if inb (((5 : Int32) * r1) + x2) 720 = true then
      m_goes_J303 F x1 (x8 - ((x3 * ((x6).toInt64)) / ((x7).toInt64))) (sJ s1 10 (((5 : Int32) * r1) + x2).toNatClampNeg ((s1.2 10 (((5 : Int32) * r1) + x2).toNatClampNeg) + ((x3 * ((x6).toInt64)) / ((x7).toInt64))))
      else none
      else none
def m_goes_J255 (F : Nat) (k152 : Int32 → Int32 → Int64 → Int32 → Int32 → Int64 → Int32 → St → Option St) (x1 : Int32) (x2 : Int32) (x3 : Int64) (x6 : Int32) (x7 : Int32) (x8 : Int64) (x10 : Int32) (s0 : St) : Option St :=
    k152 x1 x2 x3 x6 x7 x8 (x10 + (1 : Int32)) s0
def m_goes_J195 (F : Nat) (k152 : Int32 → Int32 → Int64 → Int32 → Int32 → Int64 → Int32 → St → Option St) (x1 : Int32) (x2 : Int32) (x3 : Int64) (x6 : Int32) (x7 : Int32) (x8 : Int64) (x10 : Int32) (y0 : Int32) (y1 : Int32) (s0 : St) : Option St :=
    gB2 (m_weight F x1 ((y0 + y1) - (y0 + y1) / (4 : Int32) * (4 : Int32)) x10 s0) fun r2 s2 =>
    if r2 ≤ 0 then
      m_goes_J255 F k152 x1 x2 x3 x6 x7 x8 x10 s2
    else
      if ((x7).toInt64) = 0 then none else
      gB2 (m_next F x1 ((y0 + y1) - (y0 + y1) / (4 : Int32) * (4 : Int32)) s2) fun r3 s3 =>
      if inb (((5 : Int32) * r3) + ((y0 + y1) - (y0 + y1) / (4 : Int32) * (4 : Int32))) 720 = true then
      if inb (((5 : Int32) * r3) + ((y0 + y1) - (y0 + y1) / (4 : Int32) * (4 : Int32))) 720 = true then
      m_goes_J255 F k152 x1 x2 x3 x6 x7 (x8 - ((x3 * ((r2).toInt64)) / ((x7).toInt64))) x10 (sJ s3 10 (((5 : Int32) * r3) + ((y0 + y1) - (y0 + y1) / (4 : Int32) * (4 : Int32))).toNatClampNeg ((s3.2 10 (((5 : Int32) * r3) + ((y0 + y1) - (y0 + y1) / (4 : Int32) * (4 : Int32))).toNatClampNeg) + ((x3 * ((r2).toInt64)) / ((x7).toInt64))))
      else none
      else none
def m_goes_L152b (F : Nat)  (k152 : Int32 → Int32 → Int64 → Int32 → Int32 → Int64 → Int32 → St → Option St) (x1 : Int32) (x2 : Int32) (x3 : Int64) (x6 : Int32) (x7 : Int32) (x8 : Int64) (x10 : Int32) (s0 : St) : Option St :=
    if (4 : Int32) ≤ x10 then
      m_goes_J261 F x1 x2 x3 x6 x7 x8 s0
    else
      if x7 ≤ 0 then
        m_goes_J261 F x1 x2 x3 x6 x7 x8 s0
      else
        if x10 = (1 : Int32) then
          m_goes_J195 F k152 x1 x2 x3 x6 x7 x8 x10 x2 (3 : Int32) s0
        else
          if x10 = (2 : Int32) then
            m_goes_J195 F k152 x1 x2 x3 x6 x7 x8 x10 x2 (1 : Int32) s0
          else
            if x10 = (3 : Int32) then
              m_goes_J195 F k152 x1 x2 x3 x6 x7 x8 x10 x2 (2 : Int32) s0
            else
              m_goes_J195 F k152 x1 x2 x3 x6 x7 x8 x10 x2 (0 : Int32) s0
def m_goes_L152 (F : Nat)  : Nat → Int32 → Int32 → Int64 → Int32 → Int32 → Int64 → Int32 → St → Option St := lp (fun _ _ _ _ _ _ _ _ => none) (m_goes_L152b F )
def m_goes_J129 (F : Nat) (k87 : Int32 → Int32 → Int64 → Int32 → Int32 → Int32 → St → Option St) (x1 : Int32) (x2 : Int32) (x3 : Int64) (x6 : Int32) (x8 : Int32) (y0 : Int32) (y2 : Int32) (y3 : Int32) (y4 : Int32) (s0 : St) : Option St :=
    gB2 (m_weight F y2 ((y3 + y4) - (y3 + y4) / (4 : Int32) * (4 : Int32)) x8 s0) fun r4 s4 =>
    k87 x1 x2 x3 x6 (y0 + r4) (x8 + (1 : Int32)) s4
def m_goes_L87b (F : Nat)  (k87 : Int32 → Int32 → Int64 → Int32 → Int32 → Int32 → St → Option St) (x1 : Int32) (x2 : Int32) (x3 : Int64) (x6 : Int32) (x7 : Int32) (x8 : Int32) (s0 : St) : Option St :=
    if (4 : Int32) ≤ x8 then
      m_goes_L152 F F x1 x2 x3 x6 x7 x3 (0 : Int32) s0
    else
      if x8 = (1 : Int32) then
        m_goes_J129 F k87 x1 x2 x3 x6 x8 x7 x1 x2 (3 : Int32) s0
      else
        if x8 = (2 : Int32) then
          m_goes_J129 F k87 x1 x2 x3 x6 x8 x7 x1 x2 (1 : Int32) s0
        else
          if x8 = (3 : Int32) then
            m_goes_J129 F k87 x1 x2 x3 x6 x8 x7 x1 x2 (2 : Int32) s0
          else
            m_goes_J129 F k87 x1 x2 x3 x6 x8 x7 x1 x2 (0 : Int32) s0
def m_goes_L87 (F : Nat)  : Nat → Int32 → Int32 → Int64 → Int32 → Int32 → Int32 → St → Option St := lp (fun _ _ _ _ _ _ _ => none) (m_goes_L87b F )
def m_goes_J75 (F : Nat)  (x1 : Int32) (x2 : Int32) (x3 : Int64) (x5 : Int32) (y0 : Int32) (s0 : St) : Option St :=
    m_goes_L87 F F x1 x2 x3 y0 (x5 + y0) (0 : Int32) s0
def m_goes_J74 (F : Nat)  (x1 : Int32) (x2 : Int32) (x3 : Int64) (x5 : Int32) (s0 : St) : Option St :=
    m_goes_J75 F x1 x2 x3 x5 (0 : Int32) s0
def m_goes_J41 (F : Nat)  (x1 : Int32) (x2 : Int32) (x3 : Int64) (y0 : Int32) (y1 : Int32) (s0 : St) : Option St :=
    if inb x1 144 = true then
    if (s0.1 2 (x1).toNatClampNeg) = (6 : Int32) then
      if ((s0.1 0 13) - (s0.1 0 13) / (15 : Int32) * (15 : Int32)) = 0 then
        if inb (5 : Int32) 10 = true then
        m_goes_J75 F x1 x2 x3 (y0 + y1) (s0.1 5 ((5 : Int32)).toNatClampNeg) s0
        else none
      else
        m_goes_J74 F x1 x2 x3 (y0 + y1) s0
    else
      m_goes_J74 F x1 x2 x3 (y0 + y1) s0
    else none
def m_goes (F : Nat) (a1 : Int32) (a2 : Int32) (s0 : St) : Option St :=
  if inb (((5 : Int32) * a1) + a2) 720 = true then
  if inb a1 144 = true then
  if inb (s0.1 2 (a1).toNatClampNeg) 8 = true then
  if (s0.1 0 13) < (120 : Int32) then
    m_goes_J41 F a1 a2 (s0.2 9 (((5 : Int32) * a1) + a2).toNatClampNeg) (s0.1 6 (s0.1 2 (a1).toNatClampNeg).toNatClampNeg) (0 : Int32) s0
  else
    if inb (4 : Int32) 10 = true then
    m_goes_J41 F a1 a2 (s0.2 9 (((5 : Int32) * a1) + a2).toNatClampNeg) (s0.1 6 (s0.1 2 (a1).toNatClampNeg).toNatClampNeg) (s0.1 5 ((4 : Int32)).toNatClampNeg) s0
    else none
  else none
  else none
  else none
def m_night_L141b (F : Nat) (k53 : Int32 → Int32 → St → Option (Int32 × St)) (k141 : Int32 → Int32 → Int32 → St → Option (Int32 × St)) (x1 : Int32) (x2 : Int32) (x3 : Int32) (s0 : St) : Option (Int32 × St) :=
    if (720 : Int32) ≤ x3 then
      k53 x1 (x2 + (1 : Int32)) (sI s0 0 13 ((s0.1 0 13) + (1 : Int32)))
    else
      if inb x3 720 = true then
      if inb x3 720 = true then
      k141 x1 x2 (x3 + (1 : Int32)) (sJ s0 9 (x3).toNatClampNeg (s0.2 10 (x3).toNatClampNeg))
      else none
      else none
def m_night_L141 (F : Nat) (k53 : Int32 → Int32 → St → Option (Int32 × St)) : Nat → Int32 → Int32 → Int32 → St → Option (Int32 × St) := lp (fun _ _ _ _ => none) (m_night_L141b F k53)
def m_night_J133 (F : Nat) (k53 : Int32 → Int32 → St → Option (Int32 × St)) (k98 : Int32 → Int32 → Int32 → St → Option (Int32 × St)) (x1 : Int32) (x2 : Int32) (x3 : Int32) (s0 : St) : Option (Int32 × St) :=
    k98 x1 x2 (x3 + (1 : Int32)) s0
def m_night_L98b (F : Nat) (k53 : Int32 → Int32 → St → Option (Int32 × St)) (k98 : Int32 → Int32 → Int32 → St → Option (Int32 × St)) (x1 : Int32) (x2 : Int32) (x3 : Int32) (s0 : St) : Option (Int32 × St) :=
    if (720 : Int32) ≤ x3 then
      m_night_L141 F k53 F x1 x2 (0 : Int32) s0
    else
      if (4 : Int32) ≤ (x3 - x3 / (5 : Int32) * (5 : Int32)) then
        m_night_J133 F k53 k98 x1 x2 x3 s0
      else
        if inb x3 720 = true then
        if (lg_cmp (s0.2 9 (x3).toNatClampNeg) (0 : Int64)) ≤ 0 then
          m_night_J133 F k53 k98 x1 x2 x3 s0
        else
          gB (m_goes F (x3 / (5 : Int32)) (x3 - x3 / (5 : Int32) * (5 : Int32)) s0) fun s1 =>
          m_night_J133 F k53 k98 x1 x2 x3 s1
        else none
def m_night_L98 (F : Nat) (k53 : Int32 → Int32 → St → Option (Int32 × St)) : Nat → Int32 → Int32 → Int32 → St → Option (Int32 × St) := lp (fun _ _ _ _ => none) (m_night_L98b F k53)
def m_night_J89 (F : Nat) (k53 : Int32 → Int32 → St → Option (Int32 × St)) (k60 : Int32 → Int32 → Int32 → St → Option (Int32 × St)) (x1 : Int32) (x2 : Int32) (x3 : Int32) (y1 : Int32) (y2 : Int64) (s0 : St) : Option (Int32 × St) :=
    if inb y1 720 = true then
    k60 x1 x2 (x3 + (1 : Int32)) (sJ s0 10 (y1).toNatClampNeg y2)
    else none
def m_night_L60b (F : Nat) (k53 : Int32 → Int32 → St → Option (Int32 × St)) (k60 : Int32 → Int32 → Int32 → St → Option (Int32 × St)) (x1 : Int32) (x2 : Int32) (x3 : Int32) (s0 : St) : Option (Int32 × St) :=
    if (720 : Int32) ≤ x3 then
      m_night_L98 F k53 F x1 x2 (0 : Int32) s0
    else
      if (x3 - x3 / (5 : Int32) * (5 : Int32)) = (4 : Int32) then
        if inb x3 720 = true then
        m_night_J89 F k53 k60 x1 x2 x3 x3 (s0.2 9 (x3).toNatClampNeg) s0
        else none
      else
        m_night_J89 F k53 k60 x1 x2 x3 x3 (0 : Int64) s0
def m_night_L60 (F : Nat) (k53 : Int32 → Int32 → St → Option (Int32 × St)) : Nat → Int32 → Int32 → Int32 → St → Option (Int32 × St) := lp (fun _ _ _ _ => none) (m_night_L60b F k53)
def m_night_L53b (F : Nat)  (k53 : Int32 → Int32 → St → Option (Int32 × St)) (x1 : Int32) (x2 : Int32) (s0 : St) : Option (Int32 × St) :=
    if x1 ≤ x2 then
      some (s0.1 0 13, s0)
    else
      m_night_L60 F k53 F x1 x2 (0 : Int32) s0
def m_night_L53 (F : Nat)  : Nat → Int32 → Int32 → St → Option (Int32 × St) := lp (fun _ _ _ => none) (m_night_L53b F )
def m_night (F : Nat) (a1 : Int32) (s0 : St) : Option (Int32 × St) :=
  gB2 (m_in F ((a1).toInt64) (1 : Int64) (60 : Int64) s0) fun r2 s2 =>
  if r2 = 0 then
    gB2 (m_tells F (-1 : Int32) s2) fun r5 s5 =>
    some (r5, s5)
  else
    if 0 ≤ (s2.1 0 13) then
      if ((s2.1 0 13) + a1) ≤ (999 : Int32) then
        m_night_L53 F F a1 (0 : Int32) s2
      else
        gB2 (m_tells F (-3 : Int32) s2) fun r3 s3 =>
        some (r3, s3)
    else
      gB2 (m_tells F (-2 : Int32) s2) fun r4 s4 =>
      some (r4, s4)
def m_partsOf_L5b (F : Nat)  (k5 : Int32 → Int64 → Int32 → St → Option (Int64 × St)) (x1 : Int32) (x2 : Int64) (x4 : Int32) (s0 : St) : Option (Int64 × St) :=
    if (5 : Int32) ≤ x4 then
      some (x2, s0)
    else
      if inb (((5 : Int32) * x1) + x4) 720 = true then
      k5 x1 (x2 + (s0.2 9 (((5 : Int32) * x1) + x4).toNatClampNeg)) (x4 + (1 : Int32)) s0
      else none
def m_partsOf_L5 (F : Nat)  : Nat → Int32 → Int64 → Int32 → St → Option (Int64 × St) := lp (fun _ _ _ _ => none) (m_partsOf_L5b F )
def m_partsOf (F : Nat) (a1 : Int32) (s0 : St) : Option (Int64 × St) :=
  m_partsOf_L5 F F a1 (0 : Int64) (0 : Int32) s0
def m_parts_J19 (F : Nat)   (s0 : St) : Option (Int64 × St) :=
    gB2 (m_says F (-1 : Int64) s0) fun r1 s1 =>
    some (r1, s1)
def m_parts (F : Nat) (a1 : Int32) (a2 : Int32) (s0 : St) : Option (Int64 × St) :=
  gB2 (m_isCell F a1 s0) fun r2 s2 =>
  if r2 = 0 then
    m_parts_J19 F s2
  else
    gB2 (m_in F ((a2).toInt64) (0 : Int64) (5 : Int64) s2) fun r3 s3 =>
    if r3 = 0 then
      m_parts_J19 F s3
    else
      if (5 : Int32) ≤ a2 then
        gB2 (m_partsOf F a1 s3) fun r4 s4 =>
        some (r4, s4)
      else
        if inb (((5 : Int32) * a1) + a2) 720 = true then
        some (s3.2 9 (((5 : Int32) * a1) + a2).toNatClampNeg, s3)
        else none
def m_all_L4b (F : Nat)  (k4 : Int64 → Int32 → St → Option (Int64 × St)) (x1 : Int64) (x3 : Int32) (s0 : St) : Option (Int64 × St) :=
    if (720 : Int32) ≤ x3 then
      some (x1, s0)
    else
      if inb x3 720 = true then
      k4 (x1 + (s0.2 9 (x3).toNatClampNeg)) (x3 + (1 : Int32)) s0
      else none
def m_all_L4 (F : Nat)  : Nat → Int64 → Int32 → St → Option (Int64 × St) := lp (fun _ _ _ => none) (m_all_L4b F )
def m_all (F : Nat)  (s0 : St) : Option (Int64 × St) :=
  m_all_L4 F F (0 : Int64) (0 : Int32) s0
def m_lowest_L6b (F : Nat)  (k6 : Int64 → Int64 → Int32 → Int64 → Int64 → St → Option (Int64 × St)) (x0 : Int64) (x2 : Int64) (x4 : Int32) (x5 : Int64) (x7 : Int64) (s0 : St) : Option (Int64 × St) :=
    if (lg_cmp x7 (0 : Int64)) = 0 then
      if x4 = 0 then
        if x5 = 0 then none else
        some (x0 / x5, s0)
      else
        if x5 = 0 then none else
        some (x2 / x5, s0)
    else
      if x7 = 0 then none else
      k6 x0 x2 x4 x7 (x5 - x5 / x7 * x7) s0
def m_lowest_L6 (F : Nat)  : Nat → Int64 → Int64 → Int32 → Int64 → Int64 → St → Option (Int64 × St) := lp (fun _ _ _ _ _ _ => none) (m_lowest_L6b F )
def m_lowest (F : Nat) (a0 : Int64) (a2 : Int64) (a4 : Int32) (s0 : St) : Option (Int64 × St) :=
  m_lowest_L6 F F a0 a2 a4 a0 a2 s0
def m_odds_J17 (F : Nat)   (s0 : St) : Option (Int64 × St) :=
    gB2 (m_says F (-1 : Int64) s0) fun r1 s1 =>
    some (r1, s1)
def m_odds (F : Nat) (a1 : Int32) (a2 : Int32) (s0 : St) : Option (Int64 × St) :=
  gB2 (m_isCell F a1 s0) fun r2 s2 =>
  if r2 = 0 then
    m_odds_J17 F s2
  else
    gB2 (m_in F ((a2).toInt64) (0 : Int64) (1 : Int64) s2) fun r3 s3 =>
    if r3 = 0 then
      m_odds_J17 F s3
    else
      gB2 (m_all F s3) fun r4 s4 =>
      if (lg_cmp r4 (0 : Int64)) = 0 then
        gB2 (m_says F (-4 : Int64) s4) fun r8 s8 =>
        some (r8, s8)
      else
        gB2 (m_partsOf F a1 s4) fun r5 s5 =>
        gB2 (m_all F s5) fun r6 s6 =>
        gB2 (m_lowest F r5 r6 a2 s6) fun r7 s7 =>
        some (r7, s7)
def m_where_J85 (F : Nat) (k24 : Int32 → Int32 → Int64 → Int32 → St → Option (Int32 × St)) (x1 : Int32) (x2 : Int32) (x5 : Int32) (y0 : Int64) (s0 : St) : Option (Int32 × St) :=
    k24 x1 x2 y0 (x5 + (1 : Int32)) s0
def m_where_J71 (F : Nat) (k24 : Int32 → Int32 → Int64 → Int32 → St → Option (Int32 × St)) (x1 : Int32) (x3 : Int64) (x5 : Int32) (x6 : Int64) (y0 : Int32) (s0 : St) : Option (Int32 × St) :=
    if (lg_cmp x6 x3) ≤ 0 then
      m_where_J85 F k24 x1 y0 x5 x3 s0
    else
      m_where_J85 F k24 x1 y0 x5 x6 s0
def m_where_J56 (F : Nat) (k24 : Int32 → Int32 → Int64 → Int32 → St → Option (Int32 × St)) (x1 : Int32) (x2 : Int32) (x3 : Int64) (x5 : Int32) (y0 : Int64) (s0 : St) : Option (Int32 × St) :=
    if (lg_cmp y0 x3) ≤ 0 then
      m_where_J71 F k24 x1 x3 x5 y0 x2 s0
    else
      m_where_J71 F k24 x1 x3 x5 y0 x5 s0
def m_where_L24b (F : Nat)  (k24 : Int32 → Int32 → Int64 → Int32 → St → Option (Int32 × St)) (x1 : Int32) (x2 : Int32) (x3 : Int64) (x5 : Int32) (s0 : St) : Option (Int32 × St) :=
    if (144 : Int32) ≤ x5 then
      gB2 (m_tells F x2 s0) fun r1 s1 =>
      some (r1, s1)
    else
      if x1 = 0 then
        gB2 (m_partsOf F x5 s0) fun r2 s2 =>
        m_where_J56 F k24 x1 x2 x3 x5 r2 s2
      else
        if inb (((5 : Int32) * x5) + (4 : Int32)) 720 = true then
        m_where_J56 F k24 x1 x2 x3 x5 (s0.2 9 (((5 : Int32) * x5) + (4 : Int32)).toNatClampNeg) s0
        else none
def m_where_L24 (F : Nat)  : Nat → Int32 → Int32 → Int64 → Int32 → St → Option (Int32 × St) := lp (fun _ _ _ _ _ => none) (m_where_L24b F )
def m_where (F : Nat) (a1 : Int32) (s0 : St) : Option (Int32 × St) :=
  gB2 (m_in F ((a1).toInt64) (0 : Int64) (1 : Int64) s0) fun r3 s3 =>
  if r3 = 0 then
    gB2 (m_tells F (-1 : Int32) s3) fun r4 s4 =>
    some (r4, s4)
  else
    m_where_L24 F F a1 (-4 : Int32) (0 : Int64) (0 : Int32) s3
def m_cellsOf_J27 (F : Nat) (k4 : Int32 → Int32 → Int32 → St → Option (Int32 × St)) (x1 : Int32) (x3 : Int32) (y0 : Int32) (y1 : Int32) (s0 : St) : Option (Int32 × St) :=
    k4 x1 (y0 + y1) (x3 + (1 : Int32)) s0
def m_cellsOf_L4b (F : Nat)  (k4 : Int32 → Int32 → Int32 → St → Option (Int32 × St)) (x1 : Int32) (x2 : Int32) (x3 : Int32) (s0 : St) : Option (Int32 × St) :=
    if (144 : Int32) ≤ x3 then
      some (x2, s0)
    else
      if inb x3 144 = true then
      if (s0.1 2 (x3).toNatClampNeg) = x1 then
        m_cellsOf_J27 F k4 x1 x3 x2 (1 : Int32) s0
      else
        m_cellsOf_J27 F k4 x1 x3 x2 (0 : Int32) s0
      else none
def m_cellsOf_L4 (F : Nat)  : Nat → Int32 → Int32 → Int32 → St → Option (Int32 × St) := lp (fun _ _ _ _ => none) (m_cellsOf_L4b F )
def m_cellsOf (F : Nat) (a1 : Int32) (s0 : St) : Option (Int32 × St) :=
  m_cellsOf_L4 F F a1 (0 : Int32) (0 : Int32) s0
def m_count_J26 (F : Nat) (k4 : Int32 → Int32 → Int32 → St → Option (Int32 × St)) (x1 : Int32) (x3 : Int32) (y0 : Int32) (y1 : Int32) (s0 : St) : Option (Int32 × St) :=
    k4 x1 (y0 + y1) (x3 + (1 : Int32)) s0
def m_count_L4b (F : Nat)  (k4 : Int32 → Int32 → Int32 → St → Option (Int32 × St)) (x1 : Int32) (x2 : Int32) (x3 : Int32) (s0 : St) : Option (Int32 × St) :=
    if (144 : Int32) ≤ x3 then
      if x1 = (0 : Int32) then
        gB2 (m_tells F (s0.1 0 13) s0) fun r1 s1 =>
        some (r1, s1)
      else
      if x1 = (1 : Int32) then
        some (s0.1 0 14, s0)
      else
      if x1 = (2 : Int32) then
        some (s0.1 0 18, s0)
      else
      if x1 = (3 : Int32) then
        some (s0.1 0 21, s0)
      else
      if x1 = (4 : Int32) then
        some (s0.1 0 27, s0)
      else
      if x1 = (5 : Int32) then
        some (s0.1 0 31, s0)
      else
      if x1 = (6 : Int32) then
        some (x2, s0)
      else
      if x1 = (7 : Int32) then
        gB2 (m_cellsOf F (6 : Int32) s0) fun r2 s2 =>
        some (r2, s2)
      else
      if x1 = (8 : Int32) then
        gB2 (m_cellsOf F (7 : Int32) s0) fun r3 s3 =>
        some (r3, s3)
      else
      gB2 (m_tells F (-1 : Int32) s0) fun r4 s4 =>
      some (r4, s4)
    else
      if inb x3 144 = true then
      if (s0.1 4 (x3).toNatClampNeg) ≤ 0 then
        m_count_J26 F k4 x1 x3 x2 (0 : Int32) s0
      else
        m_count_J26 F k4 x1 x3 x2 (1 : Int32) s0
      else none
def m_count_L4 (F : Nat)  : Nat → Int32 → Int32 → Int32 → St → Option (Int32 × St) := lp (fun _ _ _ _ => none) (m_count_L4b F )
def m_count (F : Nat) (a1 : Int32) (s0 : St) : Option (Int32 × St) :=
  m_count_L4 F F a1 (0 : Int32) (0 : Int32) s0
def m_plain_J177 (F : Nat)   (s0 : St) : Option (Int32 × St) :=
    some ((2 : Int32), s0)
def m_plain_J109 (F : Nat)   (s0 : St) : Option (Int32 × St) :=
    some ((0 : Int32), s0)
def m_plain_J146 (F : Nat)   (s0 : St) : Option (Int32 × St) :=
    some ((10 : Int32), s0)
def m_plain (F : Nat) (a0 : Int32) (a1 : Int32) (s0 : St) : Option (Int32 × St) :=
  if a0 = (0 : Int32) then
    if a1 = 0 then
      some ((12 : Int32), s0)
    else
      if a1 = (1 : Int32) then
        some ((14 : Int32), s0)
      else
        if a1 = (2 : Int32) then
          some ((6 : Int32), s0)
        else
          if a1 = (3 : Int32) then
            some ((0 : Int32), s0)
          else
            if a1 = (4 : Int32) then
              some ((8 : Int32), s0)
            else
              if a1 = (5 : Int32) then
                some ((4 : Int32), s0)
              else
                if a1 = (6 : Int32) then
                  some ((14 : Int32), s0)
                else
                  some ((10 : Int32), s0)
  else
  if a0 = (1 : Int32) then
    if a1 = (3 : Int32) then
      m_plain_J109 F s0
    else
      if a1 = (4 : Int32) then
        m_plain_J109 F s0
      else
        some ((12 : Int32), s0)
  else
  if a0 = (2 : Int32) then
    if (2 : Int32) ≤ a1 then
      if a1 = (2 : Int32) then
        some ((4 : Int32), s0)
      else
        if a1 = (4 : Int32) then
          m_plain_J146 F s0
        else
          if a1 = (6 : Int32) then
            m_plain_J146 F s0
          else
            if a1 = (5 : Int32) then
              some ((8 : Int32), s0)
            else
              some ((0 : Int32), s0)
    else
      some ((14 : Int32), s0)
  else
  if a1 = 0 then
    m_plain_J177 F s0
  else
    if a1 = (2 : Int32) then
      m_plain_J177 F s0
    else
      if a1 = (5 : Int32) then
        m_plain_J177 F s0
      else
        if a1 = (1 : Int32) then
          some ((8 : Int32), s0)
        else
          if a1 = (6 : Int32) then
            some ((12 : Int32), s0)
          else
            if a1 = (7 : Int32) then
              some ((10 : Int32), s0)
            else
              some ((0 : Int32), s0)
def m_sixteenths_J81 (F : Nat)  (x1 : Int32) (x3 : Int32) (x5 : Int32) (y0 : Int32) (s0 : St) : Option (Int32 × St) :=
    if x3 = 0 then
      some (x5, s0)
    else
      if x1 = (3 : Int32) then
        some ((0 : Int32), s0)
      else
        if y0 = 0 then
          some (x5, s0)
        else
          some (x5 / (2 : Int32), s0)
def m_sixteenths_J76 (F : Nat)  (x1 : Int32) (x3 : Int32) (x5 : Int32) (s0 : St) : Option (Int32 × St) :=
    m_sixteenths_J81 F x1 x3 x5 (1 : Int32) s0
def m_sixteenths_J54 (F : Nat)  (x1 : Int32) (x2 : Int32) (x3 : Int32) (y0 : Int32) (s0 : St) : Option (Int32 × St) :=
    if inb x2 144 = true then
    if (s0.1 2 (x2).toNatClampNeg) = (2 : Int32) then
      m_sixteenths_J76 F x1 x3 y0 s0
    else
      if inb x2 144 = true then
      if (s0.1 2 (x2).toNatClampNeg) = (5 : Int32) then
        m_sixteenths_J76 F x1 x3 y0 s0
      else
        m_sixteenths_J81 F x1 x3 y0 (0 : Int32) s0
      else none
    else none
def m_sixteenths_J52 (F : Nat)  (x1 : Int32) (x2 : Int32) (x3 : Int32) (x5 : Int32) (s0 : St) : Option (Int32 × St) :=
    m_sixteenths_J54 F x1 x2 x3 x5 s0
def m_sixteenths_J45 (F : Nat)  (x1 : Int32) (x2 : Int32) (x3 : Int32) (x5 : Int32) (s0 : St) : Option (Int32 × St) :=
    m_sixteenths_J54 F x1 x2 x3 (x5 / (2 : Int32)) s0
def m_sixteenths_J28 (F : Nat)  (x1 : Int32) (x2 : Int32) (x3 : Int32) (x4 : Int32) (x5 : Int32) (s0 : St) : Option (Int32 × St) :=
    if x1 = (1 : Int32) then
      if inb (9 : Int32) 10 = true then
      if x4 < (s0.1 5 ((9 : Int32)).toNatClampNeg) then
        m_sixteenths_J52 F x1 x2 x3 x5 s0
      else
        m_sixteenths_J45 F x1 x2 x3 x5 s0
      else none
    else
      m_sixteenths_J52 F x1 x2 x3 x5 s0
def m_sixteenths (F : Nat) (a1 : Int32) (a2 : Int32) (a3 : Int32) (a4 : Int32) (s0 : St) : Option (Int32 × St) :=
  if inb a2 144 = true then
  gB2 (m_plain F a1 (s0.1 2 (a2).toNatClampNeg) s0) fun r1 s1 =>
  if a1 = 0 then
    if inb (8 : Int32) 10 = true then
    if (s1.1 5 ((8 : Int32)).toNatClampNeg) ≤ a4 then
      m_sixteenths_J45 F a1 a2 a3 r1 s1
    else
      m_sixteenths_J28 F a1 a2 a3 a4 r1 s1
    else none
  else
    m_sixteenths_J28 F a1 a2 a3 a4 r1 s1
  else none
def m_isSort (F : Nat) (a0 : Int32) (s0 : St) : Option (Int32 × St) :=
  gB2 (m_in F ((a0).toInt64) (0 : Int64) (3 : Int64) s0) fun r1 s1 =>
  if r1 = 0 ∨ r1 = 1 then some (r1, s1) else none
def m_sees_J24 (F : Nat)   (s0 : St) : Option (Int32 × St) :=
    gB2 (m_tells F (-1 : Int32) s0) fun r1 s1 =>
    some (r1, s1)
def m_sees_J59 (F : Nat)  (y1 : Int32) (y2 : Int32) (y3 : Int32) (s0 : St) : Option (Int32 × St) :=
    gB2 (m_sixteenths F y1 y2 y3 (s0.1 0 13) s0) fun r2 s2 =>
    some (r2, s2)
def m_sees (F : Nat) (a1 : Int32) (a2 : Int32) (a3 : Int32) (s0 : St) : Option (Int32 × St) :=
  gB2 (m_isSort F a1 s0) fun r3 s3 =>
  if r3 = 0 then
    m_sees_J24 F s3
  else
    gB2 (m_isCell F a2 s3) fun r4 s4 =>
    if r4 = 0 then
      m_sees_J24 F s4
    else
      gB2 (m_in F ((a3).toInt64) (0 : Int64) (1 : Int64) s4) fun r5 s5 =>
      if r5 = 0 then
        m_sees_J24 F s5
      else
        if 0 ≤ (s5.1 0 13) then
          if a3 = (1 : Int32) then
            m_sees_J59 F a1 a2 (1 : Int32) s5
          else
            m_sees_J59 F a1 a2 (0 : Int32) s5
        else
          gB2 (m_tells F (-2 : Int32) s5) fun r6 s6 =>
          some (r6, s6)
def m_search_J14 (F : Nat)   (s0 : St) : Option (Int32 × St) :=
    gB2 (m_tells F (-1 : Int32) s0) fun r1 s1 =>
    some (r1, s1)
def m_search_J98 (F : Nat) (k55 : Int32 → Int32 → Int64 → Int32 → St → Option (Int32 × St)) (x1 : Int32) (x2 : Int32) (x3 : Int64) (x5 : Int32) (y1 : Int32) (y2 : Int64) (y3 : Int64) (y5 : Int32) (y6 : Int32) (y7 : Int32) (s0 : St) : Option (Int32 × St) :=
    gB2 (m_sixteenths F y5 y6 y7 (s0.1 0 13) s0) fun r2 s2 =>
    if inb y1 720 = true then
    k55 x1 x2 x3 (x5 + (1 : Int32)) (sJ s2 9 (y1).toNatClampNeg (y2 - ((y3 * ((r2).toInt64)) / (16 : Int64))))
    else none
def m_search_L55b (F : Nat)  (k55 : Int32 → Int32 → Int64 → Int32 → St → Option (Int32 × St)) (x1 : Int32) (x2 : Int32) (x3 : Int64) (x5 : Int32) (s0 : St) : Option (Int32 × St) :=
    if (5 : Int32) ≤ x5 then
      if inb x2 144 = true then
      if inb x2 144 = true then
      gB2 (m_all F (sI s0 4 (x2).toNatClampNeg ((s0.1 4 (x2).toNatClampNeg) + (1 : Int32)))) fun r3 s3 =>
      if x3 = 0 then none else
      some ((((x3 - r3) * (1000 : Int64)) / x3).toInt32, s3)
      else none
      else none
    else
      if inb (((5 : Int32) * x2) + x5) 720 = true then
      if inb (((5 : Int32) * x2) + x5) 720 = true then
      if x5 = (4 : Int32) then
        m_search_J98 F k55 x1 x2 x3 x5 (((5 : Int32) * x2) + x5) (s0.2 9 (((5 : Int32) * x2) + x5).toNatClampNeg) (s0.2 9 (((5 : Int32) * x2) + x5).toNatClampNeg) x1 x2 (1 : Int32) s0
      else
        m_search_J98 F k55 x1 x2 x3 x5 (((5 : Int32) * x2) + x5) (s0.2 9 (((5 : Int32) * x2) + x5).toNatClampNeg) (s0.2 9 (((5 : Int32) * x2) + x5).toNatClampNeg) x1 x2 (0 : Int32) s0
      else none
      else none
def m_search_L55 (F : Nat)  : Nat → Int32 → Int32 → Int64 → Int32 → St → Option (Int32 × St) := lp (fun _ _ _ _ _ => none) (m_search_L55b F )
def m_search (F : Nat) (a1 : Int32) (a2 : Int32) (s0 : St) : Option (Int32 × St) :=
  gB2 (m_isSort F a1 s0) fun r4 s4 =>
  if r4 = 0 then
    m_search_J14 F s4
  else
    gB2 (m_isCell F a2 s4) fun r5 s5 =>
    if r5 = 0 then
      m_search_J14 F s5
    else
      if 0 ≤ (s5.1 0 13) then
        gB2 (m_all F s5) fun r6 s6 =>
        if (lg_cmp r6 (0 : Int64)) = 0 then
          gB2 (m_tells F (-4 : Int32) s6) fun r7 s7 =>
          some (r7, s7)
        else
          m_search_L55 F F a1 a2 r6 (0 : Int32) s6
      else
        gB2 (m_tells F (-2 : Int32) s5) fun r8 s8 =>
        some (r8, s8)
def m_aliveAt_J54 (F : Nat)  (y0 : Int32) (s0 : St) : Option (Int32 × St) :=
    if 0 ≤ y0 then
      some (y0, s0)
    else
      some ((0 : Int32), s0)
def m_aliveAt (F : Nat) (a1 : Int32) (s0 : St) : Option (Int32 × St) :=
  if inb (6 : Int32) 10 = true then
  if inb (7 : Int32) 10 = true then
  if (((240 : Int32) + ((60 : Int32) * (s0.1 5 ((6 : Int32)).toNatClampNeg))) - ((20 : Int32) * (s0.1 5 ((7 : Int32)).toNatClampNeg))) < a1 then
    if inb (7 : Int32) 10 = true then
    m_aliveAt_J54 F ((1000 : Int32) - (((2 : Int32) + (s0.1 5 ((7 : Int32)).toNatClampNeg)) * (a1 - (((240 : Int32) + ((60 : Int32) * (s0.1 5 ((6 : Int32)).toNatClampNeg))) - ((20 : Int32) * (s0.1 5 ((7 : Int32)).toNatClampNeg)))))) s0
    else none
  else
    m_aliveAt_J54 F (1000 : Int32) s0
  else none
  else none
def m_alive (F : Nat) (a1 : Int32) (s0 : St) : Option (Int32 × St) :=
  gB2 (m_in F ((a1).toInt64) (0 : Int64) (999 : Int64) s0) fun r1 s1 =>
  if r1 = 0 then
    gB2 (m_tells F (-1 : Int32) s1) fun r2 s2 =>
    some (r2, s2)
  else
    gB2 (m_aliveAt F a1 s1) fun r3 s3 =>
    some (r3, s3)
def m_team_J26 (F : Nat)   (s0 : St) : Option (Int32 × St) :=
    gB2 (m_tells F (-1 : Int32) s0) fun r1 s1 =>
    some (r1, s1)
def m_team (F : Nat) (a1 : Int32) (a2 : Int32) (a3 : Int32) (s0 : St) : Option (Int32 × St) :=
  gB2 (m_isSort F a1 s0) fun r2 s2 =>
  if r2 = 0 then
    m_team_J26 F s2
  else
    gB2 (m_isCell F a2 s2) fun r3 s3 =>
    if r3 = 0 then
      m_team_J26 F s3
    else
      gB2 (m_in F ((a3).toInt64) (1 : Int64) (9 : Int64) s3) fun r4 s4 =>
      if r4 = 0 then
        m_team_J26 F s4
      else
        if (s4.1 0 14) = (4 : Int32) then
          gB2 (m_tells F (-3 : Int32) s4) fun r5 s5 =>
          some (r5, s5)
        else
          if inb (s4.1 0 14) 4 = true then
          if inb ((sI s4 11 (s4.1 0 14).toNatClampNeg a1).1 0 14) 4 = true then
          if inb ((sI (sI s4 11 (s4.1 0 14).toNatClampNeg a1) 12 ((sI s4 11 (s4.1 0 14).toNatClampNeg a1).1 0 14).toNatClampNeg a2).1 0 14) 4 = true then
          some (((sI (sI (sI (sI s4 11 (s4.1 0 14).toNatClampNeg a1) 12 ((sI s4 11 (s4.1 0 14).toNatClampNeg a1).1 0 14).toNatClampNeg a2) 13 ((sI (sI s4 11 (s4.1 0 14).toNatClampNeg a1) 12 ((sI s4 11 (s4.1 0 14).toNatClampNeg a1).1 0 14).toNatClampNeg a2).1 0 14).toNatClampNeg a3) 0 14 (((sI (sI (sI s4 11 (s4.1 0 14).toNatClampNeg a1) 12 ((sI s4 11 (s4.1 0 14).toNatClampNeg a1).1 0 14).toNatClampNeg a2) 13 ((sI (sI s4 11 (s4.1 0 14).toNatClampNeg a1) 12 ((sI s4 11 (s4.1 0 14).toNatClampNeg a1).1 0 14).toNatClampNeg a2).1 0 14).toNatClampNeg a3).1 0 14) + (1 : Int32))).1 0 14) - (1 : Int32), (sI (sI (sI (sI s4 11 (s4.1 0 14).toNatClampNeg a1) 12 ((sI s4 11 (s4.1 0 14).toNatClampNeg a1).1 0 14).toNatClampNeg a2) 13 ((sI (sI s4 11 (s4.1 0 14).toNatClampNeg a1) 12 ((sI s4 11 (s4.1 0 14).toNatClampNeg a1).1 0 14).toNatClampNeg a2).1 0 14).toNatClampNeg a3) 0 14 (((sI (sI (sI s4 11 (s4.1 0 14).toNatClampNeg a1) 12 ((sI s4 11 (s4.1 0 14).toNatClampNeg a1).1 0 14).toNatClampNeg a2) 13 ((sI (sI s4 11 (s4.1 0 14).toNatClampNeg a1) 12 ((sI s4 11 (s4.1 0 14).toNatClampNeg a1).1 0 14).toNatClampNeg a2).1 0 14).toNatClampNeg a3).1 0 14) + (1 : Int32))))
          else none
          else none
          else none
def m_place_J44 (F : Nat) (k17 : Int32 → Int32 → Int32 → St → Option (Int32 × St)) (x1 : Int32) (x3 : Int32) (y0 : Int32) (s0 : St) : Option (Int32 × St) :=
    k17 x1 y0 (x3 + (1 : Int32)) s0
def m_place_J39 (F : Nat) (k17 : Int32 → Int32 → Int32 → St → Option (Int32 × St)) (x1 : Int32) (x3 : Int32) (s0 : St) : Option (Int32 × St) :=
    m_place_J44 F k17 x1 x3 (1 : Int32) s0
def m_place_L17b (F : Nat)  (k17 : Int32 → Int32 → Int32 → St → Option (Int32 × St)) (x1 : Int32) (x2 : Int32) (x3 : Int32) (s0 : St) : Option (Int32 × St) :=
    if (s0.1 0 18) ≤ x3 then
      if (s0.1 0 18) = (6 : Int32) then
        gB2 (m_tells F (-3 : Int32) s0) fun r2 s2 =>
        some (r2, s2)
      else
        if x2 = 0 then
          if inb (s0.1 0 18) 6 = true then
          some (((sI (sI s0 14 (s0.1 0 18).toNatClampNeg x1) 0 18 (((sI s0 14 (s0.1 0 18).toNatClampNeg x1).1 0 18) + (1 : Int32))).1 0 18) - (1 : Int32), (sI (sI s0 14 (s0.1 0 18).toNatClampNeg x1) 0 18 (((sI s0 14 (s0.1 0 18).toNatClampNeg x1).1 0 18) + (1 : Int32))))
          else none
        else
          gB2 (m_tells F (-2 : Int32) s0) fun r1 s1 =>
          some (r1, s1)
    else
      if x2 = 0 then
        if inb x3 6 = true then
        if (s0.1 14 (x3).toNatClampNeg) = x1 then
          m_place_J39 F k17 x1 x3 s0
        else
          m_place_J44 F k17 x1 x3 (0 : Int32) s0
        else none
      else
        m_place_J39 F k17 x1 x3 s0
def m_place_L17 (F : Nat)  : Nat → Int32 → Int32 → Int32 → St → Option (Int32 × St) := lp (fun _ _ _ _ => none) (m_place_L17b F )
def m_place (F : Nat) (a1 : Int32) (s0 : St) : Option (Int32 × St) :=
  gB2 (m_isCell F a1 s0) fun r3 s3 =>
  if r3 = 0 then
    gB2 (m_tells F (-1 : Int32) s3) fun r4 s4 =>
    some (r4, s4)
  else
    m_place_L17 F F a1 (0 : Int32) (0 : Int32) s3
def m_size (F : Nat) (a0 : Int32) (s0 : St) : Option (Int32 × St) :=
  if 0 ≤ a0 then
    some (a0, s0)
  else
    some (-a0, s0)
def m_seen_J39 (F : Nat) (k6 : Int32 → Int32 → Int32 → Int64 → Int32 → St → Option (Int64 × St)) (x1 : Int32) (x2 : Int32) (x3 : Int32) (x6 : Int32) (y0 : Int64) (y1 : Int64) (y3 : Int32) (y4 : Int32) (y5 : Int32) (s0 : St) : Option (Int64 × St) :=
    gB2 (m_sixteenths F y3 y4 y5 x3 s0) fun r1 s1 =>
    k6 x1 x2 x3 (y0 + ((y1 * ((r1).toInt64)) / (16 : Int64))) (x6 + (1 : Int32)) s1
def m_seen_L6b (F : Nat)  (k6 : Int32 → Int32 → Int32 → Int64 → Int32 → St → Option (Int64 × St)) (x1 : Int32) (x2 : Int32) (x3 : Int32) (x4 : Int64) (x6 : Int32) (s0 : St) : Option (Int64 × St) :=
    if (5 : Int32) ≤ x6 then
      some (x4, s0)
    else
      if inb (((5 : Int32) * x2) + x6) 720 = true then
      if x6 = (4 : Int32) then
        m_seen_J39 F k6 x1 x2 x3 x6 x4 (s0.2 9 (((5 : Int32) * x2) + x6).toNatClampNeg) x1 x2 (1 : Int32) s0
      else
        m_seen_J39 F k6 x1 x2 x3 x6 x4 (s0.2 9 (((5 : Int32) * x2) + x6).toNatClampNeg) x1 x2 (0 : Int32) s0
      else none
def m_seen_L6 (F : Nat)  : Nat → Int32 → Int32 → Int32 → Int64 → Int32 → St → Option (Int64 × St) := lp (fun _ _ _ _ _ _ => none) (m_seen_L6b F )
def m_seen (F : Nat) (a1 : Int32) (a2 : Int32) (a3 : Int32) (s0 : St) : Option (Int64 × St) :=
  m_seen_L6 F F a1 a2 a3 (0 : Int64) (0 : Int32) s0
def m_value (F : Nat) (a1 : Int32) (a2 : Int32) (s0 : St) : Option (Int64 × St) :=
  if inb a1 4 = true then
  if inb a2 6 = true then
  gB2 (m_size F (((s0.1 12 (a1).toNatClampNeg) / (12 : Int32)) - ((s0.1 14 (a2).toNatClampNeg) / (12 : Int32))) s0) fun r1 s1 =>
  if inb a1 4 = true then
  if inb a2 6 = true then
  gB2 (m_size F (((s1.1 12 (a1).toNatClampNeg) - (s1.1 12 (a1).toNatClampNeg) / (12 : Int32) * (12 : Int32)) - ((s1.1 14 (a2).toNatClampNeg) - (s1.1 14 (a2).toNatClampNeg) / (12 : Int32) * (12 : Int32))) s1) fun r2 s2 =>
  if inb a1 4 = true then
  if inb a1 4 = true then
  if inb a2 6 = true then
  gB2 (m_seen F (s2.1 11 (a1).toNatClampNeg) (s2.1 14 (a2).toNatClampNeg) ((s2.1 0 13) + ((r1 + r2) * (s2.1 13 (a1).toNatClampNeg))) s2) fun r3 s3 =>
  gB2 (m_aliveAt F ((s2.1 0 13) + ((r1 + r2) * (s2.1 13 (a1).toNatClampNeg))) s3) fun r4 s4 =>
  some (r3 * ((r4).toInt64), s4)
  else none
  else none
  else none
  else none
  else none
  else none
  else none
def m_valuesAll_L12b (F : Nat) (k2 : Int32 → St → Option St) (k12 : Int32 → Int32 → St → Option St) (x1 : Int32) (x2 : Int32) (s0 : St) : Option St :=
    if (s0.1 0 18) ≤ x2 then
      k2 (x1 + (1 : Int32)) s0
    else
      gB2 (m_value F x1 x2 s0) fun r1 s1 =>
      if inb (((6 : Int32) * x1) + x2) 24 = true then
      k12 x1 (x2 + (1 : Int32)) (sJ s1 15 (((6 : Int32) * x1) + x2).toNatClampNeg r1)
      else none
def m_valuesAll_L12 (F : Nat) (k2 : Int32 → St → Option St) : Nat → Int32 → Int32 → St → Option St := lp (fun _ _ _ => none) (m_valuesAll_L12b F k2)
def m_valuesAll_L2b (F : Nat)  (k2 : Int32 → St → Option St) (x1 : Int32) (s0 : St) : Option St :=
    if (s0.1 0 14) ≤ x1 then
      some s0
    else
      m_valuesAll_L12 F k2 F x1 (0 : Int32) s0
def m_valuesAll_L2 (F : Nat)  : Nat → Int32 → St → Option St := lp (fun _ _ => none) (m_valuesAll_L2b F )
def m_valuesAll (F : Nat)  (s0 : St) : Option St :=
  m_valuesAll_L2 F F (0 : Int32) s0
def m_whom_J52 (F : Nat)   (s0 : St) : Option (Int64 × St) :=
    gB2 (m_says F (-4 : Int64) s0) fun r1 s1 =>
    some (r1, s1)
def m_whom_J307 (F : Nat)  (x1 : Int32) (x3 : Int64) (x5 : Int32) (s0 : St) : Option (Int64 × St) :=
    if 0 ≤ x1 then
      some ((x5 - x5 / (7 : Int32) * (7 : Int32)).toInt64, s0)
    else
      some (x3, s0)
def m_whom_L284b (F : Nat)  (k284 : Int32 → Int64 → Int32 → Int32 → St → Option (Int64 × St)) (x1 : Int32) (x3 : Int64) (x5 : Int32) (x6 : Int32) (s0 : St) : Option (Int64 × St) :=
    if x6 ≤ x1 then
      m_whom_J307 F x1 x3 x5 s0
    else
      if x1 < 0 then
        m_whom_J307 F x1 x3 x5 s0
      else
        k284 x1 x3 (x5 / (7 : Int32)) (x6 + (-1 : Int32)) s0
def m_whom_L284 (F : Nat)  : Nat → Int32 → Int64 → Int32 → Int32 → St → Option (Int64 × St) := lp (fun _ _ _ _ _ => none) (m_whom_L284b F )
def m_whom_J269 (F : Nat) (k97 : Int32 → Int32 → Int64 → Int32 → Int32 → St → Option (Int64 × St)) (x1 : Int32) (x2 : Int32) (x5 : Int32) (x6 : Int32) (y0 : Int64) (s0 : St) : Option (Int64 × St) :=
    k97 x1 x2 y0 x5 (x6 + (1 : Int32)) s0
def m_whom_J268 (F : Nat) (k97 : Int32 → Int32 → Int64 → Int32 → Int32 → St → Option (Int64 × St)) (x1 : Int32) (x2 : Int32) (x3 : Int64) (x5 : Int32) (x6 : Int32) (s0 : St) : Option (Int64 × St) :=
    m_whom_J269 F k97 x1 x2 x5 x6 x3 s0
def m_whom_J249 (F : Nat) (k97 : Int32 → Int32 → Int64 → Int32 → Int32 → St → Option (Int64 × St)) (x1 : Int32) (x2 : Int32) (x3 : Int64) (x6 : Int32) (x7 : Int64) (x10 : Int32) (y0 : Int32) (s0 : St) : Option (Int64 × St) :=
    if x10 = 0 then
      m_whom_J268 F k97 x1 x2 x3 y0 x6 s0
    else
      if (lg_cmp x7 x3) ≤ 0 then
        m_whom_J268 F k97 x1 x2 x3 y0 x6 s0
      else
        m_whom_J269 F k97 x1 x2 y0 x6 x7 s0
def m_whom_J247 (F : Nat) (k97 : Int32 → Int32 → Int64 → Int32 → Int32 → St → Option (Int64 × St)) (x1 : Int32) (x2 : Int32) (x3 : Int64) (x5 : Int32) (x6 : Int32) (x7 : Int64) (x10 : Int32) (s0 : St) : Option (Int64 × St) :=
    m_whom_J249 F k97 x1 x2 x3 x6 x7 x10 x5 s0
def m_whom_J221 (F : Nat) (k97 : Int32 → Int32 → Int64 → Int32 → Int32 → St → Option (Int64 × St)) (k124 : Int32 → Int32 → Int64 → Int32 → Int32 → Int64 → Int32 → Int32 → Int32 → Int32 → St → Option (Int64 × St)) (x1 : Int32) (x2 : Int32) (x3 : Int64) (x5 : Int32) (x6 : Int32) (x9 : Int32) (x10 : Int32) (x11 : Int32) (x12 : Int32) (y0 : Int64) (y1 : Int64) (s0 : St) : Option (Int64 × St) :=
    k124 x1 x2 x3 x5 x6 (y0 + y1) x9 x10 x11 (x12 + (-1 : Int32)) s0
def m_whom_J220 (F : Nat) (k97 : Int32 → Int32 → Int64 → Int32 → Int32 → St → Option (Int64 × St)) (k124 : Int32 → Int32 → Int64 → Int32 → Int32 → Int64 → Int32 → Int32 → Int32 → Int32 → St → Option (Int64 × St)) (x1 : Int32) (x2 : Int32) (x3 : Int64) (x5 : Int32) (x6 : Int32) (x9 : Int32) (x10 : Int32) (x11 : Int32) (x12 : Int32) (y0 : Int64) (s0 : St) : Option (Int64 × St) :=
    m_whom_J221 F k97 k124 x1 x2 x3 x5 x6 x9 x10 x11 x12 y0 (0 : Int64) s0
def m_whom_J179 (F : Nat) (k97 : Int32 → Int32 → Int64 → Int32 → Int32 → St → Option (Int64 × St)) (k124 : Int32 → Int32 → Int64 → Int32 → Int32 → Int64 → Int32 → Int32 → Int32 → Int32 → St → Option (Int64 × St)) (x1 : Int32) (x2 : Int32) (x3 : Int64) (x5 : Int32) (x6 : Int32) (x7 : Int64) (x9 : Int32) (x11 : Int32) (x12 : Int32) (x13 : Int32) (y0 : Int32) (s0 : St) : Option (Int64 × St) :=
    if y0 = 0 then
      m_whom_J220 F k97 k124 x1 x2 x3 x5 x6 (x9 ||| ((1 : Int32) <<< (x13 &&& 31))) y0 x11 x12 x7 s0
    else
      if (6 : Int32) ≤ x13 then
        m_whom_J220 F k97 k124 x1 x2 x3 x5 x6 (x9 ||| ((1 : Int32) <<< (x13 &&& 31))) y0 x11 x12 x7 s0
      else
        if inb (((6 : Int32) * x12) + x13) 24 = true then
        m_whom_J221 F k97 k124 x1 x2 x3 x5 x6 (x9 ||| ((1 : Int32) <<< (x13 &&& 31))) y0 x11 x12 x7 (s0.2 15 (((6 : Int32) * x12) + x13).toNatClampNeg) s0
        else none
def m_whom_J178 (F : Nat) (k97 : Int32 → Int32 → Int64 → Int32 → Int32 → St → Option (Int64 × St)) (k124 : Int32 → Int32 → Int64 → Int32 → Int32 → Int64 → Int32 → Int32 → Int32 → Int32 → St → Option (Int64 × St)) (x1 : Int32) (x2 : Int32) (x3 : Int64) (x5 : Int32) (x6 : Int32) (x7 : Int64) (x9 : Int32) (x11 : Int32) (x12 : Int32) (x13 : Int32) (s0 : St) : Option (Int64 × St) :=
    m_whom_J179 F k97 k124 x1 x2 x3 x5 x6 x7 x9 x11 x12 x13 (0 : Int32) s0
def m_whom_J174 (F : Nat) (k97 : Int32 → Int32 → Int64 → Int32 → Int32 → St → Option (Int64 × St)) (k124 : Int32 → Int32 → Int64 → Int32 → Int32 → Int64 → Int32 → Int32 → Int32 → Int32 → St → Option (Int64 × St)) (x1 : Int32) (x2 : Int32) (x3 : Int64) (x5 : Int32) (x6 : Int32) (x7 : Int64) (x9 : Int32) (x11 : Int32) (x12 : Int32) (x13 : Int32) (s0 : St) : Option (Int64 × St) :=
    m_whom_J179 F k97 k124 x1 x2 x3 x5 x6 x7 x9 x11 x12 x13 (1 : Int32) s0
def m_whom_L124b (F : Nat) (k97 : Int32 → Int32 → Int64 → Int32 → Int32 → St → Option (Int64 × St)) (k124 : Int32 → Int32 → Int64 → Int32 → Int32 → Int64 → Int32 → Int32 → Int32 → Int32 → St → Option (Int64 × St)) (x1 : Int32) (x2 : Int32) (x3 : Int64) (x5 : Int32) (x6 : Int32) (x7 : Int64) (x9 : Int32) (x10 : Int32) (x11 : Int32) (x12 : Int32) (s0 : St) : Option (Int64 × St) :=
    if x12 < 0 then
      if x10 = 0 then
        m_whom_J247 F k97 x1 x2 x3 x5 x6 x7 x10 s0
      else
        if (lg_cmp x7 x3) ≤ 0 then
          m_whom_J247 F k97 x1 x2 x3 x5 x6 x7 x10 s0
        else
          m_whom_J249 F k97 x1 x2 x3 x6 x7 x10 x6 s0
    else
      if x10 = 0 then
        m_whom_J178 F k97 k124 x1 x2 x3 x5 x6 x7 x9 (x11 / (7 : Int32)) x12 (x11 - x11 / (7 : Int32) * (7 : Int32)) s0
      else
        if (x11 - x11 / (7 : Int32) * (7 : Int32)) = (6 : Int32) then
          m_whom_J174 F k97 k124 x1 x2 x3 x5 x6 x7 x9 (x11 / (7 : Int32)) x12 (x11 - x11 / (7 : Int32) * (7 : Int32)) s0
        else
          if (s0.1 0 18) ≤ (x11 - x11 / (7 : Int32) * (7 : Int32)) then
            m_whom_J178 F k97 k124 x1 x2 x3 x5 x6 x7 x9 (x11 / (7 : Int32)) x12 (x11 - x11 / (7 : Int32) * (7 : Int32)) s0
          else
            if ((x9 >>> ((x11 - x11 / (7 : Int32) * (7 : Int32)) &&& 31)) &&& (1 : Int32)) = 0 then
              m_whom_J174 F k97 k124 x1 x2 x3 x5 x6 x7 x9 (x11 / (7 : Int32)) x12 (x11 - x11 / (7 : Int32) * (7 : Int32)) s0
            else
              m_whom_J178 F k97 k124 x1 x2 x3 x5 x6 x7 x9 (x11 / (7 : Int32)) x12 (x11 - x11 / (7 : Int32) * (7 : Int32)) s0
def m_whom_L124 (F : Nat) (k97 : Int32 → Int32 → Int64 → Int32 → Int32 → St → Option (Int64 × St)) : Nat → Int32 → Int32 → Int64 → Int32 → Int32 → Int64 → Int32 → Int32 → Int32 → Int32 → St → Option (Int64 × St) := lp (fun _ _ _ _ _ _ _ _ _ _ _ => none) (m_whom_L124b F k97)
def m_whom_L97b (F : Nat)  (k97 : Int32 → Int32 → Int64 → Int32 → Int32 → St → Option (Int64 × St)) (x1 : Int32) (x2 : Int32) (x3 : Int64) (x5 : Int32) (x6 : Int32) (s0 : St) : Option (Int64 × St) :=
    if x2 ≤ x6 then
      m_whom_L284 F F x1 x3 x5 ((s0.1 0 14) - (1 : Int32)) s0
    else
      m_whom_L124 F k97 F x1 x2 x3 x5 x6 (0 : Int64) (0 : Int32) (1 : Int32) x6 ((s0.1 0 14) - (1 : Int32)) s0
def m_whom_L97 (F : Nat)  : Nat → Int32 → Int32 → Int64 → Int32 → Int32 → St → Option (Int64 × St) := lp (fun _ _ _ _ _ _ => none) (m_whom_L97b F )
def m_whom_L68b (F : Nat)  (k68 : Int32 → Int32 → Int32 → St → Option (Int64 × St)) (x1 : Int32) (x2 : Int32) (x3 : Int32) (s0 : St) : Option (Int64 × St) :=
    if (s0.1 0 14) ≤ x3 then
      m_whom_L97 F F x1 x2 (-1 : Int64) (0 : Int32) (0 : Int32) s0
    else
      k68 x1 (x2 * (7 : Int32)) (x3 + (1 : Int32)) s0
def m_whom_L68 (F : Nat)  : Nat → Int32 → Int32 → Int32 → St → Option (Int64 × St) := lp (fun _ _ _ _ => none) (m_whom_L68b F )
def m_whom (F : Nat) (a1 : Int32) (s0 : St) : Option (Int64 × St) :=
  gB2 (m_in F ((a1).toInt64) (-1 : Int64) (3 : Int64) s0) fun r2 s2 =>
  if r2 = 0 then
    gB2 (m_says F (-1 : Int64) s2) fun r5 s5 =>
    some (r5, s5)
  else
    if 0 ≤ (s2.1 0 13) then
      if (s2.1 0 14) = 0 then
        m_whom_J52 F s2
      else
        if a1 < (s2.1 0 14) then
          gB (m_valuesAll F s2) fun s3 =>
          m_whom_L68 F F a1 (1 : Int32) (0 : Int32) s3
        else
          m_whom_J52 F s2
    else
      gB2 (m_says F (-2 : Int64) s2) fun r4 s4 =>
      some (r4, s4)
def m_bound_J96 (F : Nat) (k38 : Int64 → Int32 → St → Option (Int64 × St)) (k52 : Int64 → Int32 → Int64 → Int32 → St → Option (Int64 × St)) (x1 : Int64) (x3 : Int32) (x6 : Int32) (y0 : Int64) (s0 : St) : Option (Int64 × St) :=
    k52 x1 x3 y0 (x6 + (1 : Int32)) s0
def m_bound_L52b (F : Nat) (k38 : Int64 → Int32 → St → Option (Int64 × St)) (k52 : Int64 → Int32 → Int64 → Int32 → St → Option (Int64 × St)) (x1 : Int64) (x3 : Int32) (x4 : Int64) (x6 : Int32) (s0 : St) : Option (Int64 × St) :=
    if (s0.1 0 18) ≤ x6 then
      k38 (x1 + x4) (x3 + (1 : Int32)) s0
    else
      if inb (((6 : Int32) * x3) + x6) 24 = true then
      if (lg_cmp (s0.2 15 (((6 : Int32) * x3) + x6).toNatClampNeg) x4) ≤ 0 then
        m_bound_J96 F k38 k52 x1 x3 x6 x4 s0
      else
        if inb (((6 : Int32) * x3) + x6) 24 = true then
        m_bound_J96 F k38 k52 x1 x3 x6 (s0.2 15 (((6 : Int32) * x3) + x6).toNatClampNeg) s0
        else none
      else none
def m_bound_L52 (F : Nat) (k38 : Int64 → Int32 → St → Option (Int64 × St)) : Nat → Int64 → Int32 → Int64 → Int32 → St → Option (Int64 × St) := lp (fun _ _ _ _ _ => none) (m_bound_L52b F k38)
def m_bound_L38b (F : Nat)  (k38 : Int64 → Int32 → St → Option (Int64 × St)) (x1 : Int64) (x3 : Int32) (s0 : St) : Option (Int64 × St) :=
    if (s0.1 0 14) ≤ x3 then
      some (x1, s0)
    else
      m_bound_L52 F k38 F x1 x3 (0 : Int64) (0 : Int32) s0
def m_bound_L38 (F : Nat)  : Nat → Int64 → Int32 → St → Option (Int64 × St) := lp (fun _ _ _ => none) (m_bound_L38b F )
def m_bound (F : Nat)  (s0 : St) : Option (Int64 × St) :=
  if 0 ≤ (s0.1 0 13) then
    if (s0.1 0 14) = 0 then
      gB2 (m_says F (-4 : Int64) s0) fun r2 s2 =>
      some (r2, s2)
    else
      gB (m_valuesAll F s0) fun s1 =>
      m_bound_L38 F F (0 : Int64) (0 : Int32) s1
  else
    gB2 (m_says F (-2 : Int64) s0) fun r3 s3 =>
    some (r3, s3)
def m_again_J17 (F : Nat)   (s0 : St) : Option (Int32 × St) :=
    gB2 (m_tells F (-1 : Int32) s0) fun r1 s1 =>
    some (r1, s1)
def m_again_J119 (F : Nat) (k53 : Int32 → Int32 → Int32 → Int64 → Int64 → Int32 → St → Option (Int32 × St)) (x1 : Int32) (x2 : Int32) (x3 : Int32) (x4 : Int64) (x6 : Int64) (x8 : Int32) (s0 : St) : Option (Int32 × St) :=
    k53 x1 x2 x3 x4 x6 (x8 + (1 : Int32)) s0
def m_again_J99 (F : Nat) (k53 : Int32 → Int32 → Int32 → Int64 → Int64 → Int32 → St → Option (Int32 × St)) (x1 : Int32) (x2 : Int32) (x3 : Int32) (x4 : Int64) (x8 : Int32) (y0 : Int64) (s0 : St) : Option (Int32 × St) :=
    m_again_J119 F k53 x1 x2 x3 x4 y0 x8 s0
def m_again_L53b (F : Nat)  (k53 : Int32 → Int32 → Int32 → Int64 → Int64 → Int32 → St → Option (Int32 × St)) (x1 : Int32) (x2 : Int32) (x3 : Int32) (x4 : Int64) (x6 : Int64) (x8 : Int32) (s0 : St) : Option (Int32 × St) :=
    if (144 : Int32) ≤ x8 then
      if 0 ≤ x3 then
        if x2 = 0 then
          some (x3, s0)
        else
          if (lg_cmp x4 x6) ≤ 0 then
            some ((0 : Int32), s0)
          else
            some ((1 : Int32), s0)
      else
        gB2 (m_tells F (-4 : Int32) s0) fun r2 s2 =>
        some (r2, s2)
    else
      gB2 (m_seen F x1 x8 (s0.1 0 13) s0) fun r3 s3 =>
      if inb x8 144 = true then
      if (s3.1 4 (x8).toNatClampNeg) = 0 then
        if (lg_cmp r3 x6) ≤ 0 then
          m_again_J99 F k53 x1 x2 x3 x4 x8 x6 s3
        else
          m_again_J99 F k53 x1 x2 x3 x4 x8 r3 s3
      else
        if (lg_cmp r3 x4) ≤ 0 then
          m_again_J119 F k53 x1 x2 x3 x4 x6 x8 s3
        else
          m_again_J119 F k53 x1 x2 x8 r3 x6 x8 s3
      else none
def m_again_L53 (F : Nat)  : Nat → Int32 → Int32 → Int32 → Int64 → Int64 → Int32 → St → Option (Int32 × St) := lp (fun _ _ _ _ _ _ _ => none) (m_again_L53b F )
def m_again (F : Nat) (a1 : Int32) (a2 : Int32) (s0 : St) : Option (Int32 × St) :=
  gB2 (m_isSort F a1 s0) fun r4 s4 =>
  if r4 = 0 then
    m_again_J17 F s4
  else
    gB2 (m_in F ((a2).toInt64) (0 : Int64) (1 : Int64) s4) fun r5 s5 =>
    if r5 = 0 then
      m_again_J17 F s5
    else
      if 0 ≤ (s5.1 0 13) then
        m_again_L53 F F a1 a2 (-4 : Int32) (-1 : Int64) (-1 : Int64) (0 : Int32) s5
      else
        gB2 (m_tells F (-2 : Int32) s5) fun r6 s6 =>
        some (r6, s6)
def m_apart (F : Nat) (a0 : Int32) (a1 : Int32) (s0 : St) : Option (Int32 × St) :=
  gB2 (m_size F ((a0 / (12 : Int32)) - (a1 / (12 : Int32))) s0) fun r1 s1 =>
  gB2 (m_size F ((a0 - a0 / (12 : Int32) * (12 : Int32)) - (a1 - a1 / (12 : Int32) * (12 : Int32))) s1) fun r2 s2 =>
  if r1 ≤ r2 then
    some (r2, s2)
  else
    some (r1, s2)
def m_isCall_J35 (F : Nat)   (s0 : St) : Option (Int32 × St) :=
    some ((0 : Int32), s0)
def m_isCall (F : Nat) (a0 : Int32) (a1 : Int32) (a2 : Int32) (s0 : St) : Option (Int32 × St) :=
  gB2 (m_isCell F a0 s0) fun r1 s1 =>
  if r1 = 0 then
    m_isCall_J35 F s1
  else
    gB2 (m_in F ((a1).toInt64) (0 : Int64) (9 : Int64) s1) fun r2 s2 =>
    if r2 = 0 then
      m_isCall_J35 F s2
    else
      gB2 (m_in F ((a2).toInt64) (0 : Int64) (15 : Int64) s2) fun r3 s3 =>
      if r3 = 0 then
        m_isCall_J35 F s3
      else
        some ((1 : Int32), s3)
def m_call_J105 (F : Nat) (k52 : Int32 → Int32 → Int32 → Int64 → Int32 → St → Option (Int32 × St)) (x1 : Int32) (x2 : Int32) (x3 : Int32) (x4 : Int64) (x6 : Int32) (y1 : Int32) (y2 : Int64) (s0 : St) : Option (Int32 × St) :=
    if inb y1 720 = true then
    k52 x1 x2 x3 x4 (x6 + (1 : Int32)) (sJ s0 9 (y1).toNatClampNeg y2)
    else none
def m_call_L52b (F : Nat)  (k52 : Int32 → Int32 → Int32 → Int64 → Int32 → St → Option (Int32 × St)) (x1 : Int32) (x2 : Int32) (x3 : Int32) (x4 : Int64) (x6 : Int32) (s0 : St) : Option (Int32 × St) :=
    if (720 : Int32) ≤ x6 then
      gB2 (m_all F s0) fun r1 s1 =>
      if x4 = 0 then none else
      some (((r1 * (1000 : Int64)) / x4).toInt32, s1)
    else
      gB2 (m_apart F (x6 / (5 : Int32)) x1 s0) fun r2 s2 =>
      if r2 ≤ x2 then
        if inb x6 720 = true then
        m_call_J105 F k52 x1 x2 x3 x4 x6 x6 (s2.2 9 (x6).toNatClampNeg) s2
        else none
      else
        if inb x6 720 = true then
        m_call_J105 F k52 x1 x2 x3 x4 x6 x6 (((s2.2 9 (x6).toNatClampNeg) * (((16 : Int32) - x3).toInt64)) / (16 : Int64)) s2
        else none
def m_call_L52 (F : Nat)  : Nat → Int32 → Int32 → Int32 → Int64 → Int32 → St → Option (Int32 × St) := lp (fun _ _ _ _ _ _ => none) (m_call_L52b F )
def m_call (F : Nat) (a1 : Int32) (a2 : Int32) (a3 : Int32) (s0 : St) : Option (Int32 × St) :=
  gB2 (m_isCall F a1 a2 a3 s0) fun r3 s3 =>
  if r3 = 0 then
    gB2 (m_tells F (-1 : Int32) s3) fun r7 s7 =>
    some (r7, s7)
  else
    if 0 ≤ (s3.1 0 13) then
      gB2 (m_all F s3) fun r4 s4 =>
      if (lg_cmp r4 (0 : Int64)) = 0 then
        gB2 (m_tells F (-4 : Int32) s4) fun r5 s5 =>
        some (r5, s5)
      else
        m_call_L52 F F a1 a2 a3 r4 (0 : Int32) s4
    else
      gB2 (m_tells F (-2 : Int32) s3) fun r6 s6 =>
      some (r6, s6)
def m_truly_J20 (F : Nat)   (s0 : St) : Option (Int64 × St) :=
    gB2 (m_says F (-1 : Int64) s0) fun r1 s1 =>
    some (r1, s1)
def m_truly_J123 (F : Nat) (k73 : Int32 → Int32 → Int32 → Int32 → Int64 → Int64 → Int32 → Int32 → St → Option (Int64 × St)) (x1 : Int32) (x2 : Int32) (x3 : Int32) (x4 : Int32) (x5 : Int64) (x7 : Int64) (x10 : Int32) (y0 : Int32) (y1 : Int32) (s0 : St) : Option (Int64 × St) :=
    k73 x1 x2 x3 x4 x5 x7 (y0 + y1) (x10 + (1 : Int32)) s0
def m_truly_J103 (F : Nat) (k73 : Int32 → Int32 → Int32 → Int32 → Int64 → Int64 → Int32 → Int32 → St → Option (Int64 × St)) (x1 : Int32) (x2 : Int32) (x3 : Int32) (x4 : Int32) (x5 : Int64) (x9 : Int32) (x10 : Int32) (y0 : Int64) (y1 : Int64) (s0 : St) : Option (Int64 × St) :=
    gB2 (m_apart F x10 x1 s0) fun r2 s2 =>
    if r2 ≤ x2 then
      m_truly_J123 F k73 x1 x2 x3 x4 x5 (y0 + y1) x10 x9 (1 : Int32) s2
    else
      m_truly_J123 F k73 x1 x2 x3 x4 x5 (y0 + y1) x10 x9 (0 : Int32) s2
def m_truly_L73b (F : Nat)  (k73 : Int32 → Int32 → Int32 → Int32 → Int64 → Int64 → Int32 → Int32 → St → Option (Int64 × St)) (x1 : Int32) (x2 : Int32) (x3 : Int32) (x4 : Int32) (x5 : Int64) (x7 : Int64) (x9 : Int32) (x10 : Int32) (s0 : St) : Option (Int64 × St) :=
    if (144 : Int32) ≤ x10 then
      gB2 (m_lowest F ((x7 * ((x3).toInt64)) * (144 : Int64)) (((x7 * ((x3).toInt64)) * (144 : Int64)) + ((x5 * (((16 : Int32) - x3).toInt64)) * ((x9).toInt64))) x4 s0) fun r3 s3 =>
      some (r3, s3)
    else
      gB2 (m_apart F x10 x1 s0) fun r4 s4 =>
      if r4 ≤ x2 then
        gB2 (m_partsOf F x10 s4) fun r5 s5 =>
        m_truly_J103 F k73 x1 x2 x3 x4 x5 x9 x10 x7 r5 s5
      else
        m_truly_J103 F k73 x1 x2 x3 x4 x5 x9 x10 x7 (0 : Int64) s4
def m_truly_L73 (F : Nat)  : Nat → Int32 → Int32 → Int32 → Int32 → Int64 → Int64 → Int32 → Int32 → St → Option (Int64 × St) := lp (fun _ _ _ _ _ _ _ _ _ => none) (m_truly_L73b F )
def m_truly (F : Nat) (a1 : Int32) (a2 : Int32) (a3 : Int32) (a4 : Int32) (s0 : St) : Option (Int64 × St) :=
  gB2 (m_isCall F a1 a2 a3 s0) fun r6 s6 =>
  if r6 = 0 then
    m_truly_J20 F s6
  else
    gB2 (m_in F ((a4).toInt64) (0 : Int64) (1 : Int64) s6) fun r7 s7 =>
    if r7 = 0 then
      m_truly_J20 F s7
    else
      if 0 ≤ (s7.1 0 13) then
        gB2 (m_all F s7) fun r8 s8 =>
        if (lg_cmp r8 (0 : Int64)) = 0 then
          gB2 (m_says F (-4 : Int64) s8) fun r9 s9 =>
          some (r9, s9)
        else
          m_truly_L73 F F a1 a2 a3 a4 r8 (0 : Int64) (0 : Int32) (0 : Int32) s8
      else
        gB2 (m_says F (-2 : Int64) s7) fun r10 s10 =>
        some (r10, s10)
def m_job_J26 (F : Nat)   (s0 : St) : Option (Int32 × St) :=
    gB2 (m_tells F (-1 : Int32) s0) fun r1 s1 =>
    some (r1, s1)
def m_job (F : Nat) (a1 : Int32) (a2 : Int32) (a3 : Int32) (s0 : St) : Option (Int32 × St) :=
  gB2 (m_isCell F a1 s0) fun r2 s2 =>
  if r2 = 0 then
    m_job_J26 F s2
  else
    gB2 (m_isSort F a2 s2) fun r3 s3 =>
    if r3 = 0 then
      m_job_J26 F s3
    else
      gB2 (m_in F ((a3).toInt64) (1 : Int64) (60 : Int64) s3) fun r4 s4 =>
      if r4 = 0 then
        m_job_J26 F s4
      else
        if (s4.1 0 21) = (6 : Int32) then
          gB2 (m_tells F (-3 : Int32) s4) fun r5 s5 =>
          some (r5, s5)
        else
          if inb (s4.1 0 21) 6 = true then
          if inb ((sI s4 16 (s4.1 0 21).toNatClampNeg a1).1 0 21) 6 = true then
          if inb ((sI (sI s4 16 (s4.1 0 21).toNatClampNeg a1) 17 ((sI s4 16 (s4.1 0 21).toNatClampNeg a1).1 0 21).toNatClampNeg a2).1 0 21) 6 = true then
          some (((sI (sI (sI (sI s4 16 (s4.1 0 21).toNatClampNeg a1) 17 ((sI s4 16 (s4.1 0 21).toNatClampNeg a1).1 0 21).toNatClampNeg a2) 18 ((sI (sI s4 16 (s4.1 0 21).toNatClampNeg a1) 17 ((sI s4 16 (s4.1 0 21).toNatClampNeg a1).1 0 21).toNatClampNeg a2).1 0 21).toNatClampNeg a3) 0 21 (((sI (sI (sI s4 16 (s4.1 0 21).toNatClampNeg a1) 17 ((sI s4 16 (s4.1 0 21).toNatClampNeg a1).1 0 21).toNatClampNeg a2) 18 ((sI (sI s4 16 (s4.1 0 21).toNatClampNeg a1) 17 ((sI s4 16 (s4.1 0 21).toNatClampNeg a1).1 0 21).toNatClampNeg a2).1 0 21).toNatClampNeg a3).1 0 21) + (1 : Int32))).1 0 21) - (1 : Int32), (sI (sI (sI (sI s4 16 (s4.1 0 21).toNatClampNeg a1) 17 ((sI s4 16 (s4.1 0 21).toNatClampNeg a1).1 0 21).toNatClampNeg a2) 18 ((sI (sI s4 16 (s4.1 0 21).toNatClampNeg a1) 17 ((sI s4 16 (s4.1 0 21).toNatClampNeg a1).1 0 21).toNatClampNeg a2).1 0 21).toNatClampNeg a3) 0 21 (((sI (sI (sI s4 16 (s4.1 0 21).toNatClampNeg a1) 17 ((sI s4 16 (s4.1 0 21).toNatClampNeg a1).1 0 21).toNatClampNeg a2) 18 ((sI (sI s4 16 (s4.1 0 21).toNatClampNeg a1) 17 ((sI s4 16 (s4.1 0 21).toNatClampNeg a1).1 0 21).toNatClampNeg a2).1 0 21).toNatClampNeg a3).1 0 21) + (1 : Int32))))
          else none
          else none
          else none
def m_turns_L100b (F : Nat)  (k100 : Int32 → Int32 → St → Option (Int32 × St)) (x5 : Int32) (x6 : Int32) (s0 : St) : Option (Int32 × St) :=
    if x6 ≤ x5 then
      some ((1 : Int32), s0)
    else
      if inb x5 6 = true then
      if inb x6 6 = true then
      if inb x5 6 = true then
      if inb x6 6 = true then
      k100 (x5 + (1 : Int32)) (x6 + (-1 : Int32)) (sI (sI s0 19 (x5).toNatClampNeg (s0.1 19 (x6).toNatClampNeg)) 19 (x6).toNatClampNeg (s0.1 19 (x5).toNatClampNeg))
      else none
      else none
      else none
      else none
def m_turns_L100 (F : Nat)  : Nat → Int32 → Int32 → St → Option (Int32 × St) := lp (fun _ _ _ => none) (m_turns_L100b F )
def m_turns_L41b (F : Nat)  (k41 : Int32 → Int32 → Int32 → St → Option (Int32 × St)) (x1 : Int32) (x2 : Int32) (x3 : Int32) (s0 : St) : Option (Int32 × St) :=
    if inb x3 6 = true then
    if inb x2 6 = true then
    if (s0.1 19 (x2).toNatClampNeg) ≤ (s0.1 19 (x3).toNatClampNeg) then
      if inb x2 6 = true then
      if inb x3 6 = true then
      if inb x2 6 = true then
      if inb x3 6 = true then
      m_turns_L100 F F (x2 + (1 : Int32)) (x1 - (1 : Int32)) (sI (sI s0 19 (x2).toNatClampNeg (s0.1 19 (x3).toNatClampNeg)) 19 (x3).toNatClampNeg (s0.1 19 (x2).toNatClampNeg))
      else none
      else none
      else none
      else none
    else
      k41 x1 x2 (x3 + (-1 : Int32)) s0
    else none
    else none
def m_turns_L41 (F : Nat)  : Nat → Int32 → Int32 → Int32 → St → Option (Int32 × St) := lp (fun _ _ _ _ => none) (m_turns_L41b F )
def m_turns_J31 (F : Nat)  (x1 : Int32) (x2 : Int32) (s0 : St) : Option (Int32 × St) :=
    if 0 ≤ x2 then
      m_turns_L41 F F x1 x2 (x1 - (1 : Int32)) s0
    else
      some ((0 : Int32), s0)
def m_turns_L4b (F : Nat)  (k4 : Int32 → Int32 → St → Option (Int32 × St)) (x1 : Int32) (x2 : Int32) (s0 : St) : Option (Int32 × St) :=
    if x2 < 0 then
      m_turns_J31 F x1 x2 s0
    else
      if inb x2 6 = true then
      if inb (x2 + (1 : Int32)) 6 = true then
      if (s0.1 19 (x2).toNatClampNeg) ≤ (s0.1 19 (x2 + (1 : Int32)).toNatClampNeg) then
        m_turns_J31 F x1 x2 s0
      else
        k4 x1 (x2 + (-1 : Int32)) s0
      else none
      else none
def m_turns_L4 (F : Nat)  : Nat → Int32 → Int32 → St → Option (Int32 × St) := lp (fun _ _ _ => none) (m_turns_L4b F )
def m_turns (F : Nat) (a1 : Int32) (s0 : St) : Option (Int32 × St) :=
  m_turns_L4 F F a1 (a1 - (2 : Int32)) s0
def m_order_J52 (F : Nat)   (s0 : St) : Option (Int64 × St) :=
    gB2 (m_says F (-4 : Int64) s0) fun r1 s1 =>
    some (r1, s1)
def m_order_J236 (F : Nat) (k90 : Int32 → Int64 → Int32 → St → Option (Int64 × St)) (x1 : Int32) (y0 : Int64) (s0 : St) : Option (Int64 × St) :=
    gB2 (m_turns F (s0.1 0 21) s0) fun r2 s2 =>
    k90 x1 y0 r2 s2
def m_order_J223 (F : Nat) (k90 : Int32 → Int64 → Int32 → St → Option (Int64 × St)) (x1 : Int32) (x2 : Int64) (x6 : Int64) (s0 : St) : Option (Int64 × St) :=
    if (lg_cmp x6 x2) ≤ 0 then
      m_order_J236 F k90 x1 x2 s0
    else
      m_order_J236 F k90 x1 x6 s0
def m_order_L187b (F : Nat) (k90 : Int32 → Int64 → Int32 → St → Option (Int64 × St)) (k187 : Int32 → Int64 → Int64 → Int32 → St → Option (Int64 × St)) (x1 : Int32) (x2 : Int64) (x6 : Int64) (x8 : Int32) (s0 : St) : Option (Int64 × St) :=
    if (s0.1 0 21) ≤ x8 then
      m_order_J223 F k90 x1 x2 x6 s0
    else
      if (lg_cmp x6 x2) ≤ 0 then
        m_order_J223 F k90 x1 x2 x6 s0
      else
        if inb x8 6 = true then
        if inb x8 6 = true then
        k187 x1 x2 x6 (x8 + (1 : Int32)) (sI s0 20 (x8).toNatClampNeg (s0.1 19 (x8).toNatClampNeg))
        else none
        else none
def m_order_L187 (F : Nat) (k90 : Int32 → Int64 → Int32 → St → Option (Int64 × St)) : Nat → Int32 → Int64 → Int64 → Int32 → St → Option (Int64 × St) := lp (fun _ _ _ _ _ => none) (m_order_L187b F k90)
def m_order_L107b (F : Nat) (k90 : Int32 → Int64 → Int32 → St → Option (Int64 × St)) (k107 : Int32 → Int64 → Int32 → Int64 → Int32 → St → Option (Int64 × St)) (x1 : Int32) (x2 : Int64) (x5 : Int32) (x6 : Int64) (x8 : Int32) (s0 : St) : Option (Int64 × St) :=
    if (s0.1 0 21) ≤ x8 then
      m_order_L187 F k90 F x1 x2 x6 (0 : Int32) s0
    else
      if inb x8 6 = true then
      if inb (s0.1 19 (x8).toNatClampNeg) 6 = true then
      if inb (s0.1 19 (x8).toNatClampNeg) 6 = true then
      gB2 (m_seen F (s0.1 17 (s0.1 19 (x8).toNatClampNeg).toNatClampNeg) (s0.1 16 (s0.1 19 (x8).toNatClampNeg).toNatClampNeg) x5 s0) fun r3 s3 =>
      if inb (s0.1 19 (x8).toNatClampNeg) 6 = true then
      gB2 (m_aliveAt F (x5 + (s3.1 18 (s0.1 19 (x8).toNatClampNeg).toNatClampNeg)) s3) fun r4 s4 =>
      if inb (s0.1 19 (x8).toNatClampNeg) 6 = true then
      k107 x1 x2 (x5 + (s4.1 18 (s0.1 19 (x8).toNatClampNeg).toNatClampNeg)) (x6 + (r3 * ((r4).toInt64))) (x8 + (1 : Int32)) s4
      else none
      else none
      else none
      else none
      else none
def m_order_L107 (F : Nat) (k90 : Int32 → Int64 → Int32 → St → Option (Int64 × St)) : Nat → Int32 → Int64 → Int32 → Int64 → Int32 → St → Option (Int64 × St) := lp (fun _ _ _ _ _ _ => none) (m_order_L107b F k90)
def m_order_L90b (F : Nat)  (k90 : Int32 → Int64 → Int32 → St → Option (Int64 × St)) (x1 : Int32) (x2 : Int64) (x4 : Int32) (s0 : St) : Option (Int64 × St) :=
    if x4 = 0 then
      if 0 ≤ x1 then
        if inb x1 6 = true then
        some ((s0.1 20 (x1).toNatClampNeg).toInt64, s0)
        else none
      else
        some (x2, s0)
    else
      m_order_L107 F k90 F x1 x2 (s0.1 0 13) (0 : Int64) (0 : Int32) s0
def m_order_L90 (F : Nat)  : Nat → Int32 → Int64 → Int32 → St → Option (Int64 × St) := lp (fun _ _ _ _ => none) (m_order_L90b F )
def m_order_L62b (F : Nat)  (k62 : Int32 → Int32 → St → Option (Int64 × St)) (x1 : Int32) (x2 : Int32) (s0 : St) : Option (Int64 × St) :=
    if (s0.1 0 21) ≤ x2 then
      m_order_L90 F F x1 (-1 : Int64) (1 : Int32) s0
    else
      if inb x2 6 = true then
      k62 x1 (x2 + (1 : Int32)) (sI s0 19 (x2).toNatClampNeg x2)
      else none
def m_order_L62 (F : Nat)  : Nat → Int32 → Int32 → St → Option (Int64 × St) := lp (fun _ _ _ => none) (m_order_L62b F )
def m_order (F : Nat) (a1 : Int32) (s0 : St) : Option (Int64 × St) :=
  gB2 (m_in F ((a1).toInt64) (-1 : Int64) (5 : Int64) s0) fun r5 s5 =>
  if r5 = 0 then
    gB2 (m_says F (-1 : Int64) s5) fun r7 s7 =>
    some (r7, s7)
  else
    if 0 ≤ (s5.1 0 13) then
      if (s5.1 0 21) = 0 then
        m_order_J52 F s5
      else
        if a1 < (s5.1 0 21) then
          m_order_L62 F F a1 (0 : Int32) s5
        else
          m_order_J52 F s5
    else
      gB2 (m_says F (-2 : Int64) s5) fun r6 s6 =>
      some (r6, s6)
def m_isFound_J38 (F : Nat)   (s0 : St) : Option (Int32 × St) :=
    some ((0 : Int32), s0)
def m_isFound (F : Nat) (a0 : Int64) (a2 : Int64) (a4 : Int64) (s0 : St) : Option (Int32 × St) :=
  gB2 (m_in F a0 (0 : Int64) (3 : Int64) s0) fun r1 s1 =>
  if r1 = 0 then
    m_isFound_J38 F s1
  else
    gB2 (m_in F a2 (0 : Int64) (99 : Int64) s1) fun r2 s2 =>
    if r2 = 0 then
      m_isFound_J38 F s2
    else
      gB2 (m_in F a4 (0 : Int64) (7 : Int64) s2) fun r3 s3 =>
      if r3 = 0 then
        m_isFound_J38 F s3
      else
        some ((1 : Int32), s3)
def m_writes (F : Nat) (a1 : Int32) (a2 : Int32) (a3 : Int32) (s0 : St) : Option St :=
  if inb (s0.1 0 27) 60 = true then
  if inb ((sI s0 21 (s0.1 0 27).toNatClampNeg a1).1 0 27) 60 = true then
  if inb ((sI (sI s0 21 (s0.1 0 27).toNatClampNeg a1) 22 ((sI s0 21 (s0.1 0 27).toNatClampNeg a1).1 0 27).toNatClampNeg a2).1 0 27) 60 = true then
  some (sI (sI (sI (sI s0 21 (s0.1 0 27).toNatClampNeg a1) 22 ((sI s0 21 (s0.1 0 27).toNatClampNeg a1).1 0 27).toNatClampNeg a2) 23 ((sI (sI s0 21 (s0.1 0 27).toNatClampNeg a1) 22 ((sI s0 21 (s0.1 0 27).toNatClampNeg a1).1 0 27).toNatClampNeg a2).1 0 27).toNatClampNeg a3) 0 27 (((sI (sI (sI s0 21 (s0.1 0 27).toNatClampNeg a1) 22 ((sI s0 21 (s0.1 0 27).toNatClampNeg a1).1 0 27).toNatClampNeg a2) 23 ((sI (sI s0 21 (s0.1 0 27).toNatClampNeg a1) 22 ((sI s0 21 (s0.1 0 27).toNatClampNeg a1).1 0 27).toNatClampNeg a2).1 0 27).toNatClampNeg a3).1 0 27) + (1 : Int32)))
  else none
  else none
  else none
def m_found (F : Nat) (a1 : Int32) (a2 : Int32) (a3 : Int32) (s0 : St) : Option (Int32 × St) :=
  gB2 (m_isFound F ((a1).toInt64) ((a2).toInt64) ((a3).toInt64) s0) fun r1 s1 =>
  if r1 = 0 then
    gB2 (m_tells F (-1 : Int32) s1) fun r4 s4 =>
    some (r4, s4)
  else
    if (s1.1 0 27) = (60 : Int32) then
      gB2 (m_tells F (-3 : Int32) s1) fun r3 s3 =>
      some (r3, s3)
    else
      gB (m_writes F a1 a2 a3 s1) fun s2 =>
      some (s2.1 0 27, s2)
def m_share_J17 (F : Nat)   (s0 : St) : Option (Int32 × St) :=
    gB2 (m_tells F (-1 : Int32) s0) fun r1 s1 =>
    some (r1, s1)
def m_share_J54 (F : Nat) (k28 : Int32 → Int32 → Int32 → Int32 → St → Option (Int32 × St)) (x1 : Int32) (x2 : Int32) (x4 : Int32) (y0 : Int32) (y1 : Int32) (s0 : St) : Option (Int32 × St) :=
    k28 x1 x2 (y0 + y1) (x4 + (1 : Int32)) s0
def m_share_L28b (F : Nat)  (k28 : Int32 → Int32 → Int32 → Int32 → St → Option (Int32 × St)) (x1 : Int32) (x2 : Int32) (x3 : Int32) (x4 : Int32) (s0 : St) : Option (Int32 × St) :=
    if (s0.1 0 27) ≤ x4 then
      gB2 (m_lowest F ((x3).toInt64) (((s0.1 0 27) + (8 : Int32)).toInt64) x2 s0) fun r2 s2 =>
      some ((r2).toInt32, s2)
    else
      if inb x4 60 = true then
      if (s0.1 23 (x4).toNatClampNeg) = x1 then
        m_share_J54 F k28 x1 x2 x4 x3 (1 : Int32) s0
      else
        m_share_J54 F k28 x1 x2 x4 x3 (0 : Int32) s0
      else none
def m_share_L28 (F : Nat)  : Nat → Int32 → Int32 → Int32 → Int32 → St → Option (Int32 × St) := lp (fun _ _ _ _ _ => none) (m_share_L28b F )
def m_share (F : Nat) (a1 : Int32) (a2 : Int32) (s0 : St) : Option (Int32 × St) :=
  gB2 (m_isKind F a1 s0) fun r3 s3 =>
  if r3 = 0 then
    m_share_J17 F s3
  else
    gB2 (m_in F ((a2).toInt64) (0 : Int64) (1 : Int64) s3) fun r4 s4 =>
    if r4 = 0 then
      m_share_J17 F s4
    else
      m_share_L28 F F a1 a2 (1 : Int32) (0 : Int32) s4
def m_spanOf_J133 (F : Nat) (k72 : Int32 → Int32 → Int32 → Int32 → Int32 → St → Option (Int32 × St)) (k88 : Int32 → Int32 → Int32 → Int32 → Int32 → Int32 → St → Option (Int32 × St)) (x1 : Int32) (x3 : Int32) (x5 : Int32) (x6 : Int32) (x8 : Int32) (y0 : Int32) (y1 : Int32) (s0 : St) : Option (Int32 × St) :=
    k88 x1 x3 x5 x6 (y0 + y1) (x8 + (1 : Int32)) s0
def m_spanOf_J132 (F : Nat) (k72 : Int32 → Int32 → Int32 → Int32 → Int32 → St → Option (Int32 × St)) (k88 : Int32 → Int32 → Int32 → Int32 → Int32 → Int32 → St → Option (Int32 × St)) (x1 : Int32) (x3 : Int32) (x5 : Int32) (x6 : Int32) (x8 : Int32) (y0 : Int32) (s0 : St) : Option (Int32 × St) :=
    m_spanOf_J133 F k72 k88 x1 x3 x5 x6 x8 y0 (0 : Int32) s0
def m_spanOf_L88b (F : Nat) (k72 : Int32 → Int32 → Int32 → Int32 → Int32 → St → Option (Int32 × St)) (k88 : Int32 → Int32 → Int32 → Int32 → Int32 → Int32 → St → Option (Int32 × St)) (x1 : Int32) (x3 : Int32) (x5 : Int32) (x6 : Int32) (x7 : Int32) (x8 : Int32) (s0 : St) : Option (Int32 × St) :=
    if (s0.1 0 27) ≤ x8 then
      k72 x1 x3 x5 x6 x7 s0
    else
      if inb x8 60 = true then
      if (s0.1 21 (x8).toNatClampNeg) = x1 then
        if x8 = x3 then
          m_spanOf_J132 F k72 k88 x1 x3 x5 x6 x8 x7 s0
        else
          if inb x8 60 = true then
          if x6 < (s0.1 22 (x8).toNatClampNeg) then
            m_spanOf_J132 F k72 k88 x1 x3 x5 x6 x8 x7 s0
          else
            m_spanOf_J133 F k72 k88 x1 x3 x5 x6 x8 x7 (1 : Int32) s0
          else none
      else
        m_spanOf_J132 F k72 k88 x1 x3 x5 x6 x8 x7 s0
      else none
def m_spanOf_L88 (F : Nat) (k72 : Int32 → Int32 → Int32 → Int32 → Int32 → St → Option (Int32 × St)) : Nat → Int32 → Int32 → Int32 → Int32 → Int32 → Int32 → St → Option (Int32 × St) := lp (fun _ _ _ _ _ _ _ => none) (m_spanOf_L88b F k72)
def m_spanOf_L72b (F : Nat)  (k72 : Int32 → Int32 → Int32 → Int32 → Int32 → St → Option (Int32 × St)) (x1 : Int32) (x3 : Int32) (x5 : Int32) (x6 : Int32) (x7 : Int32) (s0 : St) : Option (Int32 × St) :=
    if x5 ≤ x7 then
      some (x6, s0)
    else
      m_spanOf_L88 F k72 F x1 x3 x5 (x6 + (1 : Int32)) (0 : Int32) (0 : Int32) s0
def m_spanOf_L72 (F : Nat)  : Nat → Int32 → Int32 → Int32 → Int32 → Int32 → St → Option (Int32 × St) := lp (fun _ _ _ _ _ _ => none) (m_spanOf_L72b F )
def m_spanOf_J39 (F : Nat) (k6 : Int32 → Int32 → Int32 → Int32 → Int32 → St → Option (Int32 × St)) (x1 : Int32) (x2 : Int32) (x3 : Int32) (x5 : Int32) (y0 : Int32) (y1 : Int32) (s0 : St) : Option (Int32 × St) :=
    k6 x1 x2 x3 (y0 + y1) (x5 + (1 : Int32)) s0
def m_spanOf_J38 (F : Nat) (k6 : Int32 → Int32 → Int32 → Int32 → Int32 → St → Option (Int32 × St)) (x1 : Int32) (x2 : Int32) (x3 : Int32) (x5 : Int32) (y0 : Int32) (s0 : St) : Option (Int32 × St) :=
    m_spanOf_J39 F k6 x1 x2 x3 x5 y0 (0 : Int32) s0
def m_spanOf_L6b (F : Nat)  (k6 : Int32 → Int32 → Int32 → Int32 → Int32 → St → Option (Int32 × St)) (x1 : Int32) (x2 : Int32) (x3 : Int32) (x4 : Int32) (x5 : Int32) (s0 : St) : Option (Int32 × St) :=
    if (s0.1 0 27) ≤ x5 then
      if x4 = 0 then
        some ((-4 : Int32), s0)
      else
        m_spanOf_L72 F F x1 x3 (((x2 * x4) + (3 : Int32)) / (4 : Int32)) (-1 : Int32) (0 : Int32) s0
    else
      if inb x5 60 = true then
      if (s0.1 21 (x5).toNatClampNeg) = x1 then
        if x5 = x3 then
          m_spanOf_J38 F k6 x1 x2 x3 x5 x4 s0
        else
          m_spanOf_J39 F k6 x1 x2 x3 x5 x4 (1 : Int32) s0
      else
        m_spanOf_J38 F k6 x1 x2 x3 x5 x4 s0
      else none
def m_spanOf_L6 (F : Nat)  : Nat → Int32 → Int32 → Int32 → Int32 → Int32 → St → Option (Int32 × St) := lp (fun _ _ _ _ _ _ => none) (m_spanOf_L6b F )
def m_spanOf (F : Nat) (a1 : Int32) (a2 : Int32) (a3 : Int32) (s0 : St) : Option (Int32 × St) :=
  m_spanOf_L6 F F a1 a2 a3 (0 : Int32) (0 : Int32) s0
def m_span_J39 (F : Nat)   (s0 : St) : Option (Int32 × St) :=
    gB2 (m_tells F (-1 : Int32) s0) fun r1 s1 =>
    some (r1, s1)
def m_span (F : Nat) (a1 : Int32) (a2 : Int32) (s0 : St) : Option (Int32 × St) :=
  gB2 (m_in F ((a1).toInt64) (0 : Int64) (3 : Int64) s0) fun r2 s2 =>
  if r2 = 0 then
    m_span_J39 F s2
  else
    gB2 (m_in F ((a2).toInt64) (1 : Int64) (4 : Int64) s2) fun r3 s3 =>
    if r3 = 0 then
      m_span_J39 F s3
    else
      gB2 (m_spanOf F a1 a2 (-4 : Int32) s3) fun r4 s4 =>
      gB2 (m_tells F r4 s4) fun r5 s5 =>
      some (r5, s5)
def m_held_J39 (F : Nat) (k4 : Int32 → Int32 → St → Option (Int32 × St)) (x2 : Int32) (y0 : Int32) (y1 : Int32) (s0 : St) : Option (Int32 × St) :=
    k4 (y0 + y1) (x2 + (1 : Int32)) s0
def m_held_L4b (F : Nat)  (k4 : Int32 → Int32 → St → Option (Int32 × St)) (x1 : Int32) (x2 : Int32) (s0 : St) : Option (Int32 × St) :=
    if (s0.1 0 27) ≤ x2 then
      some (x1, s0)
    else
      if inb x2 60 = true then
      if inb x2 60 = true then
      gB2 (m_spanOf F (s0.1 21 (x2).toNatClampNeg) (3 : Int32) x2 s0) fun r1 s1 =>
      if r1 < (s0.1 22 (x2).toNatClampNeg) then
        m_held_J39 F k4 x2 x1 (0 : Int32) s1
      else
        m_held_J39 F k4 x2 x1 (1 : Int32) s1
      else none
      else none
def m_held_L4 (F : Nat)  : Nat → Int32 → Int32 → St → Option (Int32 × St) := lp (fun _ _ _ => none) (m_held_L4b F )
def m_held (F : Nat)  (s0 : St) : Option (Int32 × St) :=
  m_held_L4 F F (0 : Int32) (0 : Int32) s0
def m_measure_J24 (F : Nat)   (s0 : St) : Option (Int32 × St) :=
    gB2 (m_tells F (-1 : Int32) s0) fun r1 s1 =>
    some (r1, s1)
def m_measure (F : Nat) (a1 : Int32) (a2 : Int32) (s0 : St) : Option (Int32 × St) :=
  gB2 (m_in F ((a1).toInt64) (0 : Int64) (15 : Int64) s0) fun r2 s2 =>
  if r2 = 0 then
    m_measure_J24 F s2
  else
    gB2 (m_in F ((a2).toInt64) (0 : Int64) (15 : Int64) s2) fun r3 s3 =>
    if r3 = 0 then
      m_measure_J24 F s3
    else
      if (s3.1 0 31) = (8 : Int32) then
        gB2 (m_tells F (-3 : Int32) s3) fun r4 s4 =>
        some (r4, s4)
      else
        if inb (s3.1 0 31) 8 = true then
        if inb ((sI s3 24 (s3.1 0 31).toNatClampNeg a1).1 0 31) 8 = true then
        some (((sI (sI (sI s3 24 (s3.1 0 31).toNatClampNeg a1) 25 ((sI s3 24 (s3.1 0 31).toNatClampNeg a1).1 0 31).toNatClampNeg a2) 0 31 (((sI (sI s3 24 (s3.1 0 31).toNatClampNeg a1) 25 ((sI s3 24 (s3.1 0 31).toNatClampNeg a1).1 0 31).toNatClampNeg a2).1 0 31) + (1 : Int32))).1 0 31) - (1 : Int32), (sI (sI (sI s3 24 (s3.1 0 31).toNatClampNeg a1) 25 ((sI s3 24 (s3.1 0 31).toNatClampNeg a1).1 0 31).toNatClampNeg a2) 0 31 (((sI (sI s3 24 (s3.1 0 31).toNatClampNeg a1) 25 ((sI s3 24 (s3.1 0 31).toNatClampNeg a1).1 0 31).toNatClampNeg a2).1 0 31) + (1 : Int32))))
        else none
        else none
def m_leavesOf_J42 (F : Nat) (k5 : Int32 → Int64 → Int32 → St → Option (Int64 × St)) (x1 : Int32) (x4 : Int32) (y0 : Int64) (y1 : Int64) (s0 : St) : Option (Int64 × St) :=
    k5 x1 (y0 * y1) (x4 + (1 : Int32)) s0
def m_leavesOf_L5b (F : Nat)  (k5 : Int32 → Int64 → Int32 → St → Option (Int64 × St)) (x1 : Int32) (x2 : Int64) (x4 : Int32) (s0 : St) : Option (Int64 × St) :=
    if (s0.1 0 31) ≤ x4 then
      some (x2, s0)
    else
      if ((x1 >>> (x4 &&& 31)) &&& (1 : Int32)) = (1 : Int32) then
        if inb x4 8 = true then
        m_leavesOf_J42 F k5 x1 x4 x2 (((16 : Int32) - (s0.1 24 (x4).toNatClampNeg)).toInt64) s0
        else none
      else
        m_leavesOf_J42 F k5 x1 x4 x2 (16 : Int64) s0
def m_leavesOf_L5 (F : Nat)  : Nat → Int32 → Int64 → Int32 → St → Option (Int64 × St) := lp (fun _ _ _ _ => none) (m_leavesOf_L5b F )
def m_leavesOf (F : Nat) (a1 : Int32) (s0 : St) : Option (Int64 × St) :=
  m_leavesOf_L5 F F a1 (1 : Int64) (0 : Int32) s0
def m_leaves_J28 (F : Nat)   (s0 : St) : Option (Int64 × St) :=
    gB2 (m_says F (-1 : Int64) s0) fun r1 s1 =>
    some (r1, s1)
def m_leaves (F : Nat) (a1 : Int32) (a2 : Int32) (s0 : St) : Option (Int64 × St) :=
  gB2 (m_in F ((a1).toInt64) (0 : Int64) ((((1 : Int32) <<< ((s0.1 0 31) &&& 31)) - (1 : Int32)).toInt64) s0) fun r2 s2 =>
  if r2 = 0 then
    m_leaves_J28 F s2
  else
    gB2 (m_in F ((a2).toInt64) (0 : Int64) (1 : Int64) s2) fun r3 s3 =>
    if r3 = 0 then
      m_leaves_J28 F s3
    else
      gB2 (m_leavesOf F a1 s3) fun r4 s4 =>
      gB2 (m_lowest F r4 (((1 : Int64)) <<< (((4 : Int32) * (s4.1 0 31)).toInt64 &&& 63)) a2 s4) fun r5 s5 =>
      some (r5, s5)
def m_least_J22 (F : Nat)   (s0 : St) : Option (Int32 × St) :=
    gB2 (m_tells F (-1 : Int32) s0) fun r1 s1 =>
    some (r1, s1)
def m_least_J156 (F : Nat) (k37 : Int32 → Int32 → Int32 → Int32 → Int32 → St → Option (Int32 × St)) (x1 : Int32) (x2 : Int32) (x3 : Int32) (x5 : Int32) (y0 : Int32) (s0 : St) : Option (Int32 × St) :=
    k37 x1 x2 x3 y0 (x5 + (1 : Int32)) s0
def m_least_J143 (F : Nat) (k37 : Int32 → Int32 → Int32 → Int32 → Int32 → St → Option (Int32 × St)) (x1 : Int32) (x2 : Int32) (x4 : Int32) (x5 : Int32) (x6 : Int32) (x7 : Int32) (y0 : Int32) (s0 : St) : Option (Int32 × St) :=
    if x7 = 0 then
      m_least_J156 F k37 x1 x2 y0 x5 x4 s0
    else
      m_least_J156 F k37 x1 x2 y0 x5 x6 s0
def m_least_J130 (F : Nat) (k37 : Int32 → Int32 → Int32 → Int32 → Int32 → St → Option (Int32 × St)) (x1 : Int32) (x2 : Int32) (x3 : Int32) (x4 : Int32) (x5 : Int32) (x6 : Int32) (y0 : Int32) (s0 : St) : Option (Int32 × St) :=
    if y0 = 0 then
      m_least_J143 F k37 x1 x2 x4 x5 x6 y0 x3 s0
    else
      m_least_J143 F k37 x1 x2 x4 x5 x6 y0 x5 s0
def m_least_J129 (F : Nat) (k37 : Int32 → Int32 → Int32 → Int32 → Int32 → St → Option (Int32 × St)) (x1 : Int32) (x2 : Int32) (x3 : Int32) (x4 : Int32) (x5 : Int32) (x6 : Int32) (s0 : St) : Option (Int32 × St) :=
    m_least_J130 F k37 x1 x2 x3 x4 x5 x6 (0 : Int32) s0
def m_least_J125 (F : Nat) (k37 : Int32 → Int32 → Int32 → Int32 → Int32 → St → Option (Int32 × St)) (x1 : Int32) (x2 : Int32) (x3 : Int32) (x4 : Int32) (x5 : Int32) (x6 : Int32) (s0 : St) : Option (Int32 × St) :=
    m_least_J130 F k37 x1 x2 x3 x4 x5 x6 (1 : Int32) s0
def m_least_L54b (F : Nat) (k37 : Int32 → Int32 → Int32 → Int32 → Int32 → St → Option (Int32 × St)) (k54 : Int32 → Int32 → Int32 → Int32 → Int32 → Int32 → Int32 → St → Option (Int32 × St)) (x1 : Int32) (x2 : Int32) (x3 : Int32) (x4 : Int32) (x5 : Int32) (x6 : Int32) (x7 : Int32) (s0 : St) : Option (Int32 × St) :=
    if (s0.1 0 31) ≤ x7 then
      gB2 (m_leavesOf F x5 s0) fun r2 s2 =>
      if 0 < (lg_cmp (r2 * (16 : Int64)) (((x1).toInt64) * (((1 : Int64)) <<< (((4 : Int32) * (s2.1 0 31)).toInt64 &&& 63)))) then
        m_least_J129 F k37 x1 x2 x3 x4 x5 x6 s2
      else
        if x3 < 0 then
          m_least_J125 F k37 x1 x2 x3 x4 x5 x6 s2
        else
          if x4 ≤ x6 then
            m_least_J129 F k37 x1 x2 x3 x4 x5 x6 s2
          else
            m_least_J125 F k37 x1 x2 x3 x4 x5 x6 s2
    else
      if inb x7 8 = true then
      k54 x1 x2 x3 x4 x5 (x6 + (((x5 >>> (x7 &&& 31)) &&& (1 : Int32)) * (s0.1 25 (x7).toNatClampNeg))) (x7 + (1 : Int32)) s0
      else none
def m_least_L54 (F : Nat) (k37 : Int32 → Int32 → Int32 → Int32 → Int32 → St → Option (Int32 × St)) : Nat → Int32 → Int32 → Int32 → Int32 → Int32 → Int32 → Int32 → St → Option (Int32 × St) := lp (fun _ _ _ _ _ _ _ _ => none) (m_least_L54b F k37)
def m_least_L37b (F : Nat)  (k37 : Int32 → Int32 → Int32 → Int32 → Int32 → St → Option (Int32 × St)) (x1 : Int32) (x2 : Int32) (x3 : Int32) (x4 : Int32) (x5 : Int32) (s0 : St) : Option (Int32 × St) :=
    if ((1 : Int32) <<< ((s0.1 0 31) &&& 31)) ≤ x5 then
      if 0 ≤ x3 then
        if x2 = 0 then
          some (x3, s0)
        else
          some (x4, s0)
      else
        gB2 (m_tells F (-4 : Int32) s0) fun r3 s3 =>
        some (r3, s3)
    else
      m_least_L54 F k37 F x1 x2 x3 x4 x5 (0 : Int32) (0 : Int32) s0
def m_least_L37 (F : Nat)  : Nat → Int32 → Int32 → Int32 → Int32 → Int32 → St → Option (Int32 × St) := lp (fun _ _ _ _ _ _ => none) (m_least_L37b F )
def m_least (F : Nat) (a1 : Int32) (a2 : Int32) (s0 : St) : Option (Int32 × St) :=
  gB2 (m_in F ((a1).toInt64) (0 : Int64) (16 : Int64) s0) fun r4 s4 =>
  if r4 = 0 then
    m_least_J22 F s4
  else
    gB2 (m_in F ((a2).toInt64) (0 : Int64) (1 : Int64) s4) fun r5 s5 =>
    if r5 = 0 then
      m_least_J22 F s5
    else
      m_least_L37 F F a1 a2 (-4 : Int32) (0 : Int32) (0 : Int32) s5
def m_netOf_J85 (F : Nat) (k5 : Int32 → Int32 → Int64 → Int32 → St → Option (Int64 × St)) (x1 : Int32) (x2 : Int32) (x5 : Int32) (y0 : Int64) (y1 : Int64) (s0 : St) : Option (Int64 × St) :=
    k5 x1 x2 (y0 + y1) (x5 + (1 : Int32)) s0
def m_netOf_J69 (F : Nat) (k5 : Int32 → Int32 → Int64 → Int32 → St → Option (Int64 × St)) (x1 : Int32) (x2 : Int32) (x3 : Int64) (x5 : Int32) (x6 : Int32) (s0 : St) : Option (Int64 × St) :=
    if x6 = 0 then
      m_netOf_J85 F k5 x1 x2 x5 x3 (0 : Int64) s0
    else
      gB2 (m_partsOf F x5 s0) fun r1 s1 =>
      m_netOf_J85 F k5 x1 x2 x5 x3 r1 s1
def m_netOf_J61 (F : Nat) (k5 : Int32 → Int32 → Int64 → Int32 → St → Option (Int64 × St)) (k19 : Int32 → Int32 → Int64 → Int32 → Int32 → Int32 → St → Option (Int64 × St)) (x1 : Int32) (x2 : Int32) (x3 : Int64) (x5 : Int32) (x7 : Int32) (y0 : Int32) (s0 : St) : Option (Int64 × St) :=
    k19 x1 x2 x3 x5 y0 (x7 + (1 : Int32)) s0
def m_netOf_J60 (F : Nat) (k5 : Int32 → Int32 → Int64 → Int32 → St → Option (Int64 × St)) (k19 : Int32 → Int32 → Int64 → Int32 → Int32 → Int32 → St → Option (Int64 × St)) (x1 : Int32) (x2 : Int32) (x3 : Int64) (x5 : Int32) (x7 : Int32) (s0 : St) : Option (Int64 × St) :=
    m_netOf_J61 F k5 k19 x1 x2 x3 x5 x7 (0 : Int32) s0
def m_netOf_L19b (F : Nat) (k5 : Int32 → Int32 → Int64 → Int32 → St → Option (Int64 × St)) (k19 : Int32 → Int32 → Int64 → Int32 → Int32 → Int32 → St → Option (Int64 × St)) (x1 : Int32) (x2 : Int32) (x3 : Int64) (x5 : Int32) (x6 : Int32) (x7 : Int32) (s0 : St) : Option (Int64 × St) :=
    if x2 ≤ x7 then
      m_netOf_J69 F k5 x1 x2 x3 x5 x6 s0
    else
      if x6 = 0 then
        if ((x1 >>> (x7 &&& 31)) &&& (1 : Int32)) = (1 : Int32) then
          if inb x7 10 = true then
          gB2 (m_apart F x5 (s0.1 26 (x7).toNatClampNeg) s0) fun r2 s2 =>
          if (2 : Int32) ≤ r2 then
            m_netOf_J60 F k5 k19 x1 x2 x3 x5 x7 s2
          else
            m_netOf_J61 F k5 k19 x1 x2 x3 x5 x7 (1 : Int32) s2
          else none
        else
          m_netOf_J60 F k5 k19 x1 x2 x3 x5 x7 s0
      else
        m_netOf_J69 F k5 x1 x2 x3 x5 x6 s0
def m_netOf_L19 (F : Nat) (k5 : Int32 → Int32 → Int64 → Int32 → St → Option (Int64 × St)) : Nat → Int32 → Int32 → Int64 → Int32 → Int32 → Int32 → St → Option (Int64 × St) := lp (fun _ _ _ _ _ _ _ => none) (m_netOf_L19b F k5)
def m_netOf_L5b (F : Nat)  (k5 : Int32 → Int32 → Int64 → Int32 → St → Option (Int64 × St)) (x1 : Int32) (x2 : Int32) (x3 : Int64) (x5 : Int32) (s0 : St) : Option (Int64 × St) :=
    if (144 : Int32) ≤ x5 then
      some (x3, s0)
    else
      m_netOf_L19 F k5 F x1 x2 x3 x5 (0 : Int32) (0 : Int32) s0
def m_netOf_L5 (F : Nat)  : Nat → Int32 → Int32 → Int64 → Int32 → St → Option (Int64 × St) := lp (fun _ _ _ _ _ => none) (m_netOf_L5b F )
def m_netOf (F : Nat) (a1 : Int32) (a2 : Int32) (s0 : St) : Option (Int64 × St) :=
  m_netOf_L5 F F a1 a2 (0 : Int64) (0 : Int32) s0
def m_isAhead (F : Nat) (a0 : Int32) (a1 : Int32) (s0 : St) : Option (Int32 × St) :=
  if ((a0 &&& (a0 ^^^ a1)) &&& (-(a0 ^^^ a1))) = 0 then
    some ((0 : Int32), s0)
  else
    some ((1 : Int32), s0)
def m_net_J27 (F : Nat)   (s0 : St) : Option (Int64 × St) :=
    gB2 (m_says F (-1 : Int64) s0) fun r1 s1 =>
    some (r1, s1)
def m_net_L258b (F : Nat)  (k258 : Int32 → Int64 → Int32 → Int32 → St → Option (Int64 × St)) (x2 : Int32) (x5 : Int64) (x7 : Int32) (x8 : Int32) (s0 : St) : Option (Int64 × St) :=
    if ((x7 >>> (x8 &&& 31)) &&& (1 : Int32)) = 0 then
      k258 x2 x5 x7 (x8 + (1 : Int32)) s0
    else
      if 0 ≤ x2 then
        if inb x8 10 = true then
        some ((s0.1 26 (x8).toNatClampNeg).toInt64, s0)
        else none
      else
        some (x5, s0)
def m_net_L258 (F : Nat)  : Nat → Int32 → Int64 → Int32 → Int32 → St → Option (Int64 × St) := lp (fun _ _ _ _ _ => none) (m_net_L258b F )
def m_net_L234b (F : Nat)  (k234 : Int32 → Int64 → Int32 → Int32 → St → Option (Int64 × St)) (x2 : Int32) (x5 : Int64) (x7 : Int32) (x8 : Int32) (s0 : St) : Option (Int64 × St) :=
    if x2 ≤ x8 then
      m_net_L258 F F x2 x5 x7 (0 : Int32) s0
    else
      k234 x2 x5 (x7 &&& (x7 - (1 : Int32))) (x8 + (1 : Int32)) s0
def m_net_L234 (F : Nat)  : Nat → Int32 → Int64 → Int32 → Int32 → St → Option (Int64 × St) := lp (fun _ _ _ _ _ => none) (m_net_L234b F )
def m_net_J221 (F : Nat) (k107 : Int32 → Int32 → Int32 → Int32 → Int64 → Int32 → St → Option (Int64 × St)) (x1 : Int32) (x2 : Int32) (x3 : Int32) (x4 : Int32) (x5 : Int64) (x7 : Int32) (s0 : St) : Option (Int64 × St) :=
    k107 x1 x2 x3 x4 x5 (x7 + (1 : Int32)) s0
def m_net_J219 (F : Nat) (k107 : Int32 → Int32 → Int32 → Int32 → Int64 → Int32 → St → Option (Int64 × St)) (x1 : Int32) (x2 : Int32) (x3 : Int32) (x4 : Int32) (x7 : Int32) (y0 : Int64) (s0 : St) : Option (Int64 × St) :=
    m_net_J221 F k107 x1 x2 x3 x4 y0 x7 s0
def m_net_J205 (F : Nat) (k107 : Int32 → Int32 → Int32 → Int32 → Int64 → Int32 → St → Option (Int64 × St)) (x1 : Int32) (x2 : Int32) (x3 : Int32) (x5 : Int64) (x7 : Int32) (x9 : Int64) (x11 : Int32) (y0 : Int32) (s0 : St) : Option (Int64 × St) :=
    if x11 = 0 then
      m_net_J219 F k107 x1 x2 x3 y0 x7 x5 s0
    else
      m_net_J219 F k107 x1 x2 x3 y0 x7 x9 s0
def m_net_J191 (F : Nat) (k107 : Int32 → Int32 → Int32 → Int32 → Int64 → Int32 → St → Option (Int64 × St)) (x1 : Int32) (x2 : Int32) (x3 : Int32) (x4 : Int32) (x5 : Int64) (x7 : Int32) (x9 : Int64) (y0 : Int32) (s0 : St) : Option (Int64 × St) :=
    if y0 = 0 then
      m_net_J205 F k107 x1 x2 x3 x5 x7 x9 y0 x4 s0
    else
      m_net_J205 F k107 x1 x2 x3 x5 x7 x9 y0 x7 s0
def m_net_J186 (F : Nat) (k107 : Int32 → Int32 → Int32 → Int32 → Int64 → Int32 → St → Option (Int64 × St)) (x1 : Int32) (x2 : Int32) (x3 : Int32) (x4 : Int32) (x5 : Int64) (x7 : Int32) (x9 : Int64) (s0 : St) : Option (Int64 × St) :=
    m_net_J191 F k107 x1 x2 x3 x4 x5 x7 x9 (1 : Int32) s0
def m_net_J190 (F : Nat) (k107 : Int32 → Int32 → Int32 → Int32 → Int64 → Int32 → St → Option (Int64 × St)) (x1 : Int32) (x2 : Int32) (x3 : Int32) (x4 : Int32) (x5 : Int64) (x7 : Int32) (x9 : Int64) (s0 : St) : Option (Int64 × St) :=
    m_net_J191 F k107 x1 x2 x3 x4 x5 x7 x9 (0 : Int32) s0
def m_net_L121b (F : Nat) (k107 : Int32 → Int32 → Int32 → Int32 → Int64 → Int32 → St → Option (Int64 × St)) (k121 : Int32 → Int32 → Int32 → Int32 → Int64 → Int32 → Int32 → Int32 → St → Option (Int64 × St)) (x1 : Int32) (x2 : Int32) (x3 : Int32) (x4 : Int32) (x5 : Int64) (x7 : Int32) (x8 : Int32) (x9 : Int32) (s0 : St) : Option (Int64 × St) :=
    if x3 ≤ x9 then
      if x8 = x1 then
        gB2 (m_netOf F x7 x3 s0) fun r2 s2 =>
        if 0 < (lg_cmp r2 x5) then
          m_net_J186 F k107 x1 x2 x3 x4 x5 x7 r2 s2
        else
          if (lg_cmp r2 x5) = 0 then
            gB2 (m_isAhead F x7 x4 s2) fun r3 s3 =>
            if r3 = 0 then
              m_net_J190 F k107 x1 x2 x3 x4 x5 x7 r2 s3
            else
              m_net_J186 F k107 x1 x2 x3 x4 x5 x7 r2 s3
          else
            m_net_J190 F k107 x1 x2 x3 x4 x5 x7 r2 s2
      else
        m_net_J221 F k107 x1 x2 x3 x4 x5 x7 s0
    else
      k121 x1 x2 x3 x4 x5 x7 (x8 + ((x7 >>> (x9 &&& 31)) &&& (1 : Int32))) (x9 + (1 : Int32)) s0
def m_net_L121 (F : Nat) (k107 : Int32 → Int32 → Int32 → Int32 → Int64 → Int32 → St → Option (Int64 × St)) : Nat → Int32 → Int32 → Int32 → Int32 → Int64 → Int32 → Int32 → Int32 → St → Option (Int64 × St) := lp (fun _ _ _ _ _ _ _ _ _ => none) (m_net_L121b F k107)
def m_net_L107b (F : Nat)  (k107 : Int32 → Int32 → Int32 → Int32 → Int64 → Int32 → St → Option (Int64 × St)) (x1 : Int32) (x2 : Int32) (x3 : Int32) (x4 : Int32) (x5 : Int64) (x7 : Int32) (s0 : St) : Option (Int64 × St) :=
    if ((1 : Int32) <<< (x3 &&& 31)) ≤ x7 then
      m_net_L234 F F x2 x5 x4 (0 : Int32) s0
    else
      m_net_L121 F k107 F x1 x2 x3 x4 x5 x7 (0 : Int32) (0 : Int32) s0
def m_net_L107 (F : Nat)  : Nat → Int32 → Int32 → Int32 → Int32 → Int64 → Int32 → St → Option (Int64 × St) := lp (fun _ _ _ _ _ _ _ => none) (m_net_L107b F )
def m_net_J77 (F : Nat) (k40 : Int32 → Int32 → Int32 → Int32 → St → Option (Int64 × St)) (x1 : Int32) (x2 : Int32) (x3 : Int32) (x4 : Int32) (s0 : St) : Option (Int64 × St) :=
    k40 x1 x2 x3 (x4 + (1 : Int32)) s0
def m_net_L40b (F : Nat)  (k40 : Int32 → Int32 → Int32 → Int32 → St → Option (Int64 × St)) (x1 : Int32) (x2 : Int32) (x3 : Int32) (x4 : Int32) (s0 : St) : Option (Int64 × St) :=
    if (144 : Int32) ≤ x4 then
      if x1 ≤ x3 then
        m_net_L107 F F x1 x2 x3 (0 : Int32) (-1 : Int64) (1 : Int32) s0
      else
        gB2 (m_says F (-4 : Int64) s0) fun r4 s4 =>
        some (r4, s4)
    else
      if inb x4 144 = true then
      if (s0.1 2 (x4).toNatClampNeg) = (7 : Int32) then
        if (10 : Int32) ≤ x3 then
          m_net_J77 F k40 x1 x2 x3 x4 s0
        else
          if inb x3 10 = true then
          m_net_J77 F k40 x1 x2 (x3 + (1 : Int32)) x4 (sI s0 26 (x3).toNatClampNeg x4)
          else none
      else
        m_net_J77 F k40 x1 x2 x3 x4 s0
      else none
def m_net_L40 (F : Nat)  : Nat → Int32 → Int32 → Int32 → Int32 → St → Option (Int64 × St) := lp (fun _ _ _ _ _ => none) (m_net_L40b F )
def m_net (F : Nat) (a1 : Int32) (a2 : Int32) (s0 : St) : Option (Int64 × St) :=
  gB2 (m_in F ((a1).toInt64) (1 : Int64) (4 : Int64) s0) fun r5 s5 =>
  if r5 = 0 then
    m_net_J27 F s5
  else
    gB2 (m_in F ((a2).toInt64) (-1 : Int64) ((a1 - (1 : Int32)).toInt64) s5) fun r6 s6 =>
    if r6 = 0 then
      m_net_J27 F s6
    else
      m_net_L40 F F a1 a2 (0 : Int32) (0 : Int32) s6
def m_clear (F : Nat)  (s0 : St) : Option (Int32 × St) :=
  some (((((s0.1 0 14) + (s0.1 0 18)) + (s0.1 0 21)) + (s0.1 0 31)) + (s0.1 0 27), (sI (sI (sI (sI (sI s0 0 14 (0 : Int32)) 0 18 (0 : Int32)) 0 21 (0 : Int32)) 0 31 (0 : Int32)) 0 27 (0 : Int32)))
def m_lay_L2b (F : Nat)  (k2 : Int32 → Int32 → St → Option (Int32 × St)) (x2 : Int32) (x3 : Int32) (s0 : St) : Option (Int32 × St) :=
    if (144 : Int32) ≤ x3 then
      some (x2 + (144 : Int32), s0)
    else
      if inb x3 144 = true then
      if inb (x2 + x3) 760 = true then
      k2 x2 (x3 + (1 : Int32)) (sI s0 27 (x2 + x3).toNatClampNeg (s0.1 2 (x3).toNatClampNeg))
      else none
      else none
def m_lay_L2 (F : Nat)  : Nat → Int32 → Int32 → St → Option (Int32 × St) := lp (fun _ _ _ => none) (m_lay_L2b F )
def m_lay (F : Nat) (a2 : Int32) (s0 : St) : Option (Int32 × St) :=
  m_lay_L2 F F a2 (0 : Int32) s0
def m_lay_v1_L2b (F : Nat)  (k2 : Int32 → Int32 → St → Option (Int32 × St)) (x2 : Int32) (x3 : Int32) (s0 : St) : Option (Int32 × St) :=
    if (144 : Int32) ≤ x3 then
      some (x2 + (144 : Int32), s0)
    else
      if inb x3 144 = true then
      if inb (x2 + x3) 760 = true then
      k2 x2 (x3 + (1 : Int32)) (sI s0 27 (x2 + x3).toNatClampNeg (s0.1 3 (x3).toNatClampNeg))
      else none
      else none
def m_lay_v1_L2 (F : Nat)  : Nat → Int32 → Int32 → St → Option (Int32 × St) := lp (fun _ _ _ => none) (m_lay_v1_L2b F )
def m_lay_v1 (F : Nat) (a2 : Int32) (s0 : St) : Option (Int32 × St) :=
  m_lay_v1_L2 F F a2 (0 : Int32) s0
def m_lay_v2_L2b (F : Nat)  (k2 : Int32 → Int32 → St → Option (Int32 × St)) (x2 : Int32) (x3 : Int32) (s0 : St) : Option (Int32 × St) :=
    if (144 : Int32) ≤ x3 then
      some (x2 + (144 : Int32), s0)
    else
      if inb x3 144 = true then
      if inb (x2 + x3) 760 = true then
      k2 x2 (x3 + (1 : Int32)) (sI s0 27 (x2 + x3).toNatClampNeg (s0.1 4 (x3).toNatClampNeg))
      else none
      else none
def m_lay_v2_L2 (F : Nat)  : Nat → Int32 → Int32 → St → Option (Int32 × St) := lp (fun _ _ _ => none) (m_lay_v2_L2b F )
def m_lay_v2 (F : Nat) (a2 : Int32) (s0 : St) : Option (Int32 × St) :=
  m_lay_v2_L2 F F a2 (0 : Int32) s0
def m_lay_v3_L2b (F : Nat)  (k2 : Int32 → Int32 → St → Option (Int32 × St)) (x2 : Int32) (x3 : Int32) (s0 : St) : Option (Int32 × St) :=
    if (10 : Int32) ≤ x3 then
      some (x2 + (10 : Int32), s0)
    else
      if inb x3 10 = true then
      if inb (x2 + x3) 760 = true then
      k2 x2 (x3 + (1 : Int32)) (sI s0 27 (x2 + x3).toNatClampNeg (s0.1 5 (x3).toNatClampNeg))
      else none
      else none
def m_lay_v3_L2 (F : Nat)  : Nat → Int32 → Int32 → St → Option (Int32 × St) := lp (fun _ _ _ => none) (m_lay_v3_L2b F )
def m_lay_v3 (F : Nat) (a2 : Int32) (s0 : St) : Option (Int32 × St) :=
  m_lay_v3_L2 F F a2 (0 : Int32) s0
def m_lay_v4_L2b (F : Nat)  (k2 : Int32 → Int32 → St → Option (Int32 × St)) (x2 : Int32) (x3 : Int32) (s0 : St) : Option (Int32 × St) :=
    if (8 : Int32) ≤ x3 then
      some (x2 + (8 : Int32), s0)
    else
      if inb x3 8 = true then
      if inb (x2 + x3) 760 = true then
      k2 x2 (x3 + (1 : Int32)) (sI s0 27 (x2 + x3).toNatClampNeg (s0.1 6 (x3).toNatClampNeg))
      else none
      else none
def m_lay_v4_L2 (F : Nat)  : Nat → Int32 → Int32 → St → Option (Int32 × St) := lp (fun _ _ _ => none) (m_lay_v4_L2b F )
def m_lay_v4 (F : Nat) (a2 : Int32) (s0 : St) : Option (Int32 × St) :=
  m_lay_v4_L2 F F a2 (0 : Int32) s0
def m_lay_v5_L2b (F : Nat)  (k2 : Int32 → Int32 → St → Option (Int32 × St)) (x2 : Int32) (x3 : Int32) (s0 : St) : Option (Int32 × St) :=
    if (4 : Int32) ≤ x3 then
      some (x2 + (4 : Int32), s0)
    else
      if inb x3 4 = true then
      if inb (x2 + x3) 760 = true then
      k2 x2 (x3 + (1 : Int32)) (sI s0 27 (x2 + x3).toNatClampNeg (s0.1 11 (x3).toNatClampNeg))
      else none
      else none
def m_lay_v5_L2 (F : Nat)  : Nat → Int32 → Int32 → St → Option (Int32 × St) := lp (fun _ _ _ => none) (m_lay_v5_L2b F )
def m_lay_v5 (F : Nat) (a2 : Int32) (s0 : St) : Option (Int32 × St) :=
  m_lay_v5_L2 F F a2 (0 : Int32) s0
def m_lay_v6_L2b (F : Nat)  (k2 : Int32 → Int32 → St → Option (Int32 × St)) (x2 : Int32) (x3 : Int32) (s0 : St) : Option (Int32 × St) :=
    if (4 : Int32) ≤ x3 then
      some (x2 + (4 : Int32), s0)
    else
      if inb x3 4 = true then
      if inb (x2 + x3) 760 = true then
      k2 x2 (x3 + (1 : Int32)) (sI s0 27 (x2 + x3).toNatClampNeg (s0.1 12 (x3).toNatClampNeg))
      else none
      else none
def m_lay_v6_L2 (F : Nat)  : Nat → Int32 → Int32 → St → Option (Int32 × St) := lp (fun _ _ _ => none) (m_lay_v6_L2b F )
def m_lay_v6 (F : Nat) (a2 : Int32) (s0 : St) : Option (Int32 × St) :=
  m_lay_v6_L2 F F a2 (0 : Int32) s0
def m_lay_v7_L2b (F : Nat)  (k2 : Int32 → Int32 → St → Option (Int32 × St)) (x2 : Int32) (x3 : Int32) (s0 : St) : Option (Int32 × St) :=
    if (4 : Int32) ≤ x3 then
      some (x2 + (4 : Int32), s0)
    else
      if inb x3 4 = true then
      if inb (x2 + x3) 760 = true then
      k2 x2 (x3 + (1 : Int32)) (sI s0 27 (x2 + x3).toNatClampNeg (s0.1 13 (x3).toNatClampNeg))
      else none
      else none
def m_lay_v7_L2 (F : Nat)  : Nat → Int32 → Int32 → St → Option (Int32 × St) := lp (fun _ _ _ => none) (m_lay_v7_L2b F )
def m_lay_v7 (F : Nat) (a2 : Int32) (s0 : St) : Option (Int32 × St) :=
  m_lay_v7_L2 F F a2 (0 : Int32) s0
def m_lay_v8_L2b (F : Nat)  (k2 : Int32 → Int32 → St → Option (Int32 × St)) (x2 : Int32) (x3 : Int32) (s0 : St) : Option (Int32 × St) :=
    if (6 : Int32) ≤ x3 then
      some (x2 + (6 : Int32), s0)
    else
      if inb x3 6 = true then
      if inb (x2 + x3) 760 = true then
      k2 x2 (x3 + (1 : Int32)) (sI s0 27 (x2 + x3).toNatClampNeg (s0.1 14 (x3).toNatClampNeg))
      else none
      else none
def m_lay_v8_L2 (F : Nat)  : Nat → Int32 → Int32 → St → Option (Int32 × St) := lp (fun _ _ _ => none) (m_lay_v8_L2b F )
def m_lay_v8 (F : Nat) (a2 : Int32) (s0 : St) : Option (Int32 × St) :=
  m_lay_v8_L2 F F a2 (0 : Int32) s0
def m_lay_v9_L2b (F : Nat)  (k2 : Int32 → Int32 → St → Option (Int32 × St)) (x2 : Int32) (x3 : Int32) (s0 : St) : Option (Int32 × St) :=
    if (6 : Int32) ≤ x3 then
      some (x2 + (6 : Int32), s0)
    else
      if inb x3 6 = true then
      if inb (x2 + x3) 760 = true then
      k2 x2 (x3 + (1 : Int32)) (sI s0 27 (x2 + x3).toNatClampNeg (s0.1 16 (x3).toNatClampNeg))
      else none
      else none
def m_lay_v9_L2 (F : Nat)  : Nat → Int32 → Int32 → St → Option (Int32 × St) := lp (fun _ _ _ => none) (m_lay_v9_L2b F )
def m_lay_v9 (F : Nat) (a2 : Int32) (s0 : St) : Option (Int32 × St) :=
  m_lay_v9_L2 F F a2 (0 : Int32) s0
def m_lay_v10_L2b (F : Nat)  (k2 : Int32 → Int32 → St → Option (Int32 × St)) (x2 : Int32) (x3 : Int32) (s0 : St) : Option (Int32 × St) :=
    if (6 : Int32) ≤ x3 then
      some (x2 + (6 : Int32), s0)
    else
      if inb x3 6 = true then
      if inb (x2 + x3) 760 = true then
      k2 x2 (x3 + (1 : Int32)) (sI s0 27 (x2 + x3).toNatClampNeg (s0.1 17 (x3).toNatClampNeg))
      else none
      else none
def m_lay_v10_L2 (F : Nat)  : Nat → Int32 → Int32 → St → Option (Int32 × St) := lp (fun _ _ _ => none) (m_lay_v10_L2b F )
def m_lay_v10 (F : Nat) (a2 : Int32) (s0 : St) : Option (Int32 × St) :=
  m_lay_v10_L2 F F a2 (0 : Int32) s0
def m_lay_v11_L2b (F : Nat)  (k2 : Int32 → Int32 → St → Option (Int32 × St)) (x2 : Int32) (x3 : Int32) (s0 : St) : Option (Int32 × St) :=
    if (6 : Int32) ≤ x3 then
      some (x2 + (6 : Int32), s0)
    else
      if inb x3 6 = true then
      if inb (x2 + x3) 760 = true then
      k2 x2 (x3 + (1 : Int32)) (sI s0 27 (x2 + x3).toNatClampNeg (s0.1 18 (x3).toNatClampNeg))
      else none
      else none
def m_lay_v11_L2 (F : Nat)  : Nat → Int32 → Int32 → St → Option (Int32 × St) := lp (fun _ _ _ => none) (m_lay_v11_L2b F )
def m_lay_v11 (F : Nat) (a2 : Int32) (s0 : St) : Option (Int32 × St) :=
  m_lay_v11_L2 F F a2 (0 : Int32) s0
def m_lay_v12_L2b (F : Nat)  (k2 : Int32 → Int32 → St → Option (Int32 × St)) (x2 : Int32) (x3 : Int32) (s0 : St) : Option (Int32 × St) :=
    if (60 : Int32) ≤ x3 then
      some (x2 + (60 : Int32), s0)
    else
      if inb x3 60 = true then
      if inb (x2 + x3) 760 = true then
      k2 x2 (x3 + (1 : Int32)) (sI s0 27 (x2 + x3).toNatClampNeg (s0.1 21 (x3).toNatClampNeg))
      else none
      else none
def m_lay_v12_L2 (F : Nat)  : Nat → Int32 → Int32 → St → Option (Int32 × St) := lp (fun _ _ _ => none) (m_lay_v12_L2b F )
def m_lay_v12 (F : Nat) (a2 : Int32) (s0 : St) : Option (Int32 × St) :=
  m_lay_v12_L2 F F a2 (0 : Int32) s0
def m_lay_v13_L2b (F : Nat)  (k2 : Int32 → Int32 → St → Option (Int32 × St)) (x2 : Int32) (x3 : Int32) (s0 : St) : Option (Int32 × St) :=
    if (60 : Int32) ≤ x3 then
      some (x2 + (60 : Int32), s0)
    else
      if inb x3 60 = true then
      if inb (x2 + x3) 760 = true then
      k2 x2 (x3 + (1 : Int32)) (sI s0 27 (x2 + x3).toNatClampNeg (s0.1 22 (x3).toNatClampNeg))
      else none
      else none
def m_lay_v13_L2 (F : Nat)  : Nat → Int32 → Int32 → St → Option (Int32 × St) := lp (fun _ _ _ => none) (m_lay_v13_L2b F )
def m_lay_v13 (F : Nat) (a2 : Int32) (s0 : St) : Option (Int32 × St) :=
  m_lay_v13_L2 F F a2 (0 : Int32) s0
def m_lay_v14_L2b (F : Nat)  (k2 : Int32 → Int32 → St → Option (Int32 × St)) (x2 : Int32) (x3 : Int32) (s0 : St) : Option (Int32 × St) :=
    if (60 : Int32) ≤ x3 then
      some (x2 + (60 : Int32), s0)
    else
      if inb x3 60 = true then
      if inb (x2 + x3) 760 = true then
      k2 x2 (x3 + (1 : Int32)) (sI s0 27 (x2 + x3).toNatClampNeg (s0.1 23 (x3).toNatClampNeg))
      else none
      else none
def m_lay_v14_L2 (F : Nat)  : Nat → Int32 → Int32 → St → Option (Int32 × St) := lp (fun _ _ _ => none) (m_lay_v14_L2b F )
def m_lay_v14 (F : Nat) (a2 : Int32) (s0 : St) : Option (Int32 × St) :=
  m_lay_v14_L2 F F a2 (0 : Int32) s0
def m_lay_v15_L2b (F : Nat)  (k2 : Int32 → Int32 → St → Option (Int32 × St)) (x2 : Int32) (x3 : Int32) (s0 : St) : Option (Int32 × St) :=
    if (8 : Int32) ≤ x3 then
      some (x2 + (8 : Int32), s0)
    else
      if inb x3 8 = true then
      if inb (x2 + x3) 760 = true then
      k2 x2 (x3 + (1 : Int32)) (sI s0 27 (x2 + x3).toNatClampNeg (s0.1 24 (x3).toNatClampNeg))
      else none
      else none
def m_lay_v15_L2 (F : Nat)  : Nat → Int32 → Int32 → St → Option (Int32 × St) := lp (fun _ _ _ => none) (m_lay_v15_L2b F )
def m_lay_v15 (F : Nat) (a2 : Int32) (s0 : St) : Option (Int32 × St) :=
  m_lay_v15_L2 F F a2 (0 : Int32) s0
def m_lay_v16_L2b (F : Nat)  (k2 : Int32 → Int32 → St → Option (Int32 × St)) (x2 : Int32) (x3 : Int32) (s0 : St) : Option (Int32 × St) :=
    if (8 : Int32) ≤ x3 then
      some (x2 + (8 : Int32), s0)
    else
      if inb x3 8 = true then
      if inb (x2 + x3) 760 = true then
      k2 x2 (x3 + (1 : Int32)) (sI s0 27 (x2 + x3).toNatClampNeg (s0.1 25 (x3).toNatClampNeg))
      else none
      else none
def m_lay_v16_L2 (F : Nat)  : Nat → Int32 → Int32 → St → Option (Int32 × St) := lp (fun _ _ _ => none) (m_lay_v16_L2b F )
def m_lay_v16 (F : Nat) (a2 : Int32) (s0 : St) : Option (Int32 × St) :=
  m_lay_v16_L2 F F a2 (0 : Int32) s0
def m_image_L242b (F : Nat)  (k242 : Int32 → St → Option (Int32 × St)) (x2 : Int32) (s0 : St) : Option (Int32 × St) :=
    if (720 : Int32) ≤ x2 then
      some ((1 : Int32), (sI s0 0 37 (1 : Int32)))
    else
      if inb x2 720 = true then
      if inb x2 720 = true then
      k242 (x2 + (1 : Int32)) (sJ s0 28 (x2).toNatClampNeg (s0.2 9 (x2).toNatClampNeg))
      else none
      else none
def m_image_L242 (F : Nat)  : Nat → Int32 → St → Option (Int32 × St) := lp (fun _ _ => none) (m_image_L242b F )
def m_image (F : Nat)  (s0 : St) : Option (Int32 × St) :=
  gB2 (m_lay F (0 : Int32) s0) fun r1 s1 =>
  gB2 (m_lay_v1 F r1 s1) fun r2 s2 =>
  gB2 (m_lay_v2 F r2 s2) fun r3 s3 =>
  gB2 (m_lay_v3 F r3 s3) fun r4 s4 =>
  gB2 (m_lay_v4 F r4 s4) fun r5 s5 =>
  gB2 (m_lay_v5 F r5 s5) fun r6 s6 =>
  gB2 (m_lay_v6 F r6 s6) fun r7 s7 =>
  gB2 (m_lay_v7 F r7 s7) fun r8 s8 =>
  gB2 (m_lay_v8 F r8 s8) fun r9 s9 =>
  gB2 (m_lay_v9 F r9 s9) fun r10 s10 =>
  gB2 (m_lay_v10 F r10 s10) fun r11 s11 =>
  gB2 (m_lay_v11 F r11 s11) fun r12 s12 =>
  gB2 (m_lay_v12 F r12 s12) fun r13 s13 =>
  gB2 (m_lay_v13 F r13 s13) fun r14 s14 =>
  gB2 (m_lay_v14 F r14 s14) fun r15 s15 =>
  gB2 (m_lay_v15 F r15 s15) fun r16 s16 =>
  gB2 (m_lay_v16 F r16 s16) fun r17 s17 =>
  if inb r17 760 = true then
  if inb (r17 + (1 : Int32)) 760 = true then
  if inb (r17 + (2 : Int32)) 760 = true then
  if inb (r17 + (3 : Int32)) 760 = true then
  if inb (r17 + (4 : Int32)) 760 = true then
  if inb (r17 + (5 : Int32)) 760 = true then
  m_image_L242 F F (0 : Int32) (sI (sI (sI (sI (sI (sI s17 27 (r17).toNatClampNeg (s17.1 0 13)) 27 (r17 + (1 : Int32)).toNatClampNeg ((sI s17 27 (r17).toNatClampNeg (s17.1 0 13)).1 0 14)) 27 (r17 + (2 : Int32)).toNatClampNeg ((sI (sI s17 27 (r17).toNatClampNeg (s17.1 0 13)) 27 (r17 + (1 : Int32)).toNatClampNeg ((sI s17 27 (r17).toNatClampNeg (s17.1 0 13)).1 0 14)).1 0 18)) 27 (r17 + (3 : Int32)).toNatClampNeg ((sI (sI (sI s17 27 (r17).toNatClampNeg (s17.1 0 13)) 27 (r17 + (1 : Int32)).toNatClampNeg ((sI s17 27 (r17).toNatClampNeg (s17.1 0 13)).1 0 14)) 27 (r17 + (2 : Int32)).toNatClampNeg ((sI (sI s17 27 (r17).toNatClampNeg (s17.1 0 13)) 27 (r17 + (1 : Int32)).toNatClampNeg ((sI s17 27 (r17).toNatClampNeg (s17.1 0 13)).1 0 14)).1 0 18)).1 0 21)) 27 (r17 + (4 : Int32)).toNatClampNeg ((sI (sI (sI (sI s17 27 (r17).toNatClampNeg (s17.1 0 13)) 27 (r17 + (1 : Int32)).toNatClampNeg ((sI s17 27 (r17).toNatClampNeg (s17.1 0 13)).1 0 14)) 27 (r17 + (2 : Int32)).toNatClampNeg ((sI (sI s17 27 (r17).toNatClampNeg (s17.1 0 13)) 27 (r17 + (1 : Int32)).toNatClampNeg ((sI s17 27 (r17).toNatClampNeg (s17.1 0 13)).1 0 14)).1 0 18)) 27 (r17 + (3 : Int32)).toNatClampNeg ((sI (sI (sI s17 27 (r17).toNatClampNeg (s17.1 0 13)) 27 (r17 + (1 : Int32)).toNatClampNeg ((sI s17 27 (r17).toNatClampNeg (s17.1 0 13)).1 0 14)) 27 (r17 + (2 : Int32)).toNatClampNeg ((sI (sI s17 27 (r17).toNatClampNeg (s17.1 0 13)) 27 (r17 + (1 : Int32)).toNatClampNeg ((sI s17 27 (r17).toNatClampNeg (s17.1 0 13)).1 0 14)).1 0 18)).1 0 21)).1 0 27)) 27 (r17 + (5 : Int32)).toNatClampNeg ((sI (sI (sI (sI (sI s17 27 (r17).toNatClampNeg (s17.1 0 13)) 27 (r17 + (1 : Int32)).toNatClampNeg ((sI s17 27 (r17).toNatClampNeg (s17.1 0 13)).1 0 14)) 27 (r17 + (2 : Int32)).toNatClampNeg ((sI (sI s17 27 (r17).toNatClampNeg (s17.1 0 13)) 27 (r17 + (1 : Int32)).toNatClampNeg ((sI s17 27 (r17).toNatClampNeg (s17.1 0 13)).1 0 14)).1 0 18)) 27 (r17 + (3 : Int32)).toNatClampNeg ((sI (sI (sI s17 27 (r17).toNatClampNeg (s17.1 0 13)) 27 (r17 + (1 : Int32)).toNatClampNeg ((sI s17 27 (r17).toNatClampNeg (s17.1 0 13)).1 0 14)) 27 (r17 + (2 : Int32)).toNatClampNeg ((sI (sI s17 27 (r17).toNatClampNeg (s17.1 0 13)) 27 (r17 + (1 : Int32)).toNatClampNeg ((sI s17 27 (r17).toNatClampNeg (s17.1 0 13)).1 0 14)).1 0 18)).1 0 21)) 27 (r17 + (4 : Int32)).toNatClampNeg ((sI (sI (sI (sI s17 27 (r17).toNatClampNeg (s17.1 0 13)) 27 (r17 + (1 : Int32)).toNatClampNeg ((sI s17 27 (r17).toNatClampNeg (s17.1 0 13)).1 0 14)) 27 (r17 + (2 : Int32)).toNatClampNeg ((sI (sI s17 27 (r17).toNatClampNeg (s17.1 0 13)) 27 (r17 + (1 : Int32)).toNatClampNeg ((sI s17 27 (r17).toNatClampNeg (s17.1 0 13)).1 0 14)).1 0 18)) 27 (r17 + (3 : Int32)).toNatClampNeg ((sI (sI (sI s17 27 (r17).toNatClampNeg (s17.1 0 13)) 27 (r17 + (1 : Int32)).toNatClampNeg ((sI s17 27 (r17).toNatClampNeg (s17.1 0 13)).1 0 14)) 27 (r17 + (2 : Int32)).toNatClampNeg ((sI (sI s17 27 (r17).toNatClampNeg (s17.1 0 13)) 27 (r17 + (1 : Int32)).toNatClampNeg ((sI s17 27 (r17).toNatClampNeg (s17.1 0 13)).1 0 14)).1 0 18)).1 0 21)).1 0 27)).1 0 31))
  else none
  else none
  else none
  else none
  else none
  else none
def m_gives_L2b (F : Nat)  (k2 : Int32 → Int32 → St → Option (Int32 × St)) (x1 : Int32) (x3 : Int32) (s0 : St) : Option (Int32 × St) :=
    if (144 : Int32) ≤ x3 then
      some (x1 + (144 : Int32), s0)
    else
      if inb (x1 + x3) 760 = true then
      if inb x3 144 = true then
      k2 x1 (x3 + (1 : Int32)) (sI s0 2 (x3).toNatClampNeg (s0.1 27 (x1 + x3).toNatClampNeg))
      else none
      else none
def m_gives_L2 (F : Nat)  : Nat → Int32 → Int32 → St → Option (Int32 × St) := lp (fun _ _ _ => none) (m_gives_L2b F )
def m_gives (F : Nat) (a1 : Int32) (s0 : St) : Option (Int32 × St) :=
  m_gives_L2 F F a1 (0 : Int32) s0
def m_gives_v1_L2b (F : Nat)  (k2 : Int32 → Int32 → St → Option (Int32 × St)) (x1 : Int32) (x3 : Int32) (s0 : St) : Option (Int32 × St) :=
    if (144 : Int32) ≤ x3 then
      some (x1 + (144 : Int32), s0)
    else
      if inb (x1 + x3) 760 = true then
      if inb x3 144 = true then
      k2 x1 (x3 + (1 : Int32)) (sI s0 3 (x3).toNatClampNeg (s0.1 27 (x1 + x3).toNatClampNeg))
      else none
      else none
def m_gives_v1_L2 (F : Nat)  : Nat → Int32 → Int32 → St → Option (Int32 × St) := lp (fun _ _ _ => none) (m_gives_v1_L2b F )
def m_gives_v1 (F : Nat) (a1 : Int32) (s0 : St) : Option (Int32 × St) :=
  m_gives_v1_L2 F F a1 (0 : Int32) s0
def m_gives_v2_L2b (F : Nat)  (k2 : Int32 → Int32 → St → Option (Int32 × St)) (x1 : Int32) (x3 : Int32) (s0 : St) : Option (Int32 × St) :=
    if (144 : Int32) ≤ x3 then
      some (x1 + (144 : Int32), s0)
    else
      if inb (x1 + x3) 760 = true then
      if inb x3 144 = true then
      k2 x1 (x3 + (1 : Int32)) (sI s0 4 (x3).toNatClampNeg (s0.1 27 (x1 + x3).toNatClampNeg))
      else none
      else none
def m_gives_v2_L2 (F : Nat)  : Nat → Int32 → Int32 → St → Option (Int32 × St) := lp (fun _ _ _ => none) (m_gives_v2_L2b F )
def m_gives_v2 (F : Nat) (a1 : Int32) (s0 : St) : Option (Int32 × St) :=
  m_gives_v2_L2 F F a1 (0 : Int32) s0
def m_gives_v3_L2b (F : Nat)  (k2 : Int32 → Int32 → St → Option (Int32 × St)) (x1 : Int32) (x3 : Int32) (s0 : St) : Option (Int32 × St) :=
    if (10 : Int32) ≤ x3 then
      some (x1 + (10 : Int32), s0)
    else
      if inb (x1 + x3) 760 = true then
      if inb x3 10 = true then
      k2 x1 (x3 + (1 : Int32)) (sI s0 5 (x3).toNatClampNeg (s0.1 27 (x1 + x3).toNatClampNeg))
      else none
      else none
def m_gives_v3_L2 (F : Nat)  : Nat → Int32 → Int32 → St → Option (Int32 × St) := lp (fun _ _ _ => none) (m_gives_v3_L2b F )
def m_gives_v3 (F : Nat) (a1 : Int32) (s0 : St) : Option (Int32 × St) :=
  m_gives_v3_L2 F F a1 (0 : Int32) s0
def m_gives_v4_L2b (F : Nat)  (k2 : Int32 → Int32 → St → Option (Int32 × St)) (x1 : Int32) (x3 : Int32) (s0 : St) : Option (Int32 × St) :=
    if (8 : Int32) ≤ x3 then
      some (x1 + (8 : Int32), s0)
    else
      if inb (x1 + x3) 760 = true then
      if inb x3 8 = true then
      k2 x1 (x3 + (1 : Int32)) (sI s0 6 (x3).toNatClampNeg (s0.1 27 (x1 + x3).toNatClampNeg))
      else none
      else none
def m_gives_v4_L2 (F : Nat)  : Nat → Int32 → Int32 → St → Option (Int32 × St) := lp (fun _ _ _ => none) (m_gives_v4_L2b F )
def m_gives_v4 (F : Nat) (a1 : Int32) (s0 : St) : Option (Int32 × St) :=
  m_gives_v4_L2 F F a1 (0 : Int32) s0
def m_gives_v5_L2b (F : Nat)  (k2 : Int32 → Int32 → St → Option (Int32 × St)) (x1 : Int32) (x3 : Int32) (s0 : St) : Option (Int32 × St) :=
    if (4 : Int32) ≤ x3 then
      some (x1 + (4 : Int32), s0)
    else
      if inb (x1 + x3) 760 = true then
      if inb x3 4 = true then
      k2 x1 (x3 + (1 : Int32)) (sI s0 11 (x3).toNatClampNeg (s0.1 27 (x1 + x3).toNatClampNeg))
      else none
      else none
def m_gives_v5_L2 (F : Nat)  : Nat → Int32 → Int32 → St → Option (Int32 × St) := lp (fun _ _ _ => none) (m_gives_v5_L2b F )
def m_gives_v5 (F : Nat) (a1 : Int32) (s0 : St) : Option (Int32 × St) :=
  m_gives_v5_L2 F F a1 (0 : Int32) s0
def m_gives_v6_L2b (F : Nat)  (k2 : Int32 → Int32 → St → Option (Int32 × St)) (x1 : Int32) (x3 : Int32) (s0 : St) : Option (Int32 × St) :=
    if (4 : Int32) ≤ x3 then
      some (x1 + (4 : Int32), s0)
    else
      if inb (x1 + x3) 760 = true then
      if inb x3 4 = true then
      k2 x1 (x3 + (1 : Int32)) (sI s0 12 (x3).toNatClampNeg (s0.1 27 (x1 + x3).toNatClampNeg))
      else none
      else none
def m_gives_v6_L2 (F : Nat)  : Nat → Int32 → Int32 → St → Option (Int32 × St) := lp (fun _ _ _ => none) (m_gives_v6_L2b F )
def m_gives_v6 (F : Nat) (a1 : Int32) (s0 : St) : Option (Int32 × St) :=
  m_gives_v6_L2 F F a1 (0 : Int32) s0
def m_gives_v7_L2b (F : Nat)  (k2 : Int32 → Int32 → St → Option (Int32 × St)) (x1 : Int32) (x3 : Int32) (s0 : St) : Option (Int32 × St) :=
    if (4 : Int32) ≤ x3 then
      some (x1 + (4 : Int32), s0)
    else
      if inb (x1 + x3) 760 = true then
      if inb x3 4 = true then
      k2 x1 (x3 + (1 : Int32)) (sI s0 13 (x3).toNatClampNeg (s0.1 27 (x1 + x3).toNatClampNeg))
      else none
      else none
def m_gives_v7_L2 (F : Nat)  : Nat → Int32 → Int32 → St → Option (Int32 × St) := lp (fun _ _ _ => none) (m_gives_v7_L2b F )
def m_gives_v7 (F : Nat) (a1 : Int32) (s0 : St) : Option (Int32 × St) :=
  m_gives_v7_L2 F F a1 (0 : Int32) s0
def m_gives_v8_L2b (F : Nat)  (k2 : Int32 → Int32 → St → Option (Int32 × St)) (x1 : Int32) (x3 : Int32) (s0 : St) : Option (Int32 × St) :=
    if (6 : Int32) ≤ x3 then
      some (x1 + (6 : Int32), s0)
    else
      if inb (x1 + x3) 760 = true then
      if inb x3 6 = true then
      k2 x1 (x3 + (1 : Int32)) (sI s0 14 (x3).toNatClampNeg (s0.1 27 (x1 + x3).toNatClampNeg))
      else none
      else none
def m_gives_v8_L2 (F : Nat)  : Nat → Int32 → Int32 → St → Option (Int32 × St) := lp (fun _ _ _ => none) (m_gives_v8_L2b F )
def m_gives_v8 (F : Nat) (a1 : Int32) (s0 : St) : Option (Int32 × St) :=
  m_gives_v8_L2 F F a1 (0 : Int32) s0
def m_gives_v9_L2b (F : Nat)  (k2 : Int32 → Int32 → St → Option (Int32 × St)) (x1 : Int32) (x3 : Int32) (s0 : St) : Option (Int32 × St) :=
    if (6 : Int32) ≤ x3 then
      some (x1 + (6 : Int32), s0)
    else
      if inb (x1 + x3) 760 = true then
      if inb x3 6 = true then
      k2 x1 (x3 + (1 : Int32)) (sI s0 16 (x3).toNatClampNeg (s0.1 27 (x1 + x3).toNatClampNeg))
      else none
      else none
def m_gives_v9_L2 (F : Nat)  : Nat → Int32 → Int32 → St → Option (Int32 × St) := lp (fun _ _ _ => none) (m_gives_v9_L2b F )
def m_gives_v9 (F : Nat) (a1 : Int32) (s0 : St) : Option (Int32 × St) :=
  m_gives_v9_L2 F F a1 (0 : Int32) s0
def m_gives_v10_L2b (F : Nat)  (k2 : Int32 → Int32 → St → Option (Int32 × St)) (x1 : Int32) (x3 : Int32) (s0 : St) : Option (Int32 × St) :=
    if (6 : Int32) ≤ x3 then
      some (x1 + (6 : Int32), s0)
    else
      if inb (x1 + x3) 760 = true then
      if inb x3 6 = true then
      k2 x1 (x3 + (1 : Int32)) (sI s0 17 (x3).toNatClampNeg (s0.1 27 (x1 + x3).toNatClampNeg))
      else none
      else none
def m_gives_v10_L2 (F : Nat)  : Nat → Int32 → Int32 → St → Option (Int32 × St) := lp (fun _ _ _ => none) (m_gives_v10_L2b F )
def m_gives_v10 (F : Nat) (a1 : Int32) (s0 : St) : Option (Int32 × St) :=
  m_gives_v10_L2 F F a1 (0 : Int32) s0
def m_gives_v11_L2b (F : Nat)  (k2 : Int32 → Int32 → St → Option (Int32 × St)) (x1 : Int32) (x3 : Int32) (s0 : St) : Option (Int32 × St) :=
    if (6 : Int32) ≤ x3 then
      some (x1 + (6 : Int32), s0)
    else
      if inb (x1 + x3) 760 = true then
      if inb x3 6 = true then
      k2 x1 (x3 + (1 : Int32)) (sI s0 18 (x3).toNatClampNeg (s0.1 27 (x1 + x3).toNatClampNeg))
      else none
      else none
def m_gives_v11_L2 (F : Nat)  : Nat → Int32 → Int32 → St → Option (Int32 × St) := lp (fun _ _ _ => none) (m_gives_v11_L2b F )
def m_gives_v11 (F : Nat) (a1 : Int32) (s0 : St) : Option (Int32 × St) :=
  m_gives_v11_L2 F F a1 (0 : Int32) s0
def m_gives_v12_L2b (F : Nat)  (k2 : Int32 → Int32 → St → Option (Int32 × St)) (x1 : Int32) (x3 : Int32) (s0 : St) : Option (Int32 × St) :=
    if (60 : Int32) ≤ x3 then
      some (x1 + (60 : Int32), s0)
    else
      if inb (x1 + x3) 760 = true then
      if inb x3 60 = true then
      k2 x1 (x3 + (1 : Int32)) (sI s0 21 (x3).toNatClampNeg (s0.1 27 (x1 + x3).toNatClampNeg))
      else none
      else none
def m_gives_v12_L2 (F : Nat)  : Nat → Int32 → Int32 → St → Option (Int32 × St) := lp (fun _ _ _ => none) (m_gives_v12_L2b F )
def m_gives_v12 (F : Nat) (a1 : Int32) (s0 : St) : Option (Int32 × St) :=
  m_gives_v12_L2 F F a1 (0 : Int32) s0
def m_gives_v13_L2b (F : Nat)  (k2 : Int32 → Int32 → St → Option (Int32 × St)) (x1 : Int32) (x3 : Int32) (s0 : St) : Option (Int32 × St) :=
    if (60 : Int32) ≤ x3 then
      some (x1 + (60 : Int32), s0)
    else
      if inb (x1 + x3) 760 = true then
      if inb x3 60 = true then
      k2 x1 (x3 + (1 : Int32)) (sI s0 22 (x3).toNatClampNeg (s0.1 27 (x1 + x3).toNatClampNeg))
      else none
      else none
def m_gives_v13_L2 (F : Nat)  : Nat → Int32 → Int32 → St → Option (Int32 × St) := lp (fun _ _ _ => none) (m_gives_v13_L2b F )
def m_gives_v13 (F : Nat) (a1 : Int32) (s0 : St) : Option (Int32 × St) :=
  m_gives_v13_L2 F F a1 (0 : Int32) s0
def m_gives_v14_L2b (F : Nat)  (k2 : Int32 → Int32 → St → Option (Int32 × St)) (x1 : Int32) (x3 : Int32) (s0 : St) : Option (Int32 × St) :=
    if (60 : Int32) ≤ x3 then
      some (x1 + (60 : Int32), s0)
    else
      if inb (x1 + x3) 760 = true then
      if inb x3 60 = true then
      k2 x1 (x3 + (1 : Int32)) (sI s0 23 (x3).toNatClampNeg (s0.1 27 (x1 + x3).toNatClampNeg))
      else none
      else none
def m_gives_v14_L2 (F : Nat)  : Nat → Int32 → Int32 → St → Option (Int32 × St) := lp (fun _ _ _ => none) (m_gives_v14_L2b F )
def m_gives_v14 (F : Nat) (a1 : Int32) (s0 : St) : Option (Int32 × St) :=
  m_gives_v14_L2 F F a1 (0 : Int32) s0
def m_gives_v15_L2b (F : Nat)  (k2 : Int32 → Int32 → St → Option (Int32 × St)) (x1 : Int32) (x3 : Int32) (s0 : St) : Option (Int32 × St) :=
    if (8 : Int32) ≤ x3 then
      some (x1 + (8 : Int32), s0)
    else
      if inb (x1 + x3) 760 = true then
      if inb x3 8 = true then
      k2 x1 (x3 + (1 : Int32)) (sI s0 24 (x3).toNatClampNeg (s0.1 27 (x1 + x3).toNatClampNeg))
      else none
      else none
def m_gives_v15_L2 (F : Nat)  : Nat → Int32 → Int32 → St → Option (Int32 × St) := lp (fun _ _ _ => none) (m_gives_v15_L2b F )
def m_gives_v15 (F : Nat) (a1 : Int32) (s0 : St) : Option (Int32 × St) :=
  m_gives_v15_L2 F F a1 (0 : Int32) s0
def m_gives_v16_L2b (F : Nat)  (k2 : Int32 → Int32 → St → Option (Int32 × St)) (x1 : Int32) (x3 : Int32) (s0 : St) : Option (Int32 × St) :=
    if (8 : Int32) ≤ x3 then
      some (x1 + (8 : Int32), s0)
    else
      if inb (x1 + x3) 760 = true then
      if inb x3 8 = true then
      k2 x1 (x3 + (1 : Int32)) (sI s0 25 (x3).toNatClampNeg (s0.1 27 (x1 + x3).toNatClampNeg))
      else none
      else none
def m_gives_v16_L2 (F : Nat)  : Nat → Int32 → Int32 → St → Option (Int32 × St) := lp (fun _ _ _ => none) (m_gives_v16_L2b F )
def m_gives_v16 (F : Nat) (a1 : Int32) (s0 : St) : Option (Int32 × St) :=
  m_gives_v16_L2 F F a1 (0 : Int32) s0
def m_restore_L256b (F : Nat)  (k256 : Int32 → St → Option (Int32 × St)) (x2 : Int32) (s0 : St) : Option (Int32 × St) :=
    if (720 : Int32) ≤ x2 then
      some ((1 : Int32), s0)
    else
      if inb x2 720 = true then
      if inb x2 720 = true then
      k256 (x2 + (1 : Int32)) (sJ s0 9 (x2).toNatClampNeg (s0.2 28 (x2).toNatClampNeg))
      else none
      else none
def m_restore_L256 (F : Nat)  : Nat → Int32 → St → Option (Int32 × St) := lp (fun _ _ => none) (m_restore_L256b F )
def m_restore (F : Nat)  (s0 : St) : Option (Int32 × St) :=
  if (s0.1 0 37) = 0 then
    gB2 (m_tells F (-4 : Int32) s0) fun r18 s18 =>
    some (r18, s18)
  else
    gB2 (m_gives F (0 : Int32) s0) fun r1 s1 =>
    gB2 (m_gives_v1 F r1 s1) fun r2 s2 =>
    gB2 (m_gives_v2 F r2 s2) fun r3 s3 =>
    gB2 (m_gives_v3 F r3 s3) fun r4 s4 =>
    gB2 (m_gives_v4 F r4 s4) fun r5 s5 =>
    gB2 (m_gives_v5 F r5 s5) fun r6 s6 =>
    gB2 (m_gives_v6 F r6 s6) fun r7 s7 =>
    gB2 (m_gives_v7 F r7 s7) fun r8 s8 =>
    gB2 (m_gives_v8 F r8 s8) fun r9 s9 =>
    gB2 (m_gives_v9 F r9 s9) fun r10 s10 =>
    gB2 (m_gives_v10 F r10 s10) fun r11 s11 =>
    gB2 (m_gives_v11 F r11 s11) fun r12 s12 =>
    gB2 (m_gives_v12 F r12 s12) fun r13 s13 =>
    gB2 (m_gives_v13 F r13 s13) fun r14 s14 =>
    gB2 (m_gives_v14 F r14 s14) fun r15 s15 =>
    gB2 (m_gives_v15 F r15 s15) fun r16 s16 =>
    gB2 (m_gives_v16 F r16 s16) fun r17 s17 =>
    if inb r17 760 = true then
    if inb (r17 + (1 : Int32)) 760 = true then
    if inb (r17 + (2 : Int32)) 760 = true then
    if inb (r17 + (3 : Int32)) 760 = true then
    if inb (r17 + (4 : Int32)) 760 = true then
    if inb (r17 + (5 : Int32)) 760 = true then
    m_restore_L256 F F (0 : Int32) (sI (sI (sI (sI (sI (sI s17 0 13 (s17.1 27 (r17).toNatClampNeg)) 0 14 ((sI s17 0 13 (s17.1 27 (r17).toNatClampNeg)).1 27 (r17 + (1 : Int32)).toNatClampNeg)) 0 18 ((sI (sI s17 0 13 (s17.1 27 (r17).toNatClampNeg)) 0 14 ((sI s17 0 13 (s17.1 27 (r17).toNatClampNeg)).1 27 (r17 + (1 : Int32)).toNatClampNeg)).1 27 (r17 + (2 : Int32)).toNatClampNeg)) 0 21 ((sI (sI (sI s17 0 13 (s17.1 27 (r17).toNatClampNeg)) 0 14 ((sI s17 0 13 (s17.1 27 (r17).toNatClampNeg)).1 27 (r17 + (1 : Int32)).toNatClampNeg)) 0 18 ((sI (sI s17 0 13 (s17.1 27 (r17).toNatClampNeg)) 0 14 ((sI s17 0 13 (s17.1 27 (r17).toNatClampNeg)).1 27 (r17 + (1 : Int32)).toNatClampNeg)).1 27 (r17 + (2 : Int32)).toNatClampNeg)).1 27 (r17 + (3 : Int32)).toNatClampNeg)) 0 27 ((sI (sI (sI (sI s17 0 13 (s17.1 27 (r17).toNatClampNeg)) 0 14 ((sI s17 0 13 (s17.1 27 (r17).toNatClampNeg)).1 27 (r17 + (1 : Int32)).toNatClampNeg)) 0 18 ((sI (sI s17 0 13 (s17.1 27 (r17).toNatClampNeg)) 0 14 ((sI s17 0 13 (s17.1 27 (r17).toNatClampNeg)).1 27 (r17 + (1 : Int32)).toNatClampNeg)).1 27 (r17 + (2 : Int32)).toNatClampNeg)) 0 21 ((sI (sI (sI s17 0 13 (s17.1 27 (r17).toNatClampNeg)) 0 14 ((sI s17 0 13 (s17.1 27 (r17).toNatClampNeg)).1 27 (r17 + (1 : Int32)).toNatClampNeg)) 0 18 ((sI (sI s17 0 13 (s17.1 27 (r17).toNatClampNeg)) 0 14 ((sI s17 0 13 (s17.1 27 (r17).toNatClampNeg)).1 27 (r17 + (1 : Int32)).toNatClampNeg)).1 27 (r17 + (2 : Int32)).toNatClampNeg)).1 27 (r17 + (3 : Int32)).toNatClampNeg)).1 27 (r17 + (4 : Int32)).toNatClampNeg)) 0 31 ((sI (sI (sI (sI (sI s17 0 13 (s17.1 27 (r17).toNatClampNeg)) 0 14 ((sI s17 0 13 (s17.1 27 (r17).toNatClampNeg)).1 27 (r17 + (1 : Int32)).toNatClampNeg)) 0 18 ((sI (sI s17 0 13 (s17.1 27 (r17).toNatClampNeg)) 0 14 ((sI s17 0 13 (s17.1 27 (r17).toNatClampNeg)).1 27 (r17 + (1 : Int32)).toNatClampNeg)).1 27 (r17 + (2 : Int32)).toNatClampNeg)) 0 21 ((sI (sI (sI s17 0 13 (s17.1 27 (r17).toNatClampNeg)) 0 14 ((sI s17 0 13 (s17.1 27 (r17).toNatClampNeg)).1 27 (r17 + (1 : Int32)).toNatClampNeg)) 0 18 ((sI (sI s17 0 13 (s17.1 27 (r17).toNatClampNeg)) 0 14 ((sI s17 0 13 (s17.1 27 (r17).toNatClampNeg)).1 27 (r17 + (1 : Int32)).toNatClampNeg)).1 27 (r17 + (2 : Int32)).toNatClampNeg)).1 27 (r17 + (3 : Int32)).toNatClampNeg)) 0 27 ((sI (sI (sI (sI s17 0 13 (s17.1 27 (r17).toNatClampNeg)) 0 14 ((sI s17 0 13 (s17.1 27 (r17).toNatClampNeg)).1 27 (r17 + (1 : Int32)).toNatClampNeg)) 0 18 ((sI (sI s17 0 13 (s17.1 27 (r17).toNatClampNeg)) 0 14 ((sI s17 0 13 (s17.1 27 (r17).toNatClampNeg)).1 27 (r17 + (1 : Int32)).toNatClampNeg)).1 27 (r17 + (2 : Int32)).toNatClampNeg)) 0 21 ((sI (sI (sI s17 0 13 (s17.1 27 (r17).toNatClampNeg)) 0 14 ((sI s17 0 13 (s17.1 27 (r17).toNatClampNeg)).1 27 (r17 + (1 : Int32)).toNatClampNeg)) 0 18 ((sI (sI s17 0 13 (s17.1 27 (r17).toNatClampNeg)) 0 14 ((sI s17 0 13 (s17.1 27 (r17).toNatClampNeg)).1 27 (r17 + (1 : Int32)).toNatClampNeg)).1 27 (r17 + (2 : Int32)).toNatClampNeg)).1 27 (r17 + (3 : Int32)).toNatClampNeg)).1 27 (r17 + (4 : Int32)).toNatClampNeg)).1 27 (r17 + (5 : Int32)).toNatClampNeg))
    else none
    else none
    else none
    else none
    else none
    else none
def m_isSheet (F : Nat) (a0 : Int32) (s0 : St) : Option (Int32 × St) :=
  gB2 (m_in F ((a0).toInt64) (0 : Int64) (3 : Int64) s0) fun r1 s1 =>
  if r1 = 0 ∨ r1 = 1 then some (r1, s1) else none
def m_isLane (F : Nat) (a0 : Int32) (s0 : St) : Option (Int32 × St) :=
  gB2 (m_in F ((a0).toInt64) (0 : Int64) (3 : Int64) s0) fun r1 s1 =>
  if r1 = 0 ∨ r1 = 1 then some (r1, s1) else none
def m_why_J46 (F : Nat)   (s0 : St) : Option (Int32 × St) :=
    some ((-13 : Int32), s0)
def m_why (F : Nat) (a1 : Int32) (a2 : Int32) (a3 : Int32) (a4 : Int32) (s0 : St) : Option (Int32 × St) :=
  if inb a1 4 = true then
  if 0 ≤ (s0.1 29 (a1).toNatClampNeg) then
    if inb a1 4 = true then
    if (s0.1 29 (a1).toNatClampNeg) = a2 then
      if a3 < 0 then
        m_why_J46 F s0
      else
        if inb a1 4 = true then
        if (lg_cmp (((a3).toInt64) + ((a4).toInt64)) ((s0.1 30 (a1).toNatClampNeg).toInt64)) ≤ 0 then
          some ((0 : Int32), s0)
        else
          m_why_J46 F s0
        else none
    else
      some ((-12 : Int32), s0)
    else none
  else
    some ((-11 : Int32), s0)
  else none
def m_finds_J27 (F : Nat)   (s0 : St) : Option (Int32 × St) :=
    gB2 (m_tells F (-1 : Int32) s0) fun r1 s1 =>
    some (r1, s1)
def m_finds_L157b (F : Nat)  (k157 : Int32 → Int32 → Int32 → St → Option (Int32 × St)) (x4 : Int32) (x6 : Int32) (x7 : Int32) (s0 : St) : Option (Int32 × St) :=
    if x4 ≤ x7 then
      some (s0.1 0 27, s0)
    else
      if inb (x6 + ((3 : Int32) * x7)) 96 = true then
      if inb ((x6 + ((3 : Int32) * x7)) + (1 : Int32)) 96 = true then
      if inb ((x6 + ((3 : Int32) * x7)) + (2 : Int32)) 96 = true then
      gB (m_writes F ((s0.2 31 (x6 + ((3 : Int32) * x7)).toNatClampNeg).toInt32) ((s0.2 31 ((x6 + ((3 : Int32) * x7)) + (1 : Int32)).toNatClampNeg).toInt32) ((s0.2 31 ((x6 + ((3 : Int32) * x7)) + (2 : Int32)).toNatClampNeg).toInt32) s0) fun s2 =>
      k157 x4 x6 (x7 + (1 : Int32)) s2
      else none
      else none
      else none
def m_finds_L157 (F : Nat)  : Nat → Int32 → Int32 → Int32 → St → Option (Int32 × St) := lp (fun _ _ _ _ => none) (m_finds_L157b F )
def m_finds_L69b (F : Nat)  (k69 : Int32 → Int32 → Int32 → St → Option (Int32 × St)) (x4 : Int32) (x6 : Int32) (x7 : Int32) (s0 : St) : Option (Int32 × St) :=
    if x4 ≤ x7 then
      if ((s0.1 0 27) + x4) ≤ (60 : Int32) then
        m_finds_L157 F F x4 x6 (0 : Int32) s0
      else
        gB2 (m_tells F (-3 : Int32) s0) fun r3 s3 =>
        some (r3, s3)
    else
      if inb (x6 + ((3 : Int32) * x7)) 96 = true then
      if inb ((x6 + ((3 : Int32) * x7)) + (1 : Int32)) 96 = true then
      if inb ((x6 + ((3 : Int32) * x7)) + (2 : Int32)) 96 = true then
      gB2 (m_isFound F (s0.2 31 (x6 + ((3 : Int32) * x7)).toNatClampNeg) (s0.2 31 ((x6 + ((3 : Int32) * x7)) + (1 : Int32)).toNatClampNeg) (s0.2 31 ((x6 + ((3 : Int32) * x7)) + (2 : Int32)).toNatClampNeg) s0) fun r4 s4 =>
      if r4 = 0 then
        gB2 (m_tells F (-2 : Int32) s4) fun r5 s5 =>
        some (r5, s5)
      else
        k69 x4 x6 (x7 + (1 : Int32)) s4
      else none
      else none
      else none
def m_finds_L69 (F : Nat)  : Nat → Int32 → Int32 → Int32 → St → Option (Int32 × St) := lp (fun _ _ _ _ => none) (m_finds_L69b F )
def m_finds (F : Nat) (a1 : Int32) (a2 : Int32) (a3 : Int32) (a4 : Int32) (s0 : St) : Option (Int32 × St) :=
  gB2 (m_isSheet F a1 s0) fun r6 s6 =>
  if r6 = 0 then
    m_finds_J27 F s6
  else
    gB2 (m_isLane F a2 s6) fun r7 s7 =>
    if r7 = 0 then
      m_finds_J27 F s7
    else
      gB2 (m_in F ((a4).toInt64) (1 : Int64) (8 : Int64) s7) fun r8 s8 =>
      if r8 = 0 then
        m_finds_J27 F s8
      else
        gB2 (m_why F a1 a2 a3 ((3 : Int32) * a4) s8) fun r9 s9 =>
        if 0 ≤ r9 then
          m_finds_L69 F F a4 (((24 : Int32) * a1) + a3) (0 : Int32) s9
        else
          gB2 (m_tells F r9 s9) fun r10 s10 =>
          some (r10, s10)
def m_puts (F : Nat) (a1 : Int32) (a2 : Int32) (a3 : Int64) (s0 : St) : Option St :=
  if inb a1 4 = true then
  if (s0.1 29 (a1).toNatClampNeg) = 0 then
    if inb (((24 : Int32) * a1) + a2) 96 = true then
    some (sJ s0 31 (((24 : Int32) * a1) + a2).toNatClampNeg ((((a3).toInt32).toInt8.toInt32).toInt64))
    else none
  else
    if (s0.1 29 (a1).toNatClampNeg) = (1 : Int32) then
      if inb (((24 : Int32) * a1) + a2) 96 = true then
      some (sJ s0 31 (((24 : Int32) * a1) + a2).toNatClampNeg ((((a3).toInt32).toInt16.toInt32).toInt64))
      else none
    else
      if (s0.1 29 (a1).toNatClampNeg) = (2 : Int32) then
        if inb (((24 : Int32) * a1) + a2) 96 = true then
        some (sJ s0 31 (((24 : Int32) * a1) + a2).toNatClampNeg (((a3).toInt32).toInt64))
        else none
      else
        if inb (((24 : Int32) * a1) + a2) 96 = true then
        some (sJ s0 31 (((24 : Int32) * a1) + a2).toNatClampNeg a3)
        else none
  else none
def m_film_J26 (F : Nat)   (s0 : St) : Option (Int32 × St) :=
    gB2 (m_tells F (-1 : Int32) s0) fun r1 s1 =>
    some (r1, s1)
def m_film_L79b (F : Nat)  (k79 : Int32 → Int32 → Int32 → Int64 → Int32 → St → Option (Int32 × St)) (x1 : Int32) (x2 : Int32) (x4 : Int32) (x6 : Int64) (x8 : Int32) (s0 : St) : Option (Int32 × St) :=
    if (12 : Int32) ≤ x8 then
      some ((12 : Int32), s0)
    else
      gB2 (m_partsOf F (((12 : Int32) * x1) + x8) s0) fun r2 s2 =>
      if x6 = 0 then none else
      gB (m_puts F x2 (x4 + x8) ((r2 * (1000 : Int64)) / x6) s2) fun s3 =>
      k79 x1 x2 x4 x6 (x8 + (1 : Int32)) s3
def m_film_L79 (F : Nat)  : Nat → Int32 → Int32 → Int32 → Int64 → Int32 → St → Option (Int32 × St) := lp (fun _ _ _ _ _ _ => none) (m_film_L79b F )
def m_film (F : Nat) (a1 : Int32) (a2 : Int32) (a3 : Int32) (a4 : Int32) (s0 : St) : Option (Int32 × St) :=
  gB2 (m_in F ((a1).toInt64) (0 : Int64) (11 : Int64) s0) fun r4 s4 =>
  if r4 = 0 then
    m_film_J26 F s4
  else
    gB2 (m_isSheet F a2 s4) fun r5 s5 =>
    if r5 = 0 then
      m_film_J26 F s5
    else
      gB2 (m_isLane F a3 s5) fun r6 s6 =>
      if r6 = 0 then
        m_film_J26 F s6
      else
        gB2 (m_why F a2 a3 a4 (12 : Int32) s6) fun r7 s7 =>
        if 0 ≤ r7 then
          gB2 (m_all F s7) fun r8 s8 =>
          if (lg_cmp r8 (0 : Int64)) = 0 then
            gB2 (m_tells F (-4 : Int32) s8) fun r9 s9 =>
            some (r9, s9)
          else
            m_film_L79 F F a1 a2 a4 r8 (0 : Int32) s8
        else
          gB2 (m_tells F r7 s7) fun r10 s10 =>
          some (r10, s10)
def m_sheet_J20 (F : Nat)   (s0 : St) : Option (Int32 × St) :=
    gB2 (m_tells F (-1 : Int32) s0) fun r1 s1 =>
    some (r1, s1)
def m_sheet_L54b (F : Nat)  (k54 : Int32 → Int32 → Int32 → St → Option (Int32 × St)) (x1 : Int32) (x3 : Int32) (x4 : Int32) (s0 : St) : Option (Int32 × St) :=
    if (24 : Int32) ≤ x4 then
      some (x3, s0)
    else
      if inb (((24 : Int32) * x1) + x4) 96 = true then
      k54 x1 x3 (x4 + (1 : Int32)) (sJ s0 31 (((24 : Int32) * x1) + x4).toNatClampNeg (0 : Int64))
      else none
def m_sheet_L54 (F : Nat)  : Nat → Int32 → Int32 → Int32 → St → Option (Int32 × St) := lp (fun _ _ _ _ => none) (m_sheet_L54b F )
def m_sheet (F : Nat) (a1 : Int32) (a2 : Int32) (a3 : Int32) (s0 : St) : Option (Int32 × St) :=
  gB2 (m_isSheet F a1 s0) fun r2 s2 =>
  if r2 = 0 then
    m_sheet_J20 F s2
  else
    gB2 (m_isLane F a2 s2) fun r3 s3 =>
    if r3 = 0 then
      m_sheet_J20 F s3
    else
      if a3 ≤ (24 : Int32) then
        if 0 ≤ a3 then
          if inb a1 4 = true then
          if inb a1 4 = true then
          m_sheet_L54 F F a1 a3 (0 : Int32) (sI (sI s3 29 (a1).toNatClampNeg a2) 30 (a1).toNatClampNeg a3)
          else none
          else none
        else
          gB2 (m_tells F (-14 : Int32) s3) fun r4 s4 =>
          some (r4, s4)
      else
        m_sheet_J20 F s3
def m_drop (F : Nat) (a1 : Int32) (s0 : St) : Option (Int32 × St) :=
  gB2 (m_isSheet F a1 s0) fun r1 s1 =>
  if r1 = 0 then
    gB2 (m_tells F (-1 : Int32) s1) fun r3 s3 =>
    some (r3, s3)
  else
    if inb a1 4 = true then
    if 0 ≤ (s1.1 29 (a1).toNatClampNeg) then
      if inb a1 4 = true then
      if inb a1 4 = true then
      some ((sI s1 29 (a1).toNatClampNeg (-1 : Int32)).1 30 (a1).toNatClampNeg, (sI s1 29 (a1).toNatClampNeg (-1 : Int32)))
      else none
      else none
    else
      gB2 (m_tells F (-11 : Int32) s1) fun r2 s2 =>
      some (r2, s2)
    else none
def m_item_J14 (F : Nat)   (s0 : St) : Option (Int32 × St) :=
    gB2 (m_tells F (-1 : Int32) s0) fun r1 s1 =>
    some (r1, s1)
def m_item (F : Nat) (a1 : Int32) (a2 : Int32) (a3 : Int32) (a4 : Int64) (s0 : St) : Option (Int32 × St) :=
  gB2 (m_isSheet F a1 s0) fun r2 s2 =>
  if r2 = 0 then
    m_item_J14 F s2
  else
    gB2 (m_isLane F a2 s2) fun r3 s3 =>
    if r3 = 0 then
      m_item_J14 F s3
    else
      gB2 (m_why F a1 a2 a3 (1 : Int32) s3) fun r4 s4 =>
      if 0 ≤ r4 then
        gB (m_puts F a1 a3 a4 s4) fun s5 =>
        some ((1 : Int32), s5)
      else
        gB2 (m_tells F r4 s4) fun r6 s6 =>
        some (r6, s6)
def m_copy_J14 (F : Nat)   (s0 : St) : Option (Int32 × St) :=
    gB2 (m_tells F (-1 : Int32) s0) fun r1 s1 =>
    some (r1, s1)
def m_copy_J38 (F : Nat)   (s0 : St) : Option (Int32 × St) :=
    gB2 (m_tells F (-11 : Int32) s0) fun r2 s2 =>
    some (r2, s2)
def m_copy_J107 (F : Nat)   (s0 : St) : Option (Int32 × St) :=
    gB2 (m_tells F (-13 : Int32) s0) fun r3 s3 =>
    some (r3, s3)
def m_copy_L154b (F : Nat)  (k154 : Int32 → Int32 → Int32 → Int32 → St → Option (Int32 × St)) (x3 : Int32) (x4 : Int32) (x5 : Int32) (x6 : Int32) (s0 : St) : Option (Int32 × St) :=
    if x5 ≤ x6 then
      some (x5, s0)
    else
      if inb x6 24 = true then
      if inb ((((24 : Int32) * x3) + x4) + x6) 96 = true then
      k154 x3 x4 x5 (x6 + (1 : Int32)) (sJ s0 31 ((((24 : Int32) * x3) + x4) + x6).toNatClampNeg (s0.2 32 (x6).toNatClampNeg))
      else none
      else none
def m_copy_L154 (F : Nat)  : Nat → Int32 → Int32 → Int32 → Int32 → St → Option (Int32 × St) := lp (fun _ _ _ _ _ => none) (m_copy_L154b F )
def m_copy_L117b (F : Nat)  (k117 : Int32 → Int32 → Int32 → Int32 → Int32 → Int32 → St → Option (Int32 × St)) (x1 : Int32) (x2 : Int32) (x3 : Int32) (x4 : Int32) (x5 : Int32) (x6 : Int32) (s0 : St) : Option (Int32 × St) :=
    if x5 ≤ x6 then
      m_copy_L154 F F x3 x4 x5 (0 : Int32) s0
    else
      if inb ((((24 : Int32) * x1) + x2) + x6) 96 = true then
      if inb x6 24 = true then
      k117 x1 x2 x3 x4 x5 (x6 + (1 : Int32)) (sJ s0 32 (x6).toNatClampNeg (s0.2 31 ((((24 : Int32) * x1) + x2) + x6).toNatClampNeg))
      else none
      else none
def m_copy_L117 (F : Nat)  : Nat → Int32 → Int32 → Int32 → Int32 → Int32 → Int32 → St → Option (Int32 × St) := lp (fun _ _ _ _ _ _ _ => none) (m_copy_L117b F )
def m_copy (F : Nat) (a1 : Int32) (a2 : Int32) (a3 : Int32) (a4 : Int32) (a5 : Int32) (s0 : St) : Option (Int32 × St) :=
  gB2 (m_isSheet F a1 s0) fun r4 s4 =>
  if r4 = 0 then
    m_copy_J14 F s4
  else
    gB2 (m_isSheet F a3 s4) fun r5 s5 =>
    if r5 = 0 then
      m_copy_J14 F s5
    else
      if inb a1 4 = true then
      if (s5.1 29 (a1).toNatClampNeg) < 0 then
        m_copy_J38 F s5
      else
        if inb a3 4 = true then
        if 0 ≤ (s5.1 29 (a3).toNatClampNeg) then
          if inb a1 4 = true then
          if inb a3 4 = true then
          if (s5.1 29 (a1).toNatClampNeg) = (s5.1 29 (a3).toNatClampNeg) then
            if a5 < 0 then
              m_copy_J107 F s5
            else
              if inb a1 4 = true then
              gB2 (m_why F a1 (s5.1 29 (a1).toNatClampNeg) a2 a5 s5) fun r6 s6 =>
              if r6 < 0 then
                m_copy_J107 F s6
              else
                if inb a3 4 = true then
                gB2 (m_why F a3 (s6.1 29 (a3).toNatClampNeg) a4 a5 s6) fun r7 s7 =>
                if 0 ≤ r7 then
                  m_copy_L117 F F a1 a2 a3 a4 a5 (0 : Int32) s7
                else
                  m_copy_J107 F s7
                else none
              else none
          else
            gB2 (m_tells F (-12 : Int32) s5) fun r8 s8 =>
            some (r8, s8)
          else none
          else none
        else
          m_copy_J38 F s5
        else none
      else none
