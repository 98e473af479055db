def fX7_hasRoom (a1 : Int32) (σ : pn_S) : Option (Int32) :=
  if (400 : Int32) < ((σ 1 3) + a1) then
    some (0 : Int32)
  else
    some (1 : Int32)

def fX7_put_43  (rec3 : Int32 → Int32 → pn_S → Option (pn_S)) (l1 : Int32) (l2 : Int32) (σ : pn_S) : Option (pn_S) :=
  rec3 l1 (l2 + (-8 : Int32)) σ

def fX7_put_3 : Nat → Int32 → Int32 → pn_S → Option (pn_S)
  | 0, _, _, _ => none
  | n9 + 1, l1, l2, σ =>
    if l2 < 0 then
      some σ
    else
      if (400 : Int32) ≤ (σ 1 3) then
        some σ
      else
        if pn_ib (σ 1 3) 400 then
        fX7_put_43 (fX7_put_3 n9) l1 l2 (pn_up (pn_up σ 2 (Int32.toNatClampNeg (σ 1 3)) (((Int32.toUInt32 l1 >>> (Int32.toUInt32 l2 &&& Int32.toUInt32 31)).toInt32) &&& (255 : Int32))) 1 3 (((pn_up σ 2 (Int32.toNatClampNeg (σ 1 3)) (((Int32.toUInt32 l1 >>> (Int32.toUInt32 l2 &&& Int32.toUInt32 31)).toInt32) &&& (255 : Int32))) 1 3) + (1 : Int32)))
        else none

def fX7_put (a1 : Int32) (σ : pn_S) : Option (pn_S) :=
  fX7_put_3 5000 a1 (24 : Int32) σ

def fX10_feed (a1 : Int32) (a2 : Int32) (a3 : Int32) (a4 : Int32) (a5 : Int32) (σ : pn_S) : Option (Int32 × pn_S) :=
  (fX7_hasRoom (20 : Int32) σ).bind fun x1 =>
  if x1 = 0 then
    some ((-1 : Int32), σ)
  else
    (fX7_put a1 σ).bind fun σ3 =>
    (fX7_put a2 σ3).bind fun σ4 =>
    (fX7_put a3 σ4).bind fun σ5 =>
    (fX7_put a4 σ5).bind fun σ6 =>
    (fX7_put a5 σ6).bind fun σ7 =>
    some (σ7 1 3, σ7)

def fX10_end (a1 : Int32) (σ : pn_S) : Option (Int32 × pn_S) :=
  if a1 < 0 then
    some ((0 : Int32), σ)
  else
    if a1 ≤ (σ 1 3) then
      some ((1 : Int32), (pn_up σ 1 3 a1))
    else
      some ((0 : Int32), σ)

def fX7_useUp  (σ : pn_S) : Option (pn_S) :=
  some (pn_up (pn_up σ 1 4 (σ 1 3)) 1 3 (0 : Int32))

def fX7_byteAt (a1 : Int32) (σ : pn_S) : Option (Int32) :=
  if a1 < 0 then
    some (-1 : Int32)
  else
    if (σ 1 4) ≤ a1 then
      some (-1 : Int32)
    else
      if (400 : Int32) ≤ a1 then
        some (-1 : Int32)
      else
        if pn_ib a1 400 then
        some (σ 2 (Int32.toNatClampNeg a1))
        else none

def fX7_isLetter (a0 : Int32) (σ : pn_S) : Option (Int32) :=
  if a0 < (97 : Int32) then
    some (0 : Int32)
  else
    if (122 : Int32) < a0 then
      some (0 : Int32)
    else
      some (1 : Int32)

def fX7_isDigit (a0 : Int32) (σ : pn_S) : Option (Int32) :=
  if a0 < (48 : Int32) then
    some (0 : Int32)
  else
    if (57 : Int32) < a0 then
      some (0 : Int32)
    else
      some (1 : Int32)

def fX7_endOfRun_11 : Nat → Int32 → Int32 → pn_S → Option (Int32)
  | 0, _, _, _ => none
  | n9 + 1, l2, l3, σ =>
    if (σ 1 4) ≤ l3 then
      some l3
    else
      if l2 = 0 then
        (fX7_byteAt l3 σ).bind fun x5 =>
        (fX7_isDigit x5 σ).bind fun x6 =>
        if x6 = 0 then
          some l3
        else
          fX7_endOfRun_11 n9 l2 (l3 + (1 : Int32)) σ
      else
        (fX7_byteAt l3 σ).bind fun x8 =>
        (fX7_isLetter x8 σ).bind fun x9 =>
        if x9 = 0 then
          some l3
        else
          fX7_endOfRun_11 n9 l2 (l3 + (1 : Int32)) σ

def fX7_endOfRun (a1 : Int32) (σ : pn_S) : Option (Int32) :=
  (fX7_byteAt a1 σ).bind fun x1 =>
  (fX7_isLetter x1 σ).bind fun x2 =>
  fX7_endOfRun_11 5000 x2 a1 σ

def fJ9_max_7cf53 (a0 : Int32) (a1 : Int32) (σ : pn_S) : Option (Int32) :=
  if a0 < a1 then
    some a1
  else
    some a0

def fJ0_coder_7d493 (j0 : Nat) (σ : pn_S) : Option (Int32) :=
  if (1 : Int32) = 0 then
    some (1 : Int32)
  else
    some (0 : Int32)

def fJ0_length_8abf5 (j0 : Nat) (σ : pn_S) : Option (Int32) :=
  (fJ0_coder_7d493 j0 σ).bind fun x1 =>
  some ((Int32.ofNat (pn_sl.getD j0 0)) >>> (x1 &&& 31))

def fJ0_isLatin1_aae02 (j0 : Nat) (σ : pn_S) : Option (Int32) :=
  if (1 : Int32) = 0 then
    some (0 : Int32)
  else
    if (0 : Int32) = 0 then
      some (1 : Int32)
    else
      some (0 : Int32)

def fJ3_checkIndex_8e157 (a0 : Int32) (a1 : Int32) (σ : pn_S) : Option (Int32) :=
  if a0 < 0 then
    none
  else
    if a0 < a1 then
      some a0
    else
      none

def fJ0_checkIndex_df160 (a0 : Int32) (a1 : Int32) (σ : pn_S) : Option (Unit) :=
  (fJ3_checkIndex_8e157 a0 a1 σ).bind fun x1 =>
  some ()

def fJ1_charAt_3b067 (j0 : Nat) (a1 : Int32) (σ : pn_S) : Option (Int32) :=
  (fJ0_checkIndex_df160 a1 (Int32.ofNat (pn_sl.getD j0 0)) σ).bind fun _ =>
  if pn_ib a1 (pn_sl.getD j0 0) then
  some ((Int32.toUInt32 (((pn_sb.getD j0 []).getD (Int32.toNatClampNeg a1) 0) &&& (255 : Int32)) % 65536).toInt32)
  else none

def fJ0_charAt_5068e (j0 : Nat) (a1 : Int32) (σ : pn_S) : Option (Int32) :=
  (fJ0_isLatin1_aae02 j0 σ).bind fun x1 =>
  if x1 = 0 then
    none
  else
    (fJ1_charAt_3b067 j0 a1 σ).bind fun x3 =>
    if pn_ch x3 then some x3 else none

def fX7_wordOf_85  (rec10 : Int32 → Int32 → Int32 → Int32 → Int32 → pn_S → Option (Int32)) (l1 : Int32) (l2 : Int32) (l3 : Int32) (l5 : Int32) (σ : pn_S) : Option (Int32) :=
  rec10 l1 l2 l3 (-1 : Int32) (l5 + (1 : Int32)) σ

def fX7_wordOf_42  (rec10 : Int32 → Int32 → Int32 → Int32 → Int32 → pn_S → Option (Int32)) (l1 : Int32) (l2 : Int32) (l3 : Int32) (l4 : Int32) (l5 : Int32) (s0 : Int32) (σ : pn_S) : Option (Int32) :=
  if s0 = (32 : Int32) then
    if l4 = (l2 - l1) then
      some l3
    else
      rec10 l1 l2 (l3 + (1 : Int32)) (0 : Int32) (l5 + (1 : Int32)) σ
  else
    if l4 = (-1 : Int32) then
      fX7_wordOf_85 rec10 l1 l2 l3 l5 σ
    else
      if l2 ≤ (l1 + l4) then
        fX7_wordOf_85 rec10 l1 l2 l3 l5 σ
      else
        (fX7_byteAt (l1 + l4) σ).bind fun x9 =>
        if x9 = s0 then
          rec10 l1 l2 l3 (l4 + (1 : Int32)) (l5 + (1 : Int32)) σ
        else
          fX7_wordOf_85 rec10 l1 l2 l3 l5 σ

def fX7_wordOf_10 : Nat → Int32 → Int32 → Int32 → Int32 → Int32 → pn_S → Option (Int32)
  | 0, _, _, _, _, _, _ => none
  | n9 + 1, l1, l2, l3, l4, l5, σ =>
    (fJ0_length_8abf5 0 σ).bind fun x1 =>
    if x1 < l5 then
      some (3000 : Int32)
    else
      (fJ0_length_8abf5 0 σ).bind fun x3 =>
      if x3 ≤ l5 then
        fX7_wordOf_42 (fX7_wordOf_10 n9) l1 l2 l3 l4 l5 (32 : Int32) σ
      else
        (fJ0_charAt_5068e 0 l5 σ).bind fun x11 =>
        fX7_wordOf_42 (fX7_wordOf_10 n9) l1 l2 l3 l4 l5 x11 σ

def fX7_wordOf (a1 : Int32) (a2 : Int32) (σ : pn_S) : Option (Int32) :=
  fX7_wordOf_10 5000 a1 a2 (1000 : Int32) (0 : Int32) (0 : Int32) σ

def fX7_numberOf_16 : Nat → Int32 → Int32 → Int32 → pn_S → Option (Int32)
  | 0, _, _, _, _ => none
  | n9 + 1, l2, l3, l4, σ =>
    if l2 ≤ l4 then
      some l3
    else
      (fX7_byteAt l4 σ).bind fun x3 =>
      fX7_numberOf_16 n9 l2 ((((10 : Int32) * l3) + x3) - (48 : Int32)) (l4 + (1 : Int32)) σ

def fX7_numberOf (a1 : Int32) (a2 : Int32) (σ : pn_S) : Option (Int32) :=
  if (a2 - a1) ≤ (3 : Int32) then
    fX7_numberOf_16 5000 a2 (0 : Int32) a1 σ
  else
    some (3000 : Int32)

def fX7_thingOf (a1 : Int32) (a2 : Int32) (σ : pn_S) : Option (Int32) :=
  (fX7_byteAt a1 σ).bind fun x1 =>
  (fX7_isLetter x1 σ).bind fun x2 =>
  if x2 = 0 then
    (fX7_isDigit x1 σ).bind fun x4 =>
    if x4 = 0 then
      some ((2000 : Int32) + x1)
    else
      (fX7_numberOf a1 a2 σ).bind fun x6 =>
      some x6
  else
    (fX7_wordOf a1 a2 σ).bind fun x7 =>
    some x7

def fX7_addThing_49    (σ : pn_S) : Option (pn_S) :=
  some σ

def fX7_addThing (a1 : Int32) (a2 : Int32) (σ : pn_S) : Option (pn_S) :=
  if (σ 1 5) < 0 then
    some σ
  else
    if (Int32.ofNat 401) ≤ (σ 1 5) then
      some σ
    else
      if pn_ib (σ 1 5) 401 then
      if pn_ib ((pn_up σ 3 (Int32.toNatClampNeg (σ 1 5)) a1) 1 5) 401 then
      fX7_addThing_49 (pn_up (pn_up (pn_up σ 3 (Int32.toNatClampNeg (σ 1 5)) a1) 4 (Int32.toNatClampNeg ((pn_up σ 3 (Int32.toNatClampNeg (σ 1 5)) a1) 1 5)) a2) 1 5 (((pn_up (pn_up σ 3 (Int32.toNatClampNeg (σ 1 5)) a1) 4 (Int32.toNatClampNeg ((pn_up σ 3 (Int32.toNatClampNeg (σ 1 5)) a1) 1 5)) a2) 1 5) + (1 : Int32)))
      else none
      else none

def fX7_split_17 : Nat → Int32 → pn_S → Option (pn_S)
  | 0, _, _ => none
  | n9 + 1, l1, σ =>
    if (σ 1 4) ≤ l1 then
      (fX7_addThing (3001 : Int32) (σ 1 4) σ).bind fun σ2 =>
      some σ2
    else
      (fX7_endOfRun l1 σ).bind fun x3 =>
      (fJ9_max_7cf53 (l1 + (1 : Int32)) x3 σ).bind fun x4 =>
      (fX7_byteAt l1 σ).bind fun x5 =>
      if x5 = (32 : Int32) then
        fX7_split_17 n9 x4 σ
      else
        (fX7_thingOf l1 x4 σ).bind fun x7 =>
        (fX7_addThing x7 l1 σ).bind fun σ8 =>
        fX7_split_17 n9 x4 σ8

def fX7_split  (σ : pn_S) : Option (pn_S) :=
  fX7_split_17 5000 (0 : Int32) (pn_up (pn_up (pn_up σ 1 5 (0 : Int32)) 1 6 (0 : Int32)) 1 7 (-1 : Int32))

def fX8_copy_140 (v0 : Nat) (v1 : Nat)   (σ : pn_S) : Option (pn_S) :=
  some σ

def fX8_copy_108 (v0 : Nat) (v1 : Nat)   (σ : pn_S) : Option (pn_S) :=
  fX8_copy_140 v0 v1 (pn_up (pn_up (pn_up (pn_up σ v0 11 (σ v1 11)) v0 12 ((pn_up σ v0 11 (σ v1 11)) v1 12)) v0 13 ((pn_up (pn_up σ v0 11 (σ v1 11)) v0 12 ((pn_up σ v0 11 (σ v1 11)) v1 12)) v1 13)) v0 14 ((pn_up (pn_up (pn_up σ v0 11 (σ v1 11)) v0 12 ((pn_up σ v0 11 (σ v1 11)) v1 12)) v0 13 ((pn_up (pn_up σ v0 11 (σ v1 11)) v0 12 ((pn_up σ v0 11 (σ v1 11)) v1 12)) v1 13)) v1 14))

def fX8_copy_76 (v0 : Nat) (v1 : Nat)   (σ : pn_S) : Option (pn_S) :=
  if pn_b01 (σ v1 7) then
  fX8_copy_108 v0 v1 (pn_up (pn_up (pn_up (pn_up σ v0 7 (σ v1 7)) v0 8 ((pn_up σ v0 7 (σ v1 7)) v1 8)) v0 9 ((pn_up (pn_up σ v0 7 (σ v1 7)) v0 8 ((pn_up σ v0 7 (σ v1 7)) v1 8)) v1 9)) v0 10 ((pn_up (pn_up (pn_up σ v0 7 (σ v1 7)) v0 8 ((pn_up σ v0 7 (σ v1 7)) v1 8)) v0 9 ((pn_up (pn_up σ v0 7 (σ v1 7)) v0 8 ((pn_up σ v0 7 (σ v1 7)) v1 8)) v1 9)) v1 10))
  else none

def fX8_copy_44 (v0 : Nat) (v1 : Nat)   (σ : pn_S) : Option (pn_S) :=
  fX8_copy_76 v0 v1 (pn_up (pn_up (pn_up (pn_up σ v0 3 (σ v1 3)) v0 4 ((pn_up σ v0 3 (σ v1 3)) v1 4)) v0 5 ((pn_up (pn_up σ v0 3 (σ v1 3)) v0 4 ((pn_up σ v0 3 (σ v1 3)) v1 4)) v1 5)) v0 6 ((pn_up (pn_up (pn_up σ v0 3 (σ v1 3)) v0 4 ((pn_up σ v0 3 (σ v1 3)) v1 4)) v0 5 ((pn_up (pn_up σ v0 3 (σ v1 3)) v0 4 ((pn_up σ v0 3 (σ v1 3)) v1 4)) v1 5)) v1 6))

def fX8_copy (v0 : Nat) (v1 : Nat) (σ : pn_S) : Option (pn_S) :=
  fX8_copy_44 v0 v1 (pn_up (pn_ua (pn_ua σ (v0 + 1) (va_cpy (σ (v1 + 1)) (σ (v0 + 1)) 0 0 64)) (v0 + 2) (va_cpy ((pn_ua σ (v0 + 1) (va_cpy (σ (v1 + 1)) (σ (v0 + 1)) 0 0 64)) (v1 + 2)) ((pn_ua σ (v0 + 1) (va_cpy (σ (v1 + 1)) (σ (v0 + 1)) 0 0 64)) (v0 + 2)) 0 0 240)) v0 2 ((pn_ua (pn_ua σ (v0 + 1) (va_cpy (σ (v1 + 1)) (σ (v0 + 1)) 0 0 64)) (v0 + 2) (va_cpy ((pn_ua σ (v0 + 1) (va_cpy (σ (v1 + 1)) (σ (v0 + 1)) 0 0 64)) (v1 + 2)) ((pn_ua σ (v0 + 1) (va_cpy (σ (v1 + 1)) (σ (v0 + 1)) 0 0 64)) (v0 + 2)) 0 0 240)) v1 2))

def fX7_nextThing  (σ : pn_S) : Option (Int32) :=
  if (σ 1 7) = (-1 : Int32) then
    if (σ 1 5) ≤ (σ 1 6) then
      some (3000 : Int32)
    else
      if pn_ib (σ 1 6) 401 then
      some (σ 3 (Int32.toNatClampNeg (σ 1 6)))
      else none
  else
    some (3000 : Int32)

def fX7_take (a1 : Int32) (σ : pn_S) : Option (Int32 × pn_S) :=
  if (σ 1 7) = (-1 : Int32) then
    if (σ 1 5) ≤ (σ 1 6) then
      some ((0 : Int32), σ)
    else
      if pn_ib (σ 1 6) 401 then
      if (σ 3 (Int32.toNatClampNeg (σ 1 6))) = a1 then
        some ((1 : Int32), (pn_up σ 1 6 ((σ 1 6) + (1 : Int32))))
      else
        some ((0 : Int32), σ)
      else none
  else
    some ((0 : Int32), σ)

def fX7_fail_36   (s1 : Int32) (σ : pn_S) : Option (Int32 × pn_S) :=
  some ((0 : Int32), (pn_up σ 1 7 s1))

def fX7_fail  (σ : pn_S) : Option (Int32 × pn_S) :=
  if (σ 1 7) = (-1 : Int32) then
    if (σ 1 5) ≤ (σ 1 6) then
      fX7_fail_36 (σ 1 4) σ
    else
      if pn_ib (σ 1 6) 401 then
      fX7_fail_36 (σ 4 (Int32.toNatClampNeg (σ 1 6))) σ
      else none
  else
    some ((0 : Int32), σ)

def fX7_takeNumber_17    (σ : pn_S) : Option (Int32 × pn_S) :=
  pn_bi (fX7_fail σ) fun x3 σ3 =>
  some ((-1 : Int32), σ3)

def fX7_takeNumber (a1 : Int32) (σ : pn_S) : Option (Int32 × pn_S) :=
  (fX7_nextThing σ).bind fun x1 =>
  if a1 < x1 then
    fX7_takeNumber_17 σ
  else
    if x1 ≤ (999 : Int32) then
      some (x1, (pn_up σ 1 6 ((σ 1 6) + (1 : Int32))))
    else
      fX7_takeNumber_17 σ

def fX7_takeNumberAfter (a1 : Int32) (a2 : Int32) (σ : pn_S) : Option (Int32 × pn_S) :=
  pn_bi (fX7_take a1 σ) fun x1 σ1 =>
  if x1 = 0 then
    pn_bi (fX7_fail σ1) fun x3 σ3 =>
    some ((-1 : Int32), σ3)
  else
    pn_bi (fX7_takeNumber a2 σ1) fun x4 σ4 =>
    some (x4, σ4)

def fX8_tell (v0 : Nat) (a1 : Int32) (a2 : Int32) (a3 : Int32) (σ : pn_S) : Option (Int32 × pn_S) :=
  if a1 < 0 then
    some ((-1 : Int32), σ)
  else
    if (σ v0 2) ≤ a1 then
      some ((-1 : Int32), σ)
    else
      if a2 < 0 then
        some ((-1 : Int32), σ)
      else
        if a2 < (8 : Int32) then
          if pn_ib ((a1 * (8 : Int32)) + a2) 64 then
          if pn_ib ((a1 * (8 : Int32)) + a2) 64 then
          some (σ (v0 + 1) (Int32.toNatClampNeg ((a1 * (8 : Int32)) + a2)), (pn_up σ (v0 + 1) (Int32.toNatClampNeg ((a1 * (8 : Int32)) + a2)) a3))
          else none
          else none
        else
          some ((-1 : Int32), σ)

def fX8_addPerson_47 (v0 : Nat) (rec28 : Int32 → Int32 → pn_S → Option (Int32 × pn_S)) (l1 : Int32) (l2 : Int32) (s1 : Int32) (s2 : Int32) (s3 : Int32) (σ : pn_S) : Option (Int32 × pn_S) :=
  pn_bi (fX8_tell v0 s1 s2 s3 σ) fun x4 σ4 =>
  rec28 l1 (l2 + (1 : Int32)) σ4

def fX8_addPerson_28 (v0 : Nat) : Nat → Int32 → Int32 → pn_S → Option (Int32 × pn_S)
  | 0, _, _, _ => none
  | n9 + 1, l1, l2, σ =>
    if (8 : Int32) ≤ l2 then
      some (l1, σ)
    else
      if l2 = (5 : Int32) then
        fX8_addPerson_47 v0 (fX8_addPerson_28 v0 n9) l1 l2 l1 l2 (-1 : Int32) σ
      else
        fX8_addPerson_47 v0 (fX8_addPerson_28 v0 n9) l1 l2 l1 l2 (0 : Int32) σ

def fX8_addPerson (v0 : Nat) (σ : pn_S) : Option (Int32 × pn_S) :=
  if (σ v0 2) < (8 : Int32) then
    fX8_addPerson_28 v0 5000 (σ v0 2) (0 : Int32) (pn_up σ v0 2 ((σ v0 2) + (1 : Int32)))
  else
    some ((-1 : Int32), σ)

def fX9_readPerson_25    (σ : pn_S) : Option (Int32 × pn_S) :=
  pn_bi (fX7_fail σ) fun x2 σ2 =>
  if pn_b01 x2 then some (x2, σ2) else none

def fX9_readPerson_222   (s1 : Int32) (s2 : Int32) (s3 : Int32) (σ : pn_S) : Option (Int32 × pn_S) :=
  pn_bi (fX8_tell 8 s1 s2 s3 σ) fun x20 σ20 =>
  some ((1 : Int32), σ20)

def fX9_readPerson_200   (l6 : Int32) (l7 : Int32) (s1 : Int32) (s2 : Int32) (s3 : Int32) (σ : pn_S) : Option (Int32 × pn_S) :=
  pn_bi (fX8_tell 8 s1 s2 s3 σ) fun x18 σ18 =>
  if l6 = 0 then
    fX9_readPerson_222 l7 (7 : Int32) (0 : Int32) σ18
  else
    fX9_readPerson_222 l7 (7 : Int32) (1 : Int32) σ18

def fX9_readPerson  (σ : pn_S) : Option (Int32 × pn_S) :=
  if (8 : Int32) ≤ (σ 8 2) then
    fX9_readPerson_25 σ
  else
    pn_bi (fX7_take (1000 : Int32) σ) fun x3 σ3 =>
    if x3 = 0 then
      fX9_readPerson_25 σ3
    else
      pn_bi (fX7_takeNumberAfter (1001 : Int32) (8 : Int32) σ3) fun x5 σ5 =>
      pn_bi (fX7_takeNumberAfter (1002 : Int32) (9 : Int32) σ5) fun x6 σ6 =>
      pn_bi (fX7_takeNumberAfter (1003 : Int32) (99 : Int32) σ6) fun x7 σ7 =>
      pn_bi (fX7_takeNumberAfter (1004 : Int32) (999 : Int32) σ7) fun x8 σ8 =>
      pn_bi (fX7_take (1005 : Int32) σ8) fun x9 σ9 =>
      pn_bi (fX7_take (1006 : Int32) σ9) fun x10 σ10 =>
      if (σ10 1 7) = (-1 : Int32) then
        pn_bi (fX8_addPerson 8 σ10) fun x12 σ12 =>
        pn_bi (fX8_tell 8 x12 (0 : Int32) x5 σ12) fun x13 σ13 =>
        pn_bi (fX8_tell 8 x12 (1 : Int32) x6 σ13) fun x14 σ14 =>
        pn_bi (fX8_tell 8 x12 (2 : Int32) x7 σ14) fun x15 σ15 =>
        pn_bi (fX8_tell 8 x12 (3 : Int32) x8 σ15) fun x16 σ16 =>
        if x9 = 0 then
          fX9_readPerson_200 x10 x12 x12 (6 : Int32) (0 : Int32) σ16
        else
          fX9_readPerson_200 x10 x12 x12 (6 : Int32) (1 : Int32) σ16
      else
        some ((0 : Int32), σ10)

def fX9_readWrong  (σ : pn_S) : Option (Int32 × pn_S) :=
  pn_bi (fX7_takeNumberAfter (1007 : Int32) ((σ 8 2) - (1 : Int32)) σ) fun x1 σ1 =>
  pn_bi (fX7_takeNumber (9 : Int32) σ1) fun x2 σ2 =>
  if (σ2 1 7) = (-1 : Int32) then
    pn_bi (fX8_tell 8 x1 (4 : Int32) x2 σ2) fun x4 σ4 =>
    some ((1 : Int32), σ4)
  else
    some ((0 : Int32), σ2)

def fX9_readFeud_44    (σ : pn_S) : Option (Int32 × pn_S) :=
  pn_bi (fX7_fail σ) fun x4 σ4 =>
  if pn_b01 x4 then some (x4, σ4) else none

def fX9_readFeud  (σ : pn_S) : Option (Int32 × pn_S) :=
  pn_bi (fX7_takeNumberAfter (1008 : Int32) ((σ 8 2) - (1 : Int32)) σ) fun x1 σ1 =>
  pn_bi (fX7_take (1009 : Int32) σ1) fun x2 σ2 =>
  if x2 = 0 then
    fX9_readFeud_44 σ2
  else
    (fX7_nextThing σ2).bind fun x5 =>
    if x5 = x1 then
      fX9_readFeud_44 σ2
    else
      pn_bi (fX7_takeNumber ((σ2 8 2) - (1 : Int32)) σ2) fun x7 σ7 =>
      if (σ7 1 7) = (-1 : Int32) then
        pn_bi (fX8_tell 8 x1 (5 : Int32) x7 σ7) fun x9 σ9 =>
        some ((1 : Int32), σ9)
      else
        some ((0 : Int32), σ7)

def fX8_aim (v0 : Nat) (a1 : Int32) (σ : pn_S) : Option (pn_S) :=
  some (pn_up (pn_up σ v0 4 a1) v0 5 (0 : Int32))

def fX9_readTarget  (σ : pn_S) : Option (Int32 × pn_S) :=
  pn_bi (fX7_takeNumberAfter (1010 : Int32) ((σ 8 2) - (1 : Int32)) σ) fun x1 σ1 =>
  if (σ1 1 7) = (-1 : Int32) then
    (fX8_aim 8 x1 σ1).bind fun σ3 =>
    some ((1 : Int32), σ3)
  else
    some ((0 : Int32), σ1)

def fX9_readSetting_159    (σ : pn_S) : Option (Int32 × pn_S) :=
  if (σ 1 7) = (-1 : Int32) then
    some ((1 : Int32), σ)
  else
    some ((0 : Int32), σ)

def fX9_readSetting  (σ : pn_S) : Option (Int32 × pn_S) :=
  (fX7_nextThing σ).bind fun x1 =>
  if x1 = (1011 : Int32) then
    pn_bi (fX7_takeNumberAfter (1011 : Int32) (100 : Int32) σ) fun x3 σ3 =>
    fX9_readSetting_159 (pn_up σ3 8 8 x3)
  else if x1 = (1012 : Int32) then
    pn_bi (fX7_takeNumberAfter (1012 : Int32) (100 : Int32) σ) fun x6 σ6 =>
    fX9_readSetting_159 (pn_up σ6 8 9 x6)
  else if x1 = (1013 : Int32) then
    pn_bi (fX7_takeNumberAfter (1013 : Int32) (30 : Int32) σ) fun x8 σ8 =>
    fX9_readSetting_159 (pn_up σ8 8 10 x8)
  else if x1 = (1014 : Int32) then
    pn_bi (fX7_takeNumberAfter (1014 : Int32) (20 : Int32) σ) fun x10 σ10 =>
    fX9_readSetting_159 (pn_up σ10 8 11 x10)
  else if x1 = (1015 : Int32) then
    pn_bi (fX7_takeNumberAfter (1015 : Int32) (999 : Int32) σ) fun x12 σ12 =>
    fX9_readSetting_159 (pn_up σ12 8 6 x12)
  else 
  pn_bi (fX7_fail σ) fun x13 σ13 =>
  if pn_b01 x13 then some (x13, σ13) else none

def fX9_readLine  (σ : pn_S) : Option (Int32 × pn_S) :=
  (fX7_nextThing σ).bind fun x1 =>
  if x1 = (1000 : Int32) then
    pn_bi (fX9_readPerson σ) fun x3 σ3 =>
    if pn_b01 x3 then some (x3, σ3) else none
  else if x1 = (1007 : Int32) then
    pn_bi (fX9_readWrong σ) fun x5 σ5 =>
    if pn_b01 x5 then some (x5, σ5) else none
  else if x1 = (1008 : Int32) then
    pn_bi (fX9_readFeud σ) fun x7 σ7 =>
    if pn_b01 x7 then some (x7, σ7) else none
  else if x1 = (1010 : Int32) then
    pn_bi (fX9_readTarget σ) fun x9 σ9 =>
    if pn_b01 x9 then some (x9, σ9) else none
  else 
  pn_bi (fX9_readSetting σ) fun x10 σ10 =>
  if pn_b01 x10 then some (x10, σ10) else none

def fX2_addLine_49 (w0 : Nat)   (σ : pn_S) : Option (pn_S) :=
  if pn_ib ((pn_up σ w0 6 ((σ w0 6) + (1 : Int32))) w0 6) 13 then
  some (pn_up (pn_up σ w0 6 ((σ w0 6) + (1 : Int32))) (w0 + 3) (Int32.toNatClampNeg ((pn_up σ w0 6 ((σ w0 6) + (1 : Int32))) w0 6)) ((pn_up σ w0 6 ((σ w0 6) + (1 : Int32))) w0 7))
  else none

def fX2_addLine (w0 : Nat) (a1 : Int32) (a2 : Int32) (σ : pn_S) : Option (pn_S) :=
  if (σ w0 6) < 0 then
    some σ
  else
    if (12 : Int32) ≤ (σ w0 6) then
      some σ
    else
      if pn_ib (σ w0 6) 12 then
      if pn_ib ((pn_up σ (w0 + 1) (Int32.toNatClampNeg (σ w0 6)) a1) w0 6) 12 then
      if pn_ib ((pn_up (pn_up σ (w0 + 1) (Int32.toNatClampNeg (σ w0 6)) a1) (w0 + 2) (Int32.toNatClampNeg ((pn_up σ (w0 + 1) (Int32.toNatClampNeg (σ w0 6)) a1) w0 6)) a2) w0 6) 13 then
      fX2_addLine_49 w0 (pn_up (pn_up (pn_up σ (w0 + 1) (Int32.toNatClampNeg (σ w0 6)) a1) (w0 + 2) (Int32.toNatClampNeg ((pn_up σ (w0 + 1) (Int32.toNatClampNeg (σ w0 6)) a1) w0 6)) a2) (w0 + 3) (Int32.toNatClampNeg ((pn_up (pn_up σ (w0 + 1) (Int32.toNatClampNeg (σ w0 6)) a1) (w0 + 2) (Int32.toNatClampNeg ((pn_up σ (w0 + 1) (Int32.toNatClampNeg (σ w0 6)) a1) w0 6)) a2) w0 6)) ((pn_up (pn_up σ (w0 + 1) (Int32.toNatClampNeg (σ w0 6)) a1) (w0 + 2) (Int32.toNatClampNeg ((pn_up σ (w0 + 1) (Int32.toNatClampNeg (σ w0 6)) a1) w0 6)) a2) w0 7))
      else none
      else none
      else none

def fX2_addCode_59 (w0 : Nat)   (σ : pn_S) : Option (pn_S) :=
  some σ

def fX2_addCode (w0 : Nat) (a1 : Int32) (σ : pn_S) : Option (pn_S) :=
  if (σ w0 6) ≤ 0 then
    some σ
  else
    if (12 : Int32) < (σ w0 6) then
      some σ
    else
      if (400 : Int32) ≤ (σ w0 7) then
        some σ
      else
        if pn_ib (σ w0 7) 400 then
        if pn_ib ((pn_up (pn_up σ (w0 + 4) (Int32.toNatClampNeg (σ w0 7)) a1) w0 7 (((pn_up σ (w0 + 4) (Int32.toNatClampNeg (σ w0 7)) a1) w0 7) + (1 : Int32))) w0 6) 13 then
        fX2_addCode_59 w0 (pn_up (pn_up (pn_up σ (w0 + 4) (Int32.toNatClampNeg (σ w0 7)) a1) w0 7 (((pn_up σ (w0 + 4) (Int32.toNatClampNeg (σ w0 7)) a1) w0 7) + (1 : Int32))) (w0 + 3) (Int32.toNatClampNeg ((pn_up (pn_up σ (w0 + 4) (Int32.toNatClampNeg (σ w0 7)) a1) w0 7 (((pn_up σ (w0 + 4) (Int32.toNatClampNeg (σ w0 7)) a1) w0 7) + (1 : Int32))) w0 6)) ((pn_up (pn_up σ (w0 + 4) (Int32.toNatClampNeg (σ w0 7)) a1) w0 7 (((pn_up σ (w0 + 4) (Int32.toNatClampNeg (σ w0 7)) a1) w0 7) + (1 : Int32))) w0 7))
        else none
        else none

def fX3_isSumPart (a0 : Int32) (σ : pn_S) : Option (Int32) :=
  if a0 = (1002 : Int32) then
    some (1 : Int32)
  else if a0 = (1004 : Int32) then
    some (1 : Int32)
  else if a0 = (1007 : Int32) then
    some (1 : Int32)
  else if a0 = (1015 : Int32) then
    some (1 : Int32)
  else if a0 = (1024 : Int32) then
    some (1 : Int32)
  else if a0 = (1025 : Int32) then
    some (1 : Int32)
  else if a0 = (1026 : Int32) then
    some (1 : Int32)
  else 
  if (999 : Int32) < a0 then
    some (0 : Int32)
  else
    some (1 : Int32)

def fX3_readSum_37    (σ : pn_S) : Option (Int32 × pn_S) :=
  pn_bi (fX7_fail σ) fun x6 σ6 =>
  if pn_b01 x6 then some (x6, σ6) else none

def fX3_readSum_67  (rec4 : Int32 → Int32 → pn_S → Option (Int32 × pn_S)) (l2 : Int32) (σ : pn_S) : Option (Int32 × pn_S) :=
  pn_bi (fX7_take (2043 : Int32) σ) fun x11 σ11 =>
  if x11 = 0 then
    some ((1 : Int32), σ11)
  else
    rec4 x11 (l2 + (1 : Int32)) σ11

def fX3_readSum_4 : Nat → Int32 → Int32 → pn_S → Option (Int32 × pn_S)
  | 0, _, _, _ => none
  | n9 + 1, l1, l2, σ =>
    if (400 : Int32) ≤ l2 then
      pn_bi (fX7_fail σ) fun x2 σ2 =>
      if pn_b01 x2 then some (x2, σ2) else none
    else
      (fX7_nextThing σ).bind fun x3 =>
      (fX3_isSumPart x3 σ).bind fun x4 =>
      if x4 = 0 then
        fX3_readSum_37 σ
      else
        pn_bi (fX7_take x3 σ) fun x7 σ7 =>
        if x7 = 0 then
          fX3_readSum_37 σ7
        else
          (fX2_addCode 21 x3 σ7).bind fun σ9 =>
          if l1 = 0 then
            fX3_readSum_67 (fX3_readSum_4 n9) l2 σ9
          else
            (fX2_addCode 21 (2043 : Int32) σ9).bind fun σ13 =>
            fX3_readSum_67 (fX3_readSum_4 n9) l2 σ13

def fX3_readSum  (σ : pn_S) : Option (Int32 × pn_S) :=
  fX3_readSum_4 5000 (0 : Int32) (0 : Int32) σ

def fX3_readComparison_42    (σ : pn_S) : Option (Int32 × pn_S) :=
  pn_bi (fX7_fail σ) fun x7 σ7 =>
  if pn_b01 x7 then some (x7, σ7) else none

def fX3_readComparison_31   (l1 : Int32) (σ : pn_S) : Option (Int32 × pn_S) :=
  pn_bi (fX7_take l1 σ) fun x5 σ5 =>
  if x5 = 0 then
    fX3_readComparison_42 σ5
  else
    pn_bi (fX3_readSum σ5) fun x8 σ8 =>
    (fX2_addCode 21 l1 σ8).bind fun σ9 =>
    if pn_b01 x8 then some (x8, σ9) else none

def fX3_readComparison  (σ : pn_S) : Option (Int32 × pn_S) :=
  pn_bi (fX3_readSum σ) fun x1 σ1 =>
  if x1 = 0 then
    some ((0 : Int32), σ1)
  else
    (fX7_nextThing σ1).bind fun x3 =>
    if x3 = (2060 : Int32) then
      fX3_readComparison_31 x3 σ1
    else
      if x3 = (2062 : Int32) then
        fX3_readComparison_31 x3 σ1
      else
        fX3_readComparison_42 σ1

def fX3_readAtom_154 (gC : Int32 → pn_S → Option (Int32 × pn_S)) (gA : Int32 → pn_S → Option (Int32 × pn_S))  (l2 : Int32) (σ : pn_S) : Option (Int32 × pn_S) :=
  (fX2_addCode 21 l2 σ).bind fun σ9 =>
  pn_bi (fX7_take l2 σ9) fun x10 σ10 =>
  if pn_b01 x10 then some (x10, σ10) else none

def fX3_readAtom_46 (gC : Int32 → pn_S → Option (Int32 × pn_S)) (gA : Int32 → pn_S → Option (Int32 × pn_S))  (l1 : Int32) (l2 : Int32) (σ : pn_S) : Option (Int32 × pn_S) :=
  pn_bi (fX7_take (2040 : Int32) σ) fun x4 σ4 =>
  if x4 = 0 then
    pn_bi (fX7_take (1022 : Int32) σ4) fun x6 σ6 =>
    if x6 = 0 then
      if l2 = (1008 : Int32) then
        fX3_readAtom_154 gC gA l2 σ6
      else
        if l2 = (1005 : Int32) then
          fX3_readAtom_154 gC gA l2 σ6
        else
          if l2 = (1023 : Int32) then
            fX3_readAtom_154 gC gA l2 σ6
          else
            pn_bi (fX3_readComparison σ6) fun x13 σ13 =>
            if pn_b01 x13 then some (x13, σ13) else none
    else
      pn_bi (gA (l1 + (1 : Int32)) σ6) fun x14 σ14 =>
      (fX2_addCode 21 (1022 : Int32) σ14).bind fun σ15 =>
      if pn_b01 x14 then some (x14, σ15) else none
  else
    pn_bi (gC (l1 + (1 : Int32)) σ4) fun x16 σ16 =>
    if x16 = 0 then
      some ((0 : Int32), σ16)
    else
      pn_bi (fX7_take (2041 : Int32) σ16) fun x18 σ18 =>
      if x18 = 0 then
        pn_bi (fX7_fail σ18) fun x20 σ20 =>
        if x20 = 0 then
          some ((0 : Int32), σ20)
        else
          some ((1 : Int32), σ20)
      else
        some ((1 : Int32), σ18)

def fX3_readAtom_27 (gC : Int32 → pn_S → Option (Int32 × pn_S)) (gA : Int32 → pn_S → Option (Int32 × pn_S))  (l1 : Int32) (l2 : Int32) (s0 : Int32) (σ : pn_S) : Option (Int32 × pn_S) :=
  if s0 = 0 then
    fX3_readAtom_46 gC gA l1 l2 σ
  else
    if l1 < (6 : Int32) then
      fX3_readAtom_46 gC gA l1 l2 σ
    else
      pn_bi (fX7_fail σ) fun x23 σ23 =>
      if pn_b01 x23 then some (x23, σ23) else none

def fX3_readAtom_22 (gC : Int32 → pn_S → Option (Int32 × pn_S)) (gA : Int32 → pn_S → Option (Int32 × pn_S))  (l1 : Int32) (l2 : Int32) (σ : pn_S) : Option (Int32 × pn_S) :=
  fX3_readAtom_27 gC gA l1 l2 (1 : Int32) σ

def fX3_readAtom (gC : Int32 → pn_S → Option (Int32 × pn_S)) (gA : Int32 → pn_S → Option (Int32 × pn_S)) (a1 : Int32) (σ : pn_S) : Option (Int32 × pn_S) :=
  (fX7_nextThing σ).bind fun x1 =>
  if x1 = (1022 : Int32) then
    fX3_readAtom_22 gC gA a1 x1 σ
  else
    if x1 = (2040 : Int32) then
      fX3_readAtom_22 gC gA a1 x1 σ
    else
      fX3_readAtom_27 gC gA a1 x1 (0 : Int32) σ

def fX3_readCondition_68 (gA : Int32 → pn_S → Option (Int32 × pn_S)) (rec7 : Int32 → Int32 → Int32 → Int32 → pn_S → Option (Int32 × pn_S)) (l1 : Int32) (l3 : Int32) (l4 : Int32) (σ : pn_S) : Option (Int32 × pn_S) :=
  pn_bi (fX7_take (1020 : Int32) σ) fun x9 σ9 =>
  if x9 = 0 then
    some ((1 : Int32), σ9)
  else
    rec7 l1 x9 l3 (l4 + (1 : Int32)) σ9

def fX3_readCondition_39 (gA : Int32 → pn_S → Option (Int32 × pn_S)) (rec7 : Int32 → Int32 → Int32 → Int32 → pn_S → Option (Int32 × pn_S)) (l1 : Int32) (l2 : Int32) (l4 : Int32) (σ : pn_S) : Option (Int32 × pn_S) :=
  pn_bi (fX7_take (1021 : Int32) σ) fun x6 σ6 =>
  if x6 = 0 then
    if l2 = 0 then
      fX3_readCondition_68 gA rec7 l1 x6 l4 σ6
    else
      (fX2_addCode 21 (1020 : Int32) σ6).bind fun σ11 =>
      fX3_readCondition_68 gA rec7 l1 x6 l4 σ11
  else
    rec7 l1 l2 x6 (l4 + (1 : Int32)) σ6

def fX3_readCondition_7 (gA : Int32 → pn_S → Option (Int32 × pn_S)) : Nat → Int32 → Int32 → Int32 → Int32 → pn_S → Option (Int32 × pn_S)
  | 0, _, _, _, _, _ => none
  | n9 + 1, l1, l2, l3, l4, σ =>
    if (400 : Int32) ≤ l4 then
      pn_bi (fX7_fail σ) fun x2 σ2 =>
      if pn_b01 x2 then some (x2, σ2) else none
    else
      pn_bi (gA l1 σ) fun x3 σ3 =>
      if x3 = 0 then
        some ((0 : Int32), σ3)
      else
        if l3 = 0 then
          fX3_readCondition_39 gA (fX3_readCondition_7 gA n9) l1 l2 l4 σ3
        else
          (fX2_addCode 21 (1021 : Int32) σ3).bind fun σ12 =>
          fX3_readCondition_39 gA (fX3_readCondition_7 gA n9) l1 l2 l4 σ12

def fX3_readCondition (gA : Int32 → pn_S → Option (Int32 × pn_S)) (a1 : Int32) (σ : pn_S) : Option (Int32 × pn_S) :=
  fX3_readCondition_7 gA 5000 a1 (0 : Int32) (0 : Int32) (0 : Int32) σ
def fX3_both : Nat → (Int32 → pn_S → Option (Int32 × pn_S)) × (Int32 → pn_S → Option (Int32 × pn_S))
  | 0 => (fun _ _ => none, fun _ _ => none)
  | n + 1 => (fX3_readCondition (fX3_both n).2, fX3_readAtom (fX3_both n).1 (fX3_both n).2)
def fX3_cond (a1 : Int32) (σ : pn_S) : Option (Int32 × pn_S) := (fX3_both 40).1 a1 σ

def fX3_readLine_37   (l1 : Int32) (σ : pn_S) : Option (Int32 × pn_S) :=
  pn_bi (fX7_takeNumberAfter l1 (30 : Int32) σ) fun x3 σ3 =>
  if x3 = (-1 : Int32) then
    some ((0 : Int32), σ3)
  else
    (fX2_addLine 21 l1 x3 σ3).bind fun σ5 =>
    pn_bi (fX7_take (1019 : Int32) σ5) fun x6 σ6 =>
    if x6 = 0 then
      some ((1 : Int32), σ6)
    else
      pn_bi (fX3_cond (0 : Int32) σ6) fun x8 σ8 =>
      if x8 = 0 then
        some ((0 : Int32), σ8)
      else
        some ((1 : Int32), σ8)

def fX3_readLine  (σ : pn_S) : Option (Int32 × pn_S) :=
  (fX7_nextThing σ).bind fun x1 =>
  if x1 = (1016 : Int32) then
    fX3_readLine_37 x1 σ
  else
    if x1 = (1017 : Int32) then
      fX3_readLine_37 x1 σ
    else
      if x1 = (1018 : Int32) then
        fX3_readLine_37 x1 σ
      else
        pn_bi (fX7_fail σ) fun x12 σ12 =>
        if pn_b01 x12 then some (x12, σ12) else none

def fX4_readLines_35_17 : Nat → Int32 → Int32 → pn_S → Option (Int32 × pn_S)
  | 0, _, _, _ => none
  | n9 + 1, l1, l2, σ =>
    if l1 ≤ l2 then
      pn_bi (fX7_fail σ) fun x4 σ4 =>
      if pn_b01 x4 then some (x4, σ4) else none
    else
      pn_bi (fX9_readLine σ) fun x5 σ5 =>
      if x5 = 0 then
        some ((0 : Int32), σ5)
      else
        (fX7_nextThing σ5).bind fun x7 =>
        if x7 = (3001 : Int32) then
          some ((1 : Int32), σ5)
        else
          pn_bi (fX7_take (2059 : Int32) σ5) fun x9 σ9 =>
          if x9 = 0 then
            pn_bi (fX7_fail σ9) fun x11 σ11 =>
            if pn_b01 x11 then some (x11, σ11) else none
          else
            fX4_readLines_35_17 n9 l1 (l2 + (1 : Int32)) σ9

def fX4_readLines_35 (a1 : Int32) (σ : pn_S) : Option (Int32 × pn_S) :=
  (fX7_nextThing σ).bind fun x1 =>
  if x1 = (3001 : Int32) then
    some ((1 : Int32), σ)
  else
    fX4_readLines_35_17 5000 a1 (0 : Int32) σ

def fX4_readLines_36_17 : Nat → Int32 → Int32 → pn_S → Option (Int32 × pn_S)
  | 0, _, _, _ => none
  | n9 + 1, l1, l2, σ =>
    if l1 ≤ l2 then
      pn_bi (fX7_fail σ) fun x4 σ4 =>
      if pn_b01 x4 then some (x4, σ4) else none
    else
      pn_bi (fX3_readLine σ) fun x5 σ5 =>
      if x5 = 0 then
        some ((0 : Int32), σ5)
      else
        (fX7_nextThing σ5).bind fun x7 =>
        if x7 = (3001 : Int32) then
          some ((1 : Int32), σ5)
        else
          pn_bi (fX7_take (2059 : Int32) σ5) fun x9 σ9 =>
          if x9 = 0 then
            pn_bi (fX7_fail σ9) fun x11 σ11 =>
            if pn_b01 x11 then some (x11, σ11) else none
          else
            fX4_readLines_36_17 n9 l1 (l2 + (1 : Int32)) σ9

def fX4_readLines_36 (a1 : Int32) (σ : pn_S) : Option (Int32 × pn_S) :=
  (fX7_nextThing σ).bind fun x1 =>
  if x1 = (3001 : Int32) then
    some ((1 : Int32), σ)
  else
    fX4_readLines_36_17 5000 a1 (0 : Int32) σ

def fX5_forget  (σ : pn_S) : Option (pn_S) :=
  some (pn_up σ 41 1 (0 : Int32))

def fX10_village  (σ : pn_S) : Option ((Int32 ⊕ String) × pn_S) :=
  (fX7_useUp σ).bind fun σ1 =>
  (fX7_split σ1).bind fun σ2 =>
  (fX8_copy 8 5 σ2).bind fun σ3 =>
  pn_bi (fX4_readLines_35 (14 : Int32) σ3) fun x4 σ4 =>
  if x4 = 0 then
    some (.inr "java/lang/IllegalArgumentException", (pn_up σ4 0 15 (σ4 1 7)))
  else
    if ((pn_up σ4 0 15 (σ4 1 7)) 5 3) < (12 : Int32) then
      (fX8_copy 5 8 (pn_up σ4 0 15 (σ4 1 7))).bind fun σ7 =>
      (fX5_forget (pn_up σ7 5 3 ((σ7 5 3) + (1 : Int32)))).bind fun σ8 =>
      some (.inl (σ8 5 3), σ8)
    else
      some (.inr "java/lang/UnsupportedOperationException", (pn_up σ4 0 15 (σ4 1 7)))

def fX2_clear (w0 : Nat) (σ : pn_S) : Option (pn_S) :=
  some (pn_up (pn_up σ w0 6 (0 : Int32)) w0 7 (0 : Int32))

def fX2_copy_88 (w0 : Nat) (w1 : Nat)   (σ : pn_S) : Option (pn_S) :=
  some σ

def fX2_copy_54 (w0 : Nat) (w1 : Nat)   (σ : pn_S) : Option (pn_S) :=
  fX2_copy_88 w0 w1 (pn_up (pn_up (pn_ua σ (w0 + 4) (va_cpy (σ (w1 + 4)) (σ (w0 + 4)) 0 0 400)) w0 6 ((pn_ua σ (w0 + 4) (va_cpy (σ (w1 + 4)) (σ (w0 + 4)) 0 0 400)) w1 6)) w0 7 ((pn_up (pn_ua σ (w0 + 4) (va_cpy (σ (w1 + 4)) (σ (w0 + 4)) 0 0 400)) w0 6 ((pn_ua σ (w0 + 4) (va_cpy (σ (w1 + 4)) (σ (w0 + 4)) 0 0 400)) w1 6)) w1 7))

def fX2_copy (w0 : Nat) (w1 : Nat) (σ : pn_S) : Option (pn_S) :=
  fX2_copy_54 w0 w1 (pn_ua (pn_ua (pn_ua σ (w0 + 1) (va_cpy (σ (w1 + 1)) (σ (w0 + 1)) 0 0 12)) (w0 + 2) (va_cpy ((pn_ua σ (w0 + 1) (va_cpy (σ (w1 + 1)) (σ (w0 + 1)) 0 0 12)) (w1 + 2)) ((pn_ua σ (w0 + 1) (va_cpy (σ (w1 + 1)) (σ (w0 + 1)) 0 0 12)) (w0 + 2)) 0 0 12)) (w0 + 3) (va_cpy ((pn_ua (pn_ua σ (w0 + 1) (va_cpy (σ (w1 + 1)) (σ (w0 + 1)) 0 0 12)) (w0 + 2) (va_cpy ((pn_ua σ (w0 + 1) (va_cpy (σ (w1 + 1)) (σ (w0 + 1)) 0 0 12)) (w1 + 2)) ((pn_ua σ (w0 + 1) (va_cpy (σ (w1 + 1)) (σ (w0 + 1)) 0 0 12)) (w0 + 2)) 0 0 12)) (w1 + 3)) ((pn_ua (pn_ua σ (w0 + 1) (va_cpy (σ (w1 + 1)) (σ (w0 + 1)) 0 0 12)) (w0 + 2) (va_cpy ((pn_ua σ (w0 + 1) (va_cpy (σ (w1 + 1)) (σ (w0 + 1)) 0 0 12)) (w1 + 2)) ((pn_ua σ (w0 + 1) (va_cpy (σ (w1 + 1)) (σ (w0 + 1)) 0 0 12)) (w0 + 2)) 0 0 12)) (w0 + 3)) 0 0 13))

def fX10_law  (σ : pn_S) : Option ((Int32 ⊕ String) × pn_S) :=
  (fX7_useUp σ).bind fun σ1 =>
  (fX7_split σ1).bind fun σ2 =>
  (fX2_clear 21 σ2).bind fun σ3 =>
  pn_bi (fX4_readLines_36 (12 : Int32) σ3) fun x4 σ4 =>
  if x4 = 0 then
    some (.inr "java/lang/IllegalArgumentException", (pn_up σ4 0 15 (σ4 1 7)))
  else
    (fX2_copy 14 21 (pn_up σ4 0 15 (σ4 1 7))).bind fun σ6 =>
    (fX5_forget σ6).bind fun σ7 =>
    some (.inl (σ7 14 6), σ7)

def fX10_fault  (σ : pn_S) : Option (Int32) :=
  some (σ 0 15)

def fX8_has (v0 : Nat) (a1 : Int32) (σ : pn_S) : Option (Int32) :=
  if a1 < 0 then
    some (0 : Int32)
  else
    if (σ v0 2) ≤ a1 then
      some (0 : Int32)
    else
      some (1 : Int32)

def fX10_checkPerson (a1 : Int32) (σ : pn_S) : Option ((Unit ⊕ String) × pn_S) :=
  (fX8_has 5 a1 σ).bind fun x1 =>
  if x1 = 0 then
    some (.inr "java/lang/IndexOutOfBoundsException", σ)
  else
    some (.inl (), σ)

def fX8_of (v0 : Nat) (a1 : Int32) (a2 : Int32) (σ : pn_S) : Option (Int32) :=
  if a1 < 0 then
    some (-1 : Int32)
  else
    if (σ v0 2) ≤ a1 then
      some (-1 : Int32)
    else
      if a2 < 0 then
        some (-1 : Int32)
      else
        if a2 < (8 : Int32) then
          if pn_ib ((a1 * (8 : Int32)) + a2) 64 then
          some (σ (v0 + 1) (Int32.toNatClampNeg ((a1 * (8 : Int32)) + a2)))
          else none
        else
          some (-1 : Int32)

def fX10_person_15    (σ : pn_S) : Option ((Int32 ⊕ String) × pn_S) :=
  some (.inr "java/util/NoSuchElementException", σ)

def fX10_person (a1 : Int32) (a2 : Int32) (σ : pn_S) : Option ((Int32 ⊕ String) × pn_S) :=
  pn_bx (fX10_checkPerson a1 σ) fun _ σ1 =>
  if a2 < 0 then
    fX10_person_15 σ1
  else
    if a2 < (8 : Int32) then
      (fX8_of 5 a1 a2 σ1).bind fun x4 =>
      some (.inl x4, σ1)
    else
      fX10_person_15 σ1

def fX10_checkTwo (a1 : Int32) (a2 : Int32) (σ : pn_S) : Option ((Unit ⊕ String) × pn_S) :=
  pn_bx (fX10_checkPerson a1 σ) fun _ σ1 =>
  pn_bx (fX10_checkPerson a2 σ1) fun _ σ2 =>
  if a1 = a2 then
    some (.inr "java/lang/IllegalArgumentException", σ2)
  else
    some (.inl (), σ2)

def fX2_gatherFacts_145 (w0 : Nat) (v1 : Nat)  (s1 : Int32) (s2 : Int32) (σ : pn_S) : Option (pn_S) :=
  if pn_ib s1 27 then
  some (pn_up σ (w0 + 6) (Int32.toNatClampNeg s1) s2)
  else none

def fX2_gatherFacts_113 (w0 : Nat) (v1 : Nat)  (l3 : Int32) (s1 : Int32) (s2 : Int32) (σ : pn_S) : Option (pn_S) :=
  if pn_ib s1 27 then
  (fX8_of v1 l3 (6 : Int32) (pn_up σ (w0 + 6) (Int32.toNatClampNeg s1) s2)).bind fun x8 =>
  if ((pn_up (pn_up σ (w0 + 6) (Int32.toNatClampNeg s1) s2) (w0 + 6) 5 x8) v1 7) = 0 then
    fX2_gatherFacts_145 w0 v1 (23 : Int32) (0 : Int32) (pn_up (pn_up σ (w0 + 6) (Int32.toNatClampNeg s1) s2) (w0 + 6) 5 x8)
  else
    fX2_gatherFacts_145 w0 v1 (23 : Int32) (1 : Int32) (pn_up (pn_up σ (w0 + 6) (Int32.toNatClampNeg s1) s2) (w0 + 6) 5 x8)
  else none

def fX2_gatherFacts_80 (w0 : Nat) (v1 : Nat)  (l2 : Int32) (l3 : Int32) (s1 : Int32) (s2 : Int32) (σ : pn_S) : Option (pn_S) :=
  if pn_ib s1 27 then
  (fX8_of v1 l2 (5 : Int32) (pn_up (pn_up σ (w0 + 6) (Int32.toNatClampNeg s1) s2) (w0 + 6) 15 ((pn_up σ (w0 + 6) (Int32.toNatClampNeg s1) s2) v1 6))).bind fun x6 =>
  if x6 = l3 then
    fX2_gatherFacts_113 w0 v1 l3 (8 : Int32) (1 : Int32) (pn_up (pn_up σ (w0 + 6) (Int32.toNatClampNeg s1) s2) (w0 + 6) 15 ((pn_up σ (w0 + 6) (Int32.toNatClampNeg s1) s2) v1 6))
  else
    fX2_gatherFacts_113 w0 v1 l3 (8 : Int32) (0 : Int32) (pn_up (pn_up σ (w0 + 6) (Int32.toNatClampNeg s1) s2) (w0 + 6) 15 ((pn_up σ (w0 + 6) (Int32.toNatClampNeg s1) s2) v1 6))
  else none

def fX2_gatherFacts (w0 : Nat) (v1 : Nat) (a2 : Int32) (a3 : Int32) (σ : pn_S) : Option (pn_S) :=
  (fX8_of v1 a2 (1 : Int32) (pn_up σ (w0 + 6) 24 a2)).bind fun x1 =>
  (fX8_of v1 a2 (0 : Int32) (pn_up (pn_up σ (w0 + 6) 24 a2) (w0 + 6) 2 x1)).bind fun x2 =>
  (fX8_of v1 a3 (4 : Int32) (pn_up (pn_up (pn_up σ (w0 + 6) 24 a2) (w0 + 6) 2 x1) (w0 + 6) 25 x2)).bind fun x3 =>
  (fX8_of v1 a3 (3 : Int32) (pn_up (pn_up (pn_up (pn_up σ (w0 + 6) 24 a2) (w0 + 6) 2 x1) (w0 + 6) 25 x2) (w0 + 6) 7 x3)).bind fun x4 =>
  if ((pn_up (pn_up (pn_up (pn_up (pn_up σ (w0 + 6) 24 a2) (w0 + 6) 2 x1) (w0 + 6) 25 x2) (w0 + 6) 7 x3) (w0 + 6) 4 x4) v1 4) = a3 then
    fX2_gatherFacts_80 w0 v1 a2 a3 (26 : Int32) ((pn_up (pn_up (pn_up (pn_up (pn_up σ (w0 + 6) 24 a2) (w0 + 6) 2 x1) (w0 + 6) 25 x2) (w0 + 6) 7 x3) (w0 + 6) 4 x4) v1 5) (pn_up (pn_up (pn_up (pn_up (pn_up σ (w0 + 6) 24 a2) (w0 + 6) 2 x1) (w0 + 6) 25 x2) (w0 + 6) 7 x3) (w0 + 6) 4 x4)
  else
    fX2_gatherFacts_80 w0 v1 a2 a3 (26 : Int32) (0 : Int32) (pn_up (pn_up (pn_up (pn_up (pn_up σ (w0 + 6) 24 a2) (w0 + 6) 2 x1) (w0 + 6) 25 x2) (w0 + 6) 7 x3) (w0 + 6) 4 x4)

def fX2_push (w0 : Nat) (a1 : Int32) (σ : pn_S) : Option (pn_S) :=
  if (σ w0 8) < 0 then
    some σ
  else
    if (Int32.ofNat 32) ≤ (σ w0 8) then
      some σ
    else
      if pn_ib (σ w0 8) 32 then
      some (pn_up (pn_up σ (w0 + 5) (Int32.toNatClampNeg (σ w0 8)) a1) w0 8 (((pn_up σ (w0 + 5) (Int32.toNatClampNeg (σ w0 8)) a1) w0 8) + (1 : Int32)))
      else none

def fX2_pop (w0 : Nat) (σ : pn_S) : Option (Int32 × pn_S) :=
  if (σ w0 8) ≤ 0 then
    some ((0 : Int32), σ)
  else
    if (σ w0 8) ≤ (Int32.ofNat 32) then
      if pn_ib ((pn_up σ w0 8 ((σ w0 8) - (1 : Int32))) w0 8) 32 then
      some ((pn_up σ w0 8 ((σ w0 8) - (1 : Int32))) (w0 + 5) (Int32.toNatClampNeg ((pn_up σ w0 8 ((σ w0 8) - (1 : Int32))) w0 8)), (pn_up σ w0 8 ((σ w0 8) - (1 : Int32))))
      else none
    else
      some ((0 : Int32), σ)

def fX2_joined (a0 : Int32) (a1 : Int32) (a2 : Int32) (σ : pn_S) : Option (Int32) :=
  if a0 = (1021 : Int32) then
    some (a1 &&& a2)
  else if a0 = (2043 : Int32) then
    some (a1 + a2)
  else if a0 = (2060 : Int32) then
    if a2 ≤ a1 then
      some (0 : Int32)
    else
      some (1 : Int32)
  else if a0 = (2062 : Int32) then
    if a1 ≤ a2 then
      some (0 : Int32)
    else
      some (1 : Int32)
  else 
  some (a1 ||| a2)

def fX2_holds_155 (w0 : Nat)   (σ : pn_S) : Option (Int32 × pn_S) :=
  pn_bi (fX2_pop w0 σ) fun x3 σ3 =>
  if x3 = 0 then
    some ((0 : Int32), σ3)
  else
    some ((1 : Int32), σ3)

def fX2_holds_98 (w0 : Nat) (rec12 : Int32 → Int32 → pn_S → Option (Int32 × pn_S)) (l2 : Int32) (l3 : Int32) (l4 : Int32) (σ : pn_S) : Option (Int32 × pn_S) :=
  pn_bi (fX2_pop w0 σ) fun x12 σ12 =>
  pn_bi (fX2_pop w0 σ12) fun x13 σ13 =>
  (fX2_joined l4 x13 x12 σ13).bind fun x14 =>
  (fX2_push w0 x14 σ13).bind fun σ15 =>
  rec12 l2 (l3 + (1 : Int32)) σ15

def fX2_holds_146 (w0 : Nat) (rec12 : Int32 → Int32 → pn_S → Option (Int32 × pn_S)) (l2 : Int32) (l3 : Int32) (s1 : Int32) (σ : pn_S) : Option (Int32 × pn_S) :=
  (fX2_push w0 s1 σ).bind fun σ19 =>
  rec12 l2 (l3 + (1 : Int32)) σ19

def fX2_holds_12 (w0 : Nat) : Nat → Int32 → Int32 → pn_S → Option (Int32 × pn_S)
  | 0, _, _, _ => none
  | n9 + 1, l2, l3, σ =>
    if l3 < 0 then
      fX2_holds_155 w0 σ
    else
      if l2 ≤ l3 then
        fX2_holds_155 w0 σ
      else
        if (400 : Int32) ≤ l3 then
          fX2_holds_155 w0 σ
        else
          if pn_ib l3 400 then
          if (1000 : Int32) ≤ (σ (w0 + 4) (Int32.toNatClampNeg l3)) then
            if (σ (w0 + 4) (Int32.toNatClampNeg l3)) = (1022 : Int32) then
              pn_bi (fX2_pop w0 σ) fun x9 σ9 =>
              (fX2_push w0 ((1 : Int32) - x9) σ9).bind fun σ10 =>
              fX2_holds_12 w0 n9 l2 (l3 + (1 : Int32)) σ10
            else
              if (σ (w0 + 4) (Int32.toNatClampNeg l3)) = (1021 : Int32) then
                fX2_holds_98 w0 (fX2_holds_12 w0 n9) l2 l3 (σ (w0 + 4) (Int32.toNatClampNeg l3)) σ
              else
                if (σ (w0 + 4) (Int32.toNatClampNeg l3)) = (1020 : Int32) then
                  fX2_holds_98 w0 (fX2_holds_12 w0 n9) l2 l3 (σ (w0 + 4) (Int32.toNatClampNeg l3)) σ
                else
                  if (σ (w0 + 4) (Int32.toNatClampNeg l3)) < (2000 : Int32) then
                    if (1027 : Int32) ≤ (σ (w0 + 4) (Int32.toNatClampNeg l3)) then
                      fX2_holds_146 w0 (fX2_holds_12 w0 n9) l2 l3 (0 : Int32) σ
                    else
                      if pn_ib ((σ (w0 + 4) (Int32.toNatClampNeg l3)) - (1000 : Int32)) 27 then
                      fX2_holds_146 w0 (fX2_holds_12 w0 n9) l2 l3 (σ (w0 + 6) (Int32.toNatClampNeg ((σ (w0 + 4) (Int32.toNatClampNeg l3)) - (1000 : Int32)))) σ
                      else none
                  else
                    fX2_holds_98 w0 (fX2_holds_12 w0 n9) l2 l3 (σ (w0 + 4) (Int32.toNatClampNeg l3)) σ
          else
            (fX2_push w0 (σ (w0 + 4) (Int32.toNatClampNeg l3)) σ).bind fun σ20 =>
            fX2_holds_12 w0 n9 l2 (l3 + (1 : Int32)) σ20
          else none

def fX2_holds (w0 : Nat) (a1 : Int32) (a2 : Int32) (σ : pn_S) : Option (Int32 × pn_S) :=
  (fX2_push w0 (1 : Int32) (pn_up σ w0 8 (0 : Int32))).bind fun σ1 =>
  fX2_holds_12 w0 5000 a2 a1 σ1

def fX2_weigh_148 (w0 : Nat) (v1 : Nat)   (σ : pn_S) : Option (pn_S) :=
  (fJ9_max_7cf53 (0 : Int32) (σ w0 9) σ).bind fun x4 =>
  some (pn_up σ w0 9 x4)

def fX2_weigh_75 (w0 : Nat) (v1 : Nat) (rec25 : Int32 → pn_S → Option (pn_S)) (l4 : Int32) (s0 : Int32) (σ : pn_S) : Option (pn_S) :=
  if pn_ib l4 12 then
  if (σ (w0 + 1) (Int32.toNatClampNeg l4)) = (1016 : Int32) then
    rec25 (l4 + (1 : Int32)) (pn_up σ w0 9 ((σ w0 9) + s0))
  else
    if pn_ib l4 12 then
    if (σ (w0 + 1) (Int32.toNatClampNeg l4)) = (1017 : Int32) then
      rec25 (l4 + (1 : Int32)) (pn_up σ w0 9 ((σ w0 9) - s0))
    else
      rec25 (l4 + (1 : Int32)) (pn_up σ w0 10 ((σ w0 10) + s0))
    else none
  else none

def fX2_weigh_25 (w0 : Nat) (v1 : Nat) : Nat → Int32 → pn_S → Option (pn_S)
  | 0, _, _ => none
  | n9 + 1, l4, σ =>
    if (σ w0 6) ≤ l4 then
      fX2_weigh_148 w0 v1 σ
    else
      if (12 : Int32) ≤ l4 then
        fX2_weigh_148 w0 v1 σ
      else
        if pn_ib l4 13 then
        if pn_ib (l4 + (1 : Int32)) 13 then
        pn_bi (fX2_holds w0 (σ (w0 + 3) (Int32.toNatClampNeg l4)) (σ (w0 + 3) (Int32.toNatClampNeg (l4 + (1 : Int32)))) σ) fun x6 σ6 =>
        if x6 = 0 then
          fX2_weigh_75 w0 v1 (fX2_weigh_25 w0 v1 n9) l4 (0 : Int32) σ6
        else
          if pn_ib l4 12 then
          fX2_weigh_75 w0 v1 (fX2_weigh_25 w0 v1 n9) l4 (σ6 (w0 + 2) (Int32.toNatClampNeg l4)) σ6
          else none
        else none
        else none

def fX2_weigh (w0 : Nat) (v1 : Nat) (a2 : Int32) (a3 : Int32) (σ : pn_S) : Option (pn_S) :=
  (fX2_gatherFacts w0 v1 a2 a3 σ).bind fun σ1 =>
  (fX8_of v1 a2 (0 : Int32) σ1).bind fun x2 =>
  fX2_weigh_25 w0 v1 5000 (0 : Int32) (pn_up (pn_up σ1 w0 9 x2) w0 10 (1 : Int32))

def fX10_against (a1 : Int32) (a2 : Int32) (a3 : Int32) (σ : pn_S) : Option ((Int32 ⊕ String) × pn_S) :=
  pn_bx (fX10_checkTwo a1 a2 σ) fun _ σ1 =>
  (fX2_weigh 14 5 a1 a2 σ1).bind fun σ2 =>
  if a3 = 0 then
    some (.inl (σ2 14 9), σ2)
  else
    some (.inl (σ2 14 10), σ2)


def fJ9_min_7cf53 (a0 : Int32) (a1 : Int32) (σ : pn_S) : Option (Int32) :=
  if a1 < a0 then
    some a1
  else
    some a0

def fX5_remember (v0 : Nat) (σ : pn_S) : Option (pn_S) :=
  if pn_ib (σ 41 2) 12 then
  (fX8_copy (43 + 3 * Int32.toNatClampNeg (σ 41 2)) v0 σ).bind fun σ2 =>
  (fJ9_min_7cf53 (12 : Int32) (((pn_up σ2 41 2 (((σ2 41 2) + (1 : Int32)) - ((σ2 41 2) + (1 : Int32)) / (12 : Int32) * (12 : Int32))) 41 1) + (1 : Int32)) (pn_up σ2 41 2 (((σ2 41 2) + (1 : Int32)) - ((σ2 41 2) + (1 : Int32)) / (12 : Int32) * (12 : Int32)))).bind fun x3 =>
  some (pn_up (pn_up σ2 41 2 (((σ2 41 2) + (1 : Int32)) - ((σ2 41 2) + (1 : Int32)) / (12 : Int32) * (12 : Int32))) 41 1 x3)
  else none

def fX10_name (a1 : Int32) (σ : pn_S) : Option ((Int32 ⊕ String) × pn_S) :=
  pn_bx (fX10_checkPerson a1 σ) fun _ σ1 =>
  (fX8_of 5 a1 (4 : Int32) σ1).bind fun x2 =>
  if x2 = 0 then
    some (.inr "java/lang/IllegalStateException", σ1)
  else
    (fX5_remember 5 σ1).bind fun σ4 =>
    (fX8_aim 5 a1 σ4).bind fun σ5 =>
    some (.inl (σ4 5 4), σ5)

def fX10_begin_25   (l1 : Int32) (s0 : Int32) (σ : pn_S) : Option ((Int32 ⊕ String) × pn_S) :=
  pn_bi (fX8_tell 5 l1 (7 : Int32) s0 σ) fun x4 σ4 =>
  if x4 = s0 then
    some (.inl (0 : Int32), σ4)
  else
    some (.inl (1 : Int32), σ4)

def fX10_begin (a1 : Int32) (a2 : Int32) (σ : pn_S) : Option ((Int32 ⊕ String) × pn_S) :=
  pn_bx (fX10_checkPerson a1 σ) fun _ σ1 =>
  (fX5_remember 5 σ1).bind fun σ2 =>
  if a2 = 0 then
    fX10_begin_25 a1 (0 : Int32) σ2
  else
    fX10_begin_25 a1 (1 : Int32) σ2

def fX0_invite_8 (v0 : Nat) (w1 : Nat) : Nat → Int32 → Int32 → pn_S → Option (pn_S)
  | 0, _, _, _ => none
  | n9 + 1, l3, l4, σ =>
    if (σ v0 2) ≤ l4 then
      some σ
    else
      if (8 : Int32) ≤ l4 then
        some σ
      else
        if l4 = l3 then
          fX0_invite_8 v0 w1 n9 l3 (l4 + (1 : Int32)) σ
        else
          (fX2_weigh w1 v0 l4 l3 (pn_up σ 37 3 ((σ 37 3) ||| ((1 : Int32) <<< (l4 &&& 31))))).bind fun σ4 =>
          if pn_ib l4 8 then
          if pn_ib l4 8 then
          fX0_invite_8 v0 w1 n9 l3 (l4 + (1 : Int32)) (pn_up (pn_up σ4 38 (Int32.toNatClampNeg l4) (σ4 w1 9)) 39 (Int32.toNatClampNeg l4) ((pn_up σ4 38 (Int32.toNatClampNeg l4) (σ4 w1 9)) w1 10))
          else none
          else none

def fX0_invite (v0 : Nat) (w1 : Nat) (a3 : Int32) (σ : pn_S) : Option (pn_S) :=
  fX0_invite_8 v0 w1 5000 a3 (0 : Int32) (pn_up σ 37 3 (0 : Int32))

def fX8_beginners_4 (v0 : Nat) : Nat → Int32 → Int32 → pn_S → Option (Int32)
  | 0, _, _, _ => none
  | n9 + 1, l1, l2, σ =>
    if (σ v0 2) ≤ l2 then
      some l1
    else
      (fX8_of v0 l2 (7 : Int32) σ).bind fun x2 =>
      fX8_beginners_4 v0 n9 (l1 ||| (x2 <<< (l2 &&& 31))) (l2 + (1 : Int32)) σ

def fX8_beginners (v0 : Nat) (σ : pn_S) : Option (Int32) :=
  fX8_beginners_4 v0 5000 (0 : Int32) (0 : Int32) σ

def fJ7_fill_53178_5 (r0 : Nat) (n0 : Nat) : Nat → Int32 → Int32 → Int32 → pn_S → Option (pn_S)
  | 0, _, _, _, _ => none
  | n9 + 1, l1, l2, l3, σ =>
    if l3 ≤ l2 then
      some σ
    else
      if pn_ib l2 n0 then
      fJ7_fill_53178_5 r0 n0 n9 l1 (l2 + (1 : Int32)) l3 (pn_up σ r0 (Int32.toNatClampNeg l2) l1)
      else none

def fJ7_fill_53178 (r0 : Nat) (n0 : Nat) (a1 : Int32) (σ : pn_S) : Option (pn_S) :=
  fJ7_fill_53178_5 r0 n0 5000 a1 (0 : Int32) (Int32.ofNat n0) σ

def fJ6_bitCount_0f7a4_48   (l0 : Int32) (σ : pn_S) : Option (Int32) :=
  some (l0 &&& (63 : Int32))

def fJ6_bitCount_0f7a4_34   (l0 : Int32) (σ : pn_S) : Option (Int32) :=
  fJ6_bitCount_0f7a4_48 ((l0 + ((Int32.toUInt32 l0 >>> (Int32.toUInt32 (8 : Int32) &&& Int32.toUInt32 31)).toInt32)) + ((Int32.toUInt32 (l0 + ((Int32.toUInt32 l0 >>> (Int32.toUInt32 (8 : Int32) &&& Int32.toUInt32 31)).toInt32)) >>> (Int32.toUInt32 (16 : Int32) &&& Int32.toUInt32 31)).toInt32)) σ

def fJ6_bitCount_0f7a4_24   (l0 : Int32) (σ : pn_S) : Option (Int32) :=
  fJ6_bitCount_0f7a4_34 ((l0 + ((Int32.toUInt32 l0 >>> (Int32.toUInt32 (4 : Int32) &&& Int32.toUInt32 31)).toInt32)) &&& (252645135 : Int32)) σ

def fJ6_bitCount_0f7a4_10   (l0 : Int32) (σ : pn_S) : Option (Int32) :=
  fJ6_bitCount_0f7a4_24 ((l0 &&& (858993459 : Int32)) + (((Int32.toUInt32 l0 >>> (Int32.toUInt32 (2 : Int32) &&& Int32.toUInt32 31)).toInt32) &&& (858993459 : Int32))) σ

def fJ6_bitCount_0f7a4 (a0 : Int32) (σ : pn_S) : Option (Int32) :=
  fJ6_bitCount_0f7a4_10 (a0 - (((Int32.toUInt32 a0 >>> (Int32.toUInt32 (1 : Int32) &&& Int32.toUInt32 31)).toInt32) &&& (1431655765 : Int32))) σ

def fX10_hasBit (a0 : Int32) (a1 : Int32) (σ : pn_S) : Option (Int32) :=
  if ((a0 >>> (a1 &&& 31)) &&& (1 : Int32)) = (1 : Int32) then
    some (1 : Int32)
  else
    some (0 : Int32)

def fX0_admit_30 : Nat → Int32 → Int32 → Int32 → pn_S → Option (pn_S)
  | 0, _, _, _, _ => none
  | n9 + 1, l1, l2, l3, σ =>
    if (8 : Int32) ≤ l3 then
      some σ
    else
      (fX10_hasBit l1 l3 σ).bind fun x3 =>
      if x3 = 0 then
        fX0_admit_30 n9 l1 l2 (l3 + (1 : Int32)) σ
      else
        if pn_ib l3 8 then
        if pn_ib l3 8 then
        fX0_admit_30 n9 l1 l2 (l3 + (1 : Int32)) (pn_up (pn_up σ 40 (Int32.toNatClampNeg l3) l2) 37 6 (((pn_up σ 40 (Int32.toNatClampNeg l3) l2) 37 6) + ((pn_up σ 40 (Int32.toNatClampNeg l3) l2) 39 (Int32.toNatClampNeg l3))))
        else none
        else none

def fX0_admit (a1 : Int32) (a2 : Int32) (σ : pn_S) : Option (pn_S) :=
  (fJ6_bitCount_0f7a4 a1 (pn_up (pn_up σ 37 7 a2) 37 4 (((pn_up σ 37 7 a2) 37 4) ||| a1))).bind fun x1 =>
  fX0_admit_30 5000 a1 a2 (0 : Int32) (pn_up (pn_up (pn_up σ 37 7 a2) 37 4 (((pn_up σ 37 7 a2) 37 4) ||| a1)) 37 5 (((pn_up (pn_up σ 37 7 a2) 37 4 (((pn_up σ 37 7 a2) 37 4) ||| a1)) 37 5) + x1))

def fX0_willing_4 : Nat → Int32 → Int32 → Int32 → pn_S → Option (Int32)
  | 0, _, _, _, _ => none
  | n9 + 1, l1, l2, l3, σ =>
    if (8 : Int32) ≤ l3 then
      some l2
    else
      (fX10_hasBit l1 l3 σ).bind fun x2 =>
      if x2 = 0 then
        fX0_willing_4 n9 l1 l2 (l3 + (1 : Int32)) σ
      else
        if pn_ib l3 8 then
        if (σ 37 5) < (σ 38 (Int32.toNatClampNeg l3)) then
          fX0_willing_4 n9 l1 l2 (l3 + (1 : Int32)) σ
        else
          fX0_willing_4 n9 l1 (l2 ||| ((1 : Int32) <<< (l3 &&& 31))) (l3 + (1 : Int32)) σ
        else none

def fX0_willing (a1 : Int32) (σ : pn_S) : Option (Int32) :=
  fX0_willing_4 5000 a1 (0 : Int32) (0 : Int32) σ

def fX0_gather_43 : Nat → Int32 → Int32 → pn_S → Option (pn_S)
  | 0, _, _, _ => none
  | n9 + 1, l3, l4, σ =>
    if (8 : Int32) < l4 then
      some σ
    else
      (fX0_willing (l3 &&& ((σ 37 4) ^^^ (-1 : Int32))) σ).bind fun x4 =>
      if x4 = 0 then
        some σ
      else
        (fX0_admit x4 l4 σ).bind fun σ6 =>
        fX0_gather_43 n9 l3 (l4 + (1 : Int32)) σ6

def fX0_gather_32   (l1 : Int32) (l3 : Int32) (σ : pn_S) : Option (pn_S) :=
  (fX0_admit (l1 &&& l3) (0 : Int32) σ).bind fun σ2 =>
  fX0_gather_43 5000 l3 (1 : Int32) σ2

def fX0_gather (a1 : Int32) (a2 : Int32) (σ : pn_S) : Option (pn_S) :=
  (fJ7_fill_53178 40 8 (-1 : Int32) σ).bind fun σ1 =>
  fX0_gather_32 a1 (((pn_up (pn_up (pn_up σ1 37 4 (0 : Int32)) 37 5 (0 : Int32)) 37 6 (0 : Int32)) 37 3) &&& (a2 ^^^ (-1 : Int32))) (pn_up (pn_up (pn_up σ1 37 4 (0 : Int32)) 37 5 (0 : Int32)) 37 6 (0 : Int32))

def fX10_summonTo (a1 : Int32) (σ : pn_S) : Option (pn_S) :=
  (fX0_invite 5 14 a1 σ).bind fun σ1 =>
  (fX8_beginners 5 σ1).bind fun x2 =>
  (fX0_gather x2 (0 : Int32) σ1).bind fun σ3 =>
  some σ3

def fX10_priceOf  (σ : pn_S) : Option (Int32) :=
  some ((σ 5 11) * (σ 37 5))

def fX8_forgive (v0 : Nat) (σ : pn_S) : Option (pn_S) :=
  pn_bi (fX8_tell v0 (σ v0 4) (4 : Int32) (0 : Int32) σ) fun x1 σ1 =>
  (fX8_aim v0 (-1 : Int32) σ1).bind fun σ2 =>
  some σ2

def fX10_buyOff_34 (v0 : Nat) : Nat → Int32 → pn_S → Option (pn_S)
  | 0, _, _ => none
  | n9 + 1, l2, σ =>
    if (σ v0 2) ≤ l2 then
      (fX8_forgive v0 σ).bind fun σ4 =>
      some σ4
    else
      (fX10_hasBit (σ 37 4) l2 σ).bind fun x5 =>
      if x5 = 0 then
        fX10_buyOff_34 v0 n9 (l2 + (1 : Int32)) σ
      else
        (fX8_of v0 l2 (1 : Int32) σ).bind fun x7 =>
        (fJ9_max_7cf53 (0 : Int32) (x7 - (1 : Int32)) σ).bind fun x8 =>
        pn_bi (fX8_tell v0 l2 (1 : Int32) x8 σ) fun x9 σ9 =>
        fX10_buyOff_34 v0 n9 (l2 + (1 : Int32)) σ9

def fX10_buyOff (v0 : Nat) (σ : pn_S) : Option (pn_S) :=
  (fX8_of v0 (σ v0 4) (3 : Int32) σ).bind fun x1 =>
  pn_bi (fX8_tell v0 (σ v0 4) (3 : Int32) (x1 - ((σ v0 11) * (σ 37 5))) σ) fun x2 σ2 =>
  fX10_buyOff_34 v0 5000 (0 : Int32) σ2

def fX10_buy  (σ : pn_S) : Option ((Int32 ⊕ String) × pn_S) :=
  if (σ 5 4) = (-1 : Int32) then
    some (.inr "java/lang/IllegalStateException", σ)
  else
    (fX10_summonTo (σ 5 4) σ).bind fun σ2 =>
    (fX8_of 5 (σ 5 4) (3 : Int32) σ2).bind fun x3 =>
    (fX10_priceOf σ2).bind fun x4 =>
    if x4 ≤ x3 then
      (fX5_remember 5 σ2).bind fun σ6 =>
      (fX10_buyOff 5 σ6).bind fun σ7 =>
      (fX8_of 5 (σ 5 4) (3 : Int32) σ7).bind fun x8 =>
      some (.inl x8, σ7)
    else
      some (.inr "java/lang/IllegalStateException", σ2)

def fX10_feud_16   (l1 : Int32) (l2 : Int32) (σ : pn_S) : Option ((Int32 ⊕ String) × pn_S) :=
  (fX5_remember 5 σ).bind fun σ3 =>
  pn_bi (fX8_tell 5 l1 (5 : Int32) l2 σ3) fun x4 σ4 =>
  some (.inl x4, σ4)

def fX10_feud (a1 : Int32) (a2 : Int32) (σ : pn_S) : Option ((Int32 ⊕ String) × pn_S) :=
  pn_bx (fX10_checkPerson a1 σ) fun _ σ1 =>
  if a2 = (-1 : Int32) then
    fX10_feud_16 a1 a2 σ1
  else
    pn_bx (fX10_checkTwo a1 a2 σ1) fun _ σ5 =>
    fX10_feud_16 a1 a2 σ5

def fX10_checkNumber_10    (σ : pn_S) : Option ((Unit ⊕ String) × pn_S) :=
  some (.inr "java/lang/IllegalArgumentException", σ)

def fX10_checkNumber (a0 : Int32) (a1 : Int32) (a2 : Int32) (σ : pn_S) : Option ((Unit ⊕ String) × pn_S) :=
  if a0 < a1 then
    fX10_checkNumber_10 σ
  else
    if a0 ≤ a2 then
      some (.inl (), σ)
    else
      fX10_checkNumber_10 σ

def fX10_teach (a1 : Int32) (a2 : Int32) (σ : pn_S) : Option ((Int32 ⊕ String) × pn_S) :=
  pn_bx (fX10_checkPerson a1 σ) fun _ σ1 =>
  pn_bx (fX10_checkNumber a2 (0 : Int32) (8 : Int32) σ1) fun _ σ2 =>
  (fX5_remember 5 σ2).bind fun σ3 =>
  pn_bi (fX8_tell 5 a1 (0 : Int32) a2 σ3) fun x4 σ4 =>
  some (.inl x4, σ4)

def fX10_wrong (a1 : Int32) (a2 : Int32) (σ : pn_S) : Option ((Int32 ⊕ String) × pn_S) :=
  pn_bx (fX10_checkPerson a1 σ) fun _ σ1 =>
  pn_bx (fX10_checkNumber a2 (0 : Int32) (9 : Int32) σ1) fun _ σ2 =>
  (fX5_remember 5 σ2).bind fun σ3 =>
  pn_bi (fX8_tell 5 a1 (4 : Int32) a2 σ3) fun x4 σ4 =>
  some (.inl x4, σ4)

def fX10_give (a1 : Int32) (a2 : Int32) (σ : pn_S) : Option ((Int32 ⊕ String) × pn_S) :=
  pn_bx (fX10_checkPerson a1 σ) fun _ σ1 =>
  pn_bx (fX10_checkNumber a2 (1 : Int32) (999 : Int32) σ1) fun _ σ2 =>
  (fX5_remember 5 σ2).bind fun σ3 =>
  (fX8_of 5 a1 (3 : Int32) σ3).bind fun x4 =>
  (fJ9_min_7cf53 (9999 : Int32) (x4 + a2) σ3).bind fun x5 =>
  pn_bi (fX8_tell 5 a1 (3 : Int32) x5 σ3) fun x6 σ6 =>
  (fX8_of 5 a1 (3 : Int32) σ6).bind fun x7 =>
  some (.inl x7, σ6)

def fX8_draw (v0 : Nat) (σ : pn_S) : Option (Int32 × pn_S) :=
  some (((Int32.toUInt32 ((pn_up σ v0 12 (((1103515245 : Int32) * (σ v0 12)) + (12345 : Int32))) v0 12) >>> (Int32.toUInt32 (16 : Int32) &&& Int32.toUInt32 31)).toInt32) &&& (32767 : Int32), (pn_up σ v0 12 (((1103515245 : Int32) * (σ v0 12)) + (12345 : Int32))))

def fX10_fineAll_2 (v0 : Nat) : Nat → Int32 → pn_S → Option (pn_S)
  | 0, _, _ => none
  | n9 + 1, l2, σ =>
    if (σ v0 2) ≤ l2 then
      some σ
    else
      (fX10_hasBit (σ 37 4) l2 σ).bind fun x2 =>
      if x2 = 0 then
        fX10_fineAll_2 v0 n9 (l2 + (1 : Int32)) σ
      else
        (fX8_of v0 l2 (3 : Int32) σ).bind fun x4 =>
        (fJ9_max_7cf53 (0 : Int32) (x4 - (σ v0 10)) σ).bind fun x5 =>
        pn_bi (fX8_tell v0 l2 (3 : Int32) x5 σ) fun x6 σ6 =>
        fX10_fineAll_2 v0 n9 (l2 + (1 : Int32)) σ6

def fX10_fineAll (v0 : Nat) (σ : pn_S) : Option (pn_S) :=
  fX10_fineAll_2 v0 5000 (0 : Int32) σ

def fX10_endOfNoise_89 (v0 : Nat)  (l3 : Int32) (σ : pn_S) : Option (Int32 × pn_S) :=
  (fJ9_max_7cf53 (0 : Int32) (l3 - ((σ 37 6) / (4 : Int32))) σ).bind fun x5 =>
  pn_bi (fX8_tell v0 (σ v0 4) (2 : Int32) x5 σ) fun x6 σ6 =>
  some ((3 : Int32), σ6)

def fX10_endOfNoise_37 (v0 : Nat)   (σ : pn_S) : Option (Int32 × pn_S) :=
  (fX8_of v0 (σ v0 4) (2 : Int32) σ).bind fun x3 =>
  if (σ 37 6) < x3 then
    fX10_endOfNoise_89 v0 x3 σ
  else
    (fX8_of v0 (σ v0 4) (3 : Int32) σ).bind fun x7 =>
    if x7 < ((σ v0 11) * (σ 37 5)) then
      fX10_endOfNoise_89 v0 x3 σ
    else
      (fX10_buyOff v0 σ).bind fun σ9 =>
      some ((2 : Int32), σ9)

def fX10_endOfNoise (v0 : Nat) (a2 : Int32) (σ : pn_S) : Option (Int32 × pn_S) :=
  if (σ 37 5) = 0 then
    some ((0 : Int32), σ)
  else
    if a2 = 0 then
      fX10_endOfNoise_37 v0 σ
    else
      pn_bi (fX8_draw v0 σ) fun x10 σ10 =>
      if (σ10 v0 9) ≤ (x10 - x10 / (100 : Int32) * (100 : Int32)) then
        fX10_endOfNoise_37 v0 σ10
      else
        (fX10_fineAll v0 σ10).bind fun σ12 =>
        some ((1 : Int32), σ12)

def fX8_addRow_69 (v0 : Nat)   (σ : pn_S) : Option (pn_S) :=
  (fJ9_min_7cf53 (60 : Int32) (((pn_up σ v0 14 (((σ v0 14) + (1 : Int32)) - ((σ v0 14) + (1 : Int32)) / (60 : Int32) * (60 : Int32))) v0 13) + (1 : Int32)) (pn_up σ v0 14 (((σ v0 14) + (1 : Int32)) - ((σ v0 14) + (1 : Int32)) / (60 : Int32) * (60 : Int32)))).bind fun x3 =>
  some (pn_up (pn_up σ v0 14 (((σ v0 14) + (1 : Int32)) - ((σ v0 14) + (1 : Int32)) / (60 : Int32) * (60 : Int32))) v0 13 x3)

def fX8_addRow (v0 : Nat) (a1 : Int32) (a2 : Int32) (a3 : Int32) (σ : pn_S) : Option (pn_S) :=
  if ((σ v0 14) * (4 : Int32)) < 0 then
    some σ
  else
    if (((σ v0 14) * (4 : Int32)) + (4 : Int32)) ≤ (Int32.ofNat 240) then
      if pn_ib (((σ v0 14) * (4 : Int32)) + (0 : Int32)) 240 then
      if pn_ib (((σ v0 14) * (4 : Int32)) + (1 : Int32)) 240 then
      if pn_ib (((σ v0 14) * (4 : Int32)) + (2 : Int32)) 240 then
      if pn_ib (((σ v0 14) * (4 : Int32)) + (3 : Int32)) 240 then
      fX8_addRow_69 v0 (pn_up (pn_up (pn_up (pn_up σ (v0 + 2) (Int32.toNatClampNeg (((σ v0 14) * (4 : Int32)) + (0 : Int32))) (σ v0 6)) (v0 + 2) (Int32.toNatClampNeg (((σ v0 14) * (4 : Int32)) + (1 : Int32))) a1) (v0 + 2) (Int32.toNatClampNeg (((σ v0 14) * (4 : Int32)) + (2 : Int32))) a2) (v0 + 2) (Int32.toNatClampNeg (((σ v0 14) * (4 : Int32)) + (3 : Int32))) a3)
      else none
      else none
      else none
      else none
    else
      some σ

def fX8_bear (v0 : Nat) (σ : pn_S) : Option (pn_S) :=
  if (σ v0 4) = (-1 : Int32) then
    some σ
  else
    if ((pn_up σ v0 5 ((σ v0 5) + (1 : Int32))) v0 5) < (3 : Int32) then
      some (pn_up σ v0 5 ((σ v0 5) + (1 : Int32)))
    else
      (fX8_forgive v0 (pn_up σ v0 5 ((σ v0 5) + (1 : Int32)))).bind fun σ3 =>
      some σ3

def fX10_passNight_95 (v0 : Nat)  (l4 : Int32) (σ : pn_S) : Option (Int32 × pn_S) :=
  (fJ9_min_7cf53 (9999 : Int32) ((σ v0 6) + (1 : Int32)) σ).bind fun x3 =>
  some (l4, (pn_up σ v0 6 x3))

def fX10_passNight_24 (v0 : Nat)  (l2 : Int32) (s1 : Int32) (σ : pn_S) : Option (Int32 × pn_S) :=
  if pn_b01 s1 then
  if ((pn_up σ v0 7 s1) v0 4) = (-1 : Int32) then
    fX10_passNight_95 v0 (0 : Int32) (pn_up σ v0 7 s1)
  else
    (fX0_invite v0 14 ((pn_up σ v0 7 s1) v0 4) (pn_up σ v0 7 s1)).bind fun σ4 =>
    (fX8_beginners v0 σ4).bind fun x5 =>
    (fX0_gather x5 (0 : Int32) σ4).bind fun σ6 =>
    pn_bi (fX10_endOfNoise v0 l2 σ6) fun x7 σ7 =>
    (fX8_addRow v0 ((pn_up σ v0 7 s1) v0 4) (σ6 37 5) x7 σ7).bind fun σ8 =>
    (fX8_bear v0 σ8).bind fun σ9 =>
    fX10_passNight_95 v0 (σ6 37 5) σ9
  else none

def fX10_passNight_23 (v0 : Nat)  (l2 : Int32) (σ : pn_S) : Option (Int32 × pn_S) :=
  fX10_passNight_24 v0 l2 (0 : Int32) σ

def fX10_passNight (v0 : Nat) (a2 : Int32) (σ : pn_S) : Option (Int32 × pn_S) :=
  if a2 = 0 then
    fX10_passNight_23 v0 a2 σ
  else
    pn_bi (fX8_draw v0 σ) fun x10 σ10 =>
    if (σ10 v0 8) ≤ (x10 - x10 / (100 : Int32) * (100 : Int32)) then
      fX10_passNight_23 v0 a2 σ10
    else
      fX10_passNight_24 v0 a2 (1 : Int32) σ10

def fX10_nights_22 : Nat → Int32 → Int32 → Int32 → pn_S → Option ((Int32 ⊕ String) × pn_S)
  | 0, _, _, _, _ => none
  | n9 + 1, l1, l2, l3, σ =>
    if l1 ≤ l3 then
      some (.inl l2, σ)
    else
      pn_bi (fX10_passNight 5 (1 : Int32) σ) fun x4 σ4 =>
      fX10_nights_22 n9 l1 (l2 + x4) (l3 + (1 : Int32)) σ4

def fX10_nights (a1 : Int32) (σ : pn_S) : Option ((Int32 ⊕ String) × pn_S) :=
  pn_bx (fX10_checkNumber a1 (1 : Int32) (60 : Int32) σ) fun _ σ1 =>
  (fX5_remember 5 σ1).bind fun σ2 =>
  fX10_nights_22 5000 a1 (0 : Int32) (0 : Int32) σ2

def fX10_comes (a1 : Int32) (σ : pn_S) : Option ((Int32 ⊕ String) × pn_S) :=
  pn_bx (fX10_checkPerson a1 σ) fun _ σ1 =>
  (fX10_summonTo a1 σ1).bind fun σ2 =>
  some (.inl (σ2 37 4), σ2)

def fX10_rounds (a1 : Int32) (σ : pn_S) : Option ((Int32 ⊕ String) × pn_S) :=
  pn_bx (fX10_checkPerson a1 σ) fun _ σ1 =>
  (fX10_summonTo a1 σ1).bind fun σ2 =>
  some (.inl (σ2 37 7), σ2)

def fX0_roundOf (a1 : Int32) (σ : pn_S) : Option (Int32) :=
  if a1 < 0 then
    some (-1 : Int32)
  else
    if (8 : Int32) ≤ a1 then
      some (-1 : Int32)
    else
      if pn_ib a1 8 then
      some (σ 40 (Int32.toNatClampNeg a1))
      else none

def fX10_when (a1 : Int32) (a2 : Int32) (σ : pn_S) : Option ((Int32 ⊕ String) × pn_S) :=
  pn_bx (fX10_checkTwo a1 a2 σ) fun _ σ1 =>
  (fX10_summonTo a2 σ1).bind fun σ2 =>
  (fX0_roundOf a1 σ2).bind fun x3 =>
  some (.inl x3, σ2)

def fX10_loud (a1 : Int32) (σ : pn_S) : Option ((Int32 ⊕ String) × pn_S) :=
  pn_bx (fX10_checkPerson a1 σ) fun _ σ1 =>
  (fX10_summonTo a1 σ1).bind fun σ2 =>
  some (.inl (σ2 37 6), σ2)

def fX10_isPart (a0 : Int32) (a1 : Int32) (σ : pn_S) : Option (Int32) :=
  if (a0 &&& (a1 ^^^ (-1 : Int32))) = 0 then
    some (1 : Int32)
  else
    some (0 : Int32)

def fX10_sizeBy (a1 : Int32) (a2 : Int32) (σ : pn_S) : Option (Int32 × pn_S) :=
  (fX0_gather a1 a2 σ).bind fun σ1 =>
  some (σ1 37 5, σ1)

def fX10_fewest_46 : Nat → Int32 → Int32 → Int32 → Int32 → Int32 → pn_S → Option ((Int32 ⊕ String) × pn_S)
  | 0, _, _, _, _, _, _ => none
  | n9 + 1, l2, l3, l4, l5, l6, σ =>
    if l3 < l6 then
      some (.inl l4, σ)
    else
      (fX10_isPart l6 l3 σ).bind fun x5 =>
      if x5 = 0 then
        fX10_fewest_46 n9 l2 l3 l4 l5 (l6 + (1 : Int32)) σ
      else
        (fJ6_bitCount_0f7a4 l6 σ).bind fun x7 =>
        if l5 ≤ x7 then
          fX10_fewest_46 n9 l2 l3 l4 l5 (l6 + (1 : Int32)) σ
        else
          pn_bi (fX10_sizeBy l6 (0 : Int32) σ) fun x9 σ9 =>
          if x9 < l2 then
            fX10_fewest_46 n9 l2 l3 l4 l5 (l6 + (1 : Int32)) σ9
          else
            (fJ6_bitCount_0f7a4 l6 σ9).bind fun x11 =>
            fX10_fewest_46 n9 l2 l3 l6 x11 (l6 + (1 : Int32)) σ9

def fX10_fewest (a1 : Int32) (a2 : Int32) (σ : pn_S) : Option ((Int32 ⊕ String) × pn_S) :=
  pn_bx (fX10_checkPerson a1 σ) fun _ σ1 =>
  pn_bx (fX10_checkNumber a2 (0 : Int32) (8 : Int32) σ1) fun _ σ2 =>
  (fX0_invite 5 14 a1 σ2).bind fun σ3 =>
  fX10_fewest_46 5000 a2 (σ3 37 3) (-1 : Int32) (9 : Int32) (0 : Int32) σ3

def fX10_isCalmWithout (a1 : Int32) (a2 : Int32) (σ : pn_S) : Option (Int32 × pn_S) :=
  (fX8_beginners 5 σ).bind fun x1 =>
  (fX0_gather x1 a1 σ).bind fun σ2 =>
  (fX8_of 5 a2 (2 : Int32) σ2).bind fun x3 =>
  if x3 ≤ (σ2 37 6) then
    some ((0 : Int32), σ2)
  else
    some ((1 : Int32), σ2)

def fX10_keep_27 : Nat → Int32 → Int32 → Int32 → Int32 → Int32 → pn_S → Option ((Int32 ⊕ String) × pn_S)
  | 0, _, _, _, _, _, _ => none
  | n9 + 1, l1, l2, l3, l4, l5, σ =>
    if l2 < l5 then
      some (.inl l3, σ)
    else
      (fX10_isPart l5 l2 σ).bind fun x4 =>
      if x4 = 0 then
        fX10_keep_27 n9 l1 l2 l3 l4 (l5 + (1 : Int32)) σ
      else
        (fJ6_bitCount_0f7a4 l5 σ).bind fun x6 =>
        if l4 ≤ x6 then
          fX10_keep_27 n9 l1 l2 l3 l4 (l5 + (1 : Int32)) σ
        else
          pn_bi (fX10_isCalmWithout l5 l1 σ) fun x8 σ8 =>
          if x8 = 0 then
            fX10_keep_27 n9 l1 l2 l3 l4 (l5 + (1 : Int32)) σ8
          else
            (fJ6_bitCount_0f7a4 l5 σ8).bind fun x10 =>
            fX10_keep_27 n9 l1 l2 l5 x10 (l5 + (1 : Int32)) σ8

def fX10_keep (a1 : Int32) (σ : pn_S) : Option ((Int32 ⊕ String) × pn_S) :=
  pn_bx (fX10_checkPerson a1 σ) fun _ σ1 =>
  (fX10_summonTo a1 σ1).bind fun σ2 =>
  fX10_keep_27 5000 a1 (σ2 37 4) (-1 : Int32) (9 : Int32) (0 : Int32) σ2

def fX10_tips_71  (rec36 : Int32 → Int32 → Int32 → Int32 → Int32 → pn_S → Option ((Int32 ⊕ String) × pn_S)) (l2 : Int32) (l3 : Int32) (l4 : Int32) (l5 : Int32) (l6 : Int32) (s0 : Int32) (σ : pn_S) : Option ((Int32 ⊕ String) × pn_S) :=
  if l5 ≤ s0 then
    rec36 l2 l3 l4 l5 (l6 + (1 : Int32)) σ
  else
    rec36 l2 l3 l6 s0 (l6 + (1 : Int32)) σ

def fX10_tips_36 : Nat → Int32 → Int32 → Int32 → Int32 → Int32 → pn_S → Option ((Int32 ⊕ String) × pn_S)
  | 0, _, _, _, _, _, _ => none
  | n9 + 1, l2, l3, l4, l5, l6, σ =>
    if (σ 5 2) ≤ l6 then
      some (.inl l4, σ)
    else
      (fX10_hasBit l2 l6 σ).bind fun x5 =>
      if x5 = 0 then
        fX10_tips_71 (fX10_tips_36 n9) l2 l3 l4 l5 l6 l5 σ
      else
        pn_bi (fX10_sizeBy l3 ((1 : Int32) <<< (l6 &&& 31)) σ) fun x8 σ8 =>
        fX10_tips_71 (fX10_tips_36 n9) l2 l3 l4 l5 l6 x8 σ8

def fX10_tips (a1 : Int32) (σ : pn_S) : Option ((Int32 ⊕ String) × pn_S) :=
  pn_bx (fX10_checkPerson a1 σ) fun _ σ1 =>
  (fX10_summonTo a1 σ1).bind fun σ2 =>
  (fX8_beginners 5 σ2).bind fun x3 =>
  fX10_tips_36 5000 (σ2 37 4) x3 (-1 : Int32) (9 : Int32) (0 : Int32) σ2

def fX10_price (a1 : Int32) (σ : pn_S) : Option ((Int32 ⊕ String) × pn_S) :=
  pn_bx (fX10_checkPerson a1 σ) fun _ σ1 =>
  (fX10_summonTo a1 σ1).bind fun σ2 =>
  (fX10_priceOf σ2).bind fun x3 =>
  some (.inl x3, σ2)

def fX10_can (a1 : Int32) (σ : pn_S) : Option ((Int32 ⊕ String) × pn_S) :=
  pn_bx (fX10_checkPerson a1 σ) fun _ σ1 =>
  (fX10_summonTo a1 σ1).bind fun σ2 =>
  (fX8_of 5 a1 (3 : Int32) σ2).bind fun x3 =>
  (fX10_priceOf σ2).bind fun x4 =>
  if x3 < x4 then
    some (.inl (0 : Int32), σ2)
  else
    some (.inl (1 : Int32), σ2)

def fX10_wouldPay (a1 : Int32) (a2 : Int32) (σ : pn_S) : Option (Int32) :=
  (fX8_of 5 a1 (2 : Int32) σ).bind fun x1 =>
  if (σ 37 6) < x1 then
    some (0 : Int32)
  else
    (fX8_of 5 a1 (3 : Int32) σ).bind fun x3 =>
    if x3 < (a2 * (σ 37 5)) then
      some (0 : Int32)
    else
      some (1 : Int32)

def fX10_dearest_6 : Nat → Int32 → Int32 → Int32 → pn_S → Option (Int32 × pn_S)
  | 0, _, _, _, _ => none
  | n9 + 1, l1, l2, l3, σ =>
    if (σ 5 2) ≤ l3 then
      some (l1, σ)
    else
      (fX10_summonTo l3 σ).bind fun σ2 =>
      if (σ2 37 5) ≤ 0 then
        fX10_dearest_6 n9 l1 l2 (l3 + (1 : Int32)) σ2
      else
        (fX10_wouldPay l3 (σ2 5 11) σ2).bind fun x4 =>
        if x4 = 0 then
          fX10_dearest_6 n9 l1 l2 (l3 + (1 : Int32)) σ2
        else
          (fX10_priceOf σ2).bind fun x6 =>
          if x6 ≤ l2 then
            fX10_dearest_6 n9 l1 l2 (l3 + (1 : Int32)) σ2
          else
            (fX10_priceOf σ2).bind fun x8 =>
            fX10_dearest_6 n9 l3 x8 (l3 + (1 : Int32)) σ2

def fX10_dearest  (σ : pn_S) : Option (Int32 × pn_S) :=
  fX10_dearest_6 5000 (-1 : Int32) (-1 : Int32) (0 : Int32) σ

def fX10_sumPrices_63  (rec10 : Int32 → pn_S → Option (pn_S)) (rec28 : Int32 → Int32 → pn_S → Option (pn_S)) (l1 : Int32) (l2 : Int32) (s1 : Int32) (s2 : Int32) (s3 : Int32) (σ : pn_S) : Option (pn_S) :=
  if pn_ib s1 21 then
  rec28 l1 (l2 + (1 : Int32)) (pn_up σ 84 (Int32.toNatClampNeg s1) (s2 + s3))
  else none

def fX10_sumPrices_28  (rec10 : Int32 → pn_S → Option (pn_S)) : Nat → Int32 → Int32 → pn_S → Option (pn_S)
  | 0, _, _, _ => none
  | n9 + 1, l1, l2, σ =>
    if (20 : Int32) < l2 then
      rec10 (l1 + (1 : Int32)) σ
    else
      if pn_ib l2 21 then
      (fX10_wouldPay l1 l2 σ).bind fun x5 =>
      if x5 = 0 then
        fX10_sumPrices_63 rec10 (fX10_sumPrices_28 rec10 n9) l1 l2 l2 (σ 84 (Int32.toNatClampNeg l2)) (0 : Int32) σ
      else
        fX10_sumPrices_63 rec10 (fX10_sumPrices_28 rec10 n9) l1 l2 l2 (σ 84 (Int32.toNatClampNeg l2)) (l2 * (σ 37 5)) σ
      else none

def fX10_sumPrices_10 : Nat → Int32 → pn_S → Option (pn_S)
  | 0, _, _ => none
  | n9 + 1, l1, σ =>
    if (σ 5 2) ≤ l1 then
      some σ
    else
      (fX10_summonTo l1 σ).bind fun σ3 =>
      fX10_sumPrices_28 (fX10_sumPrices_10 n9) 5000 l1 (0 : Int32) σ3

def fX10_sumPrices  (σ : pn_S) : Option (pn_S) :=
  (fJ7_fill_53178 84 21 (0 : Int32) σ).bind fun σ1 =>
  fX10_sumPrices_10 5000 (0 : Int32) σ1

def fX10_brings (a1 : Int32) (σ : pn_S) : Option ((Int32 ⊕ String) × pn_S) :=
  pn_bx (fX10_checkNumber a1 (0 : Int32) (20 : Int32) σ) fun _ σ1 =>
  (fX10_sumPrices σ1).bind fun σ2 =>
  if pn_ib a1 21 then
  some (.inl (σ2 84 (Int32.toNatClampNeg a1)), σ2)
  else none

def fX10_best_8 : Nat → Int32 → Int32 → pn_S → Option (Int32 × pn_S)
  | 0, _, _, _ => none
  | n9 + 1, l1, l2, σ =>
    if (20 : Int32) < l2 then
      some (l1, σ)
    else
      if pn_ib l2 21 then
      if pn_ib l1 21 then
      if (σ 84 (Int32.toNatClampNeg l2)) ≤ (σ 84 (Int32.toNatClampNeg l1)) then
        fX10_best_8 n9 l1 (l2 + (1 : Int32)) σ
      else
        fX10_best_8 n9 l2 (l2 + (1 : Int32)) σ
      else none
      else none

def fX10_best  (σ : pn_S) : Option (Int32 × pn_S) :=
  (fX10_sumPrices σ).bind fun σ1 =>
  fX10_best_8 5000 (0 : Int32) (1 : Int32) σ1

def fX10_thirstOf_4 : Nat → Int32 → Int32 → pn_S → Option (Int32)
  | 0, _, _, _ => none
  | n9 + 1, l1, l2, σ =>
    if (σ 5 2) ≤ l2 then
      some l1
    else
      (fX10_hasBit (σ 37 4) l2 σ).bind fun x2 =>
      if x2 = 0 then
        fX10_thirstOf_4 n9 (l1 + (0 : Int32)) (l2 + (1 : Int32)) σ
      else
        (fX8_of 5 l2 (1 : Int32) σ).bind fun x4 =>
        fX10_thirstOf_4 n9 (l1 + x4) (l2 + (1 : Int32)) σ

def fX10_thirstOf  (σ : pn_S) : Option (Int32) :=
  fX10_thirstOf_4 5000 (0 : Int32) (0 : Int32) σ

def fX1_put (a1 : Int32) (a2 : Int32) (a3 : Int32) (a4 : Int32) (σ : pn_S) : Option (pn_S) :=
  if (((2 : Int32) * a1) + a2) < 0 then
    some σ
  else
    if (6 : Int32) ≤ (((2 : Int32) * a1) + a2) then
      some σ
    else
      if pn_ib (((2 : Int32) * a1) + a2) 6 then
      if pn_ib (((2 : Int32) * a1) + a2) 6 then
      some (pn_up (pn_up σ 82 (Int32.toNatClampNeg (((2 : Int32) * a1) + a2)) a3) 83 (Int32.toNatClampNeg (((2 : Int32) * a1) + a2)) a4)
      else none
      else none

def fX1_leastLoss_11 : Nat → Int32 → Int32 → Int32 → pn_S → Option (Int32)
  | 0, _, _, _, _ => none
  | n9 + 1, l1, l2, l3, σ =>
    if (3 : Int32) ≤ l3 then
      some l2
    else
      if pn_ib (((2 : Int32) * l3) + (l1 &&& (1 : Int32))) 6 then
      (fJ9_min_7cf53 l2 (σ 82 (Int32.toNatClampNeg (((2 : Int32) * l3) + (l1 &&& (1 : Int32))))) σ).bind fun x2 =>
      fX1_leastLoss_11 n9 l1 x2 (l3 + (1 : Int32)) σ
      else none

def fX1_leastLoss (a1 : Int32) (σ : pn_S) : Option (Int32) :=
  if pn_ib (a1 &&& (1 : Int32)) 6 then
  fX1_leastLoss_11 5000 a1 (σ 82 (Int32.toNatClampNeg (a1 &&& (1 : Int32)))) (1 : Int32) σ
  else none

def fX1_restingCells_4 : Nat → Int32 → Int32 → pn_S → Option (Int32)
  | 0, _, _, _ => none
  | n9 + 1, l1, l2, σ =>
    if (6 : Int32) ≤ l2 then
      some l1
    else
      if pn_ib l2 6 then
      (fX1_leastLoss (l2 - l2 / (2 : Int32) * (2 : Int32)) σ).bind fun x2 =>
      if (σ 82 (Int32.toNatClampNeg l2)) = x2 then
        if pn_ib l2 6 then
        if pn_ib (l2 ^^^ (1 : Int32)) 6 then
        if (σ 83 (Int32.toNatClampNeg l2)) < (σ 83 (Int32.toNatClampNeg (l2 ^^^ (1 : Int32)))) then
          fX1_restingCells_4 n9 l1 (l2 + (1 : Int32)) σ
        else
          fX1_restingCells_4 n9 (l1 ||| ((1 : Int32) <<< (l2 &&& 31))) (l2 + (1 : Int32)) σ
        else none
        else none
      else
        fX1_restingCells_4 n9 l1 (l2 + (1 : Int32)) σ
      else none

def fX1_restingCells  (σ : pn_S) : Option (Int32) :=
  fX1_restingCells_4 5000 (0 : Int32) (0 : Int32) σ

def fX10_rests (a1 : Int32) (σ : pn_S) : Option ((Int32 ⊕ String) × pn_S) :=
  pn_bx (fX10_checkPerson a1 σ) fun _ σ1 =>
  (fX10_summonTo a1 σ1).bind fun σ2 =>
  (fX10_priceOf σ2).bind fun x3 =>
  (fX10_thirstOf σ2).bind fun x4 =>
  (fX1_put (0 : Int32) (0 : Int32) x3 x4 σ2).bind fun σ5 =>
  (fX1_put (1 : Int32) (0 : Int32) (σ5 37 6) (σ5 37 6) σ5).bind fun σ6 =>
  (fX8_of 5 a1 (4 : Int32) σ6).bind fun x7 =>
  (fX1_put (2 : Int32) (0 : Int32) x7 (-1 : Int32) σ6).bind fun σ8 =>
  (fX1_put (0 : Int32) (1 : Int32) (1 : Int32) (0 : Int32) σ8).bind fun σ9 =>
  (fX1_put (1 : Int32) (1 : Int32) (0 : Int32) (0 : Int32) σ9).bind fun σ10 =>
  (fX1_put (2 : Int32) (1 : Int32) (0 : Int32) (0 : Int32) σ10).bind fun σ11 =>
  (fX1_restingCells σ11).bind fun x12 =>
  some (.inl x12, σ11)

def fX10_arePairs_28 : Nat → Int32 → Int32 → pn_S → Option (Int32)
  | 0, _, _, _ => none
  | n9 + 1, l1, l2, σ =>
    if (σ 1 4) ≤ (l2 + (1 : Int32)) then
      some (1 : Int32)
    else
      (fX7_byteAt l2 σ).bind fun x4 =>
      (fX7_byteAt (l2 + (1 : Int32)) σ).bind fun x5 =>
      (fX8_has 5 x4 σ).bind fun x6 =>
      if x6 = 0 then
        some (0 : Int32)
      else
        (fX8_has 5 x5 σ).bind fun x8 =>
        if x8 = 0 then
          some (0 : Int32)
        else
          if x4 = l1 then
            some (0 : Int32)
          else
            if x5 = l1 then
              some (0 : Int32)
            else
              if x4 = x5 then
                some (0 : Int32)
              else
                fX10_arePairs_28 n9 l1 (l2 + (2 : Int32)) σ

def fX10_arePairs (a1 : Int32) (σ : pn_S) : Option (Int32) :=
  if (40 : Int32) < (σ 1 4) then
    some (0 : Int32)
  else
    if ((σ 1 4) - (σ 1 4) / (2 : Int32) * (2 : Int32)) = 0 then
      fX10_arePairs_28 5000 a1 (0 : Int32) σ
    else
      some (0 : Int32)

def fX6_clear  (σ : pn_S) : Option (pn_S) :=
  (fJ7_fill_53178 80 8 (0 : Int32) σ).bind fun σ1 =>
  some (pn_up (pn_up σ1 79 1 (0 : Int32)) 79 2 (0 : Int32))

def fX10_fitsPairs_11 : Nat → Int32 → pn_S → Option (Int32 × pn_S)
  | 0, _, _ => none
  | n9 + 1, l2, σ =>
    if (σ 1 4) ≤ (l2 + (1 : Int32)) then
      some ((1 : Int32), σ)
    else
      (fX7_byteAt l2 σ).bind fun x3 =>
      (fX0_roundOf x3 σ).bind fun x4 =>
      (fX7_byteAt (l2 + (1 : Int32)) σ).bind fun x5 =>
      (fX0_roundOf x5 σ).bind fun x6 =>
      if x4 = (-1 : Int32) then
        some ((0 : Int32), σ)
      else
        if x6 = (-1 : Int32) then
          some ((0 : Int32), σ)
        else
          if x4 < x6 then
            fX10_fitsPairs_11 n9 (l2 + (2 : Int32)) σ
          else
            some ((0 : Int32), σ)

def fX10_fitsPairs (a1 : Int32) (σ : pn_S) : Option (Int32 × pn_S) :=
  (fX0_gather a1 (0 : Int32) σ).bind fun σ1 =>
  fX10_fitsPairs_11 5000 (0 : Int32) σ1

def fX6_add_59  (rec33 : Int32 → Int32 → pn_S → Option (pn_S)) (l1 : Int32) (l2 : Int32) (s1 : Int32) (s2 : Int32) (s3 : Int32) (σ : pn_S) : Option (pn_S) :=
  if pn_ib s1 8 then
  rec33 l1 (l2 + (1 : Int32)) (pn_up σ 80 (Int32.toNatClampNeg s1) (s2 + s3))
  else none

def fX6_add_33 : Nat → Int32 → Int32 → pn_S → Option (pn_S)
  | 0, _, _, _ => none
  | n9 + 1, l1, l2, σ =>
    if (8 : Int32) ≤ l2 then
      some σ
    else
      if pn_ib l2 8 then
      (fX10_hasBit l1 l2 σ).bind fun x3 =>
      if x3 = 0 then
        fX6_add_59 (fX6_add_33 n9) l1 l2 l2 (σ 80 (Int32.toNatClampNeg l2)) (0 : Int32) σ
      else
        fX6_add_59 (fX6_add_33 n9) l1 l2 l2 (σ 80 (Int32.toNatClampNeg l2)) (1 : Int32) σ
      else none

def fX6_add_18   (l1 : Int32) (s1 : Int32) (σ : pn_S) : Option (pn_S) :=
  fX6_add_33 5000 l1 (0 : Int32) (pn_up (pn_up σ 79 2 s1) 79 1 (((pn_up σ 79 2 s1) 79 1) + (1 : Int32)))

def fX6_add (a1 : Int32) (σ : pn_S) : Option (pn_S) :=
  if (σ 79 1) = 0 then
    fX6_add_18 a1 a1 σ
  else
    fX6_add_18 a1 ((σ 79 2) &&& a1) σ

def fX10_findSets_61 : Nat → Int32 → Int32 → pn_S → Option ((Unit ⊕ String) × pn_S)
  | 0, _, _, _ => none
  | n9 + 1, l2, l3, σ =>
    if l2 < l3 then
      some (.inl (), σ)
    else
      (fX10_isPart l3 l2 σ).bind fun x8 =>
      if x8 = 0 then
        fX10_findSets_61 n9 l2 (l3 + (1 : Int32)) σ
      else
        pn_bi (fX10_fitsPairs l3 σ) fun x10 σ10 =>
        if x10 = 0 then
          fX10_findSets_61 n9 l2 (l3 + (1 : Int32)) σ10
        else
          (fX6_add l3 σ10).bind fun σ12 =>
          fX10_findSets_61 n9 l2 (l3 + (1 : Int32)) σ12

def fX10_findSets (a1 : Int32) (σ : pn_S) : Option ((Unit ⊕ String) × pn_S) :=
  (fX7_useUp σ).bind fun σ1 =>
  pn_bx (fX10_checkPerson a1 σ1) fun _ σ2 =>
  (fX10_arePairs a1 σ2).bind fun x3 =>
  if x3 = 0 then
    some (.inr "java/lang/IllegalArgumentException", σ2)
  else
    (fX0_invite 5 14 a1 σ2).bind fun σ5 =>
    (fX6_clear σ5).bind fun σ6 =>
    fX10_findSets_61 5000 (σ5 37 3) (0 : Int32) σ6

def fX10_heard (a1 : Int32) (a2 : Int32) (σ : pn_S) : Option ((Int32 ⊕ String) × pn_S) :=
  pn_bx (fX10_findSets a1 σ) fun _ σ1 =>
  if a2 = 0 then
    some (.inl (σ1 79 1), σ1)
  else
    some (.inl (σ1 79 2), σ1)

def fX6_bestToAsk_69  (rec10 : Int32 → Int32 → Int32 → Int32 → pn_S → Option (Int32)) (l1 : Int32) (l4 : Int32) (l5 : Int32) (σ : pn_S) : Option (Int32) :=
  rec10 l1 l4 l5 (l4 + (1 : Int32)) σ

def fX6_bestToAsk_10 : Nat → Int32 → Int32 → Int32 → Int32 → pn_S → Option (Int32)
  | 0, _, _, _, _, _ => none
  | n9 + 1, l1, l2, l3, l4, σ =>
    if (8 : Int32) ≤ l4 then
      some l2
    else
      if (σ 79 1) < (2 : Int32) then
        some l2
      else
        if pn_ib l4 8 then
        if pn_ib l4 8 then
        (fJ9_max_7cf53 (σ 80 (Int32.toNatClampNeg l4)) ((σ 79 1) - (σ 80 (Int32.toNatClampNeg l4))) σ).bind fun x3 =>
        (fX10_hasBit l1 l4 σ).bind fun x4 =>
        if x4 = 0 then
          fX6_bestToAsk_10 n9 l1 l2 l3 (l4 + (1 : Int32)) σ
        else
          if l2 = (-1 : Int32) then
            fX6_bestToAsk_69 (fX6_bestToAsk_10 n9) l1 l4 x3 σ
          else
            if l3 ≤ x3 then
              fX6_bestToAsk_10 n9 l1 l2 l3 (l4 + (1 : Int32)) σ
            else
              fX6_bestToAsk_69 (fX6_bestToAsk_10 n9) l1 l4 x3 σ
        else none
        else none

def fX6_bestToAsk (a1 : Int32) (σ : pn_S) : Option (Int32) :=
  fX6_bestToAsk_10 5000 a1 (-1 : Int32) (σ 79 1) (0 : Int32) σ

def fX10_ask (a1 : Int32) (σ : pn_S) : Option ((Int32 ⊕ String) × pn_S) :=
  pn_bx (fX10_findSets a1 σ) fun _ σ1 =>
  (fX6_bestToAsk (σ1 37 3) σ1).bind fun x2 =>
  some (.inl x2, σ1)

def fX10_feuded_14 : Nat → Int32 → Int32 → Int32 → pn_S → Option ((Int32 ⊕ String) × pn_S)
  | 0, _, _, _, _ => none
  | n9 + 1, l1, l2, l3, σ =>
    if (σ 5 2) ≤ l3 then
      some (.inl l2, σ)
    else
      (fX10_hasBit (σ 37 4) l3 σ).bind fun x4 =>
      if x4 = 0 then
        fX10_feuded_14 n9 l1 l2 (l3 + (1 : Int32)) σ
      else
        (fX8_of 5 l3 (5 : Int32) σ).bind fun x6 =>
        if x6 = l1 then
          fX10_feuded_14 n9 l1 (l2 ||| ((1 : Int32) <<< (l3 &&& 31))) (l3 + (1 : Int32)) σ
        else
          fX10_feuded_14 n9 l1 l2 (l3 + (1 : Int32)) σ

def fX10_feuded (a1 : Int32) (σ : pn_S) : Option ((Int32 ⊕ String) × pn_S) :=
  pn_bx (fX10_checkPerson a1 σ) fun _ σ1 =>
  (fX10_summonTo a1 σ1).bind fun σ2 =>
  fX10_feuded_14 5000 a1 (0 : Int32) (0 : Int32) σ2

def fX10_feuds_4 : Nat → Int32 → Int32 → pn_S → Option (Int32)
  | 0, _, _, _ => none
  | n9 + 1, l1, l2, σ =>
    if (σ 5 2) ≤ l2 then
      some l1
    else
      (fX8_of 5 l2 (5 : Int32) σ).bind fun x2 =>
      if x2 ≤ l2 then
        fX10_feuds_4 n9 l1 (l2 + (1 : Int32)) σ
      else
        (fX8_of 5 x2 (5 : Int32) σ).bind fun x4 =>
        if x4 = l2 then
          fX10_feuds_4 n9 (l1 + (1 : Int32)) (l2 + (1 : Int32)) σ
        else
          fX10_feuds_4 n9 l1 (l2 + (1 : Int32)) σ

def fX10_feuds  (σ : pn_S) : Option (Int32) :=
  fX10_feuds_4 5000 (0 : Int32) (0 : Int32) σ

def fX10_ring_49   (l1 : Int32) (l2 : Int32) (σ : pn_S) : Option ((Int32 ⊕ String) × pn_S) :=
  if l2 = l1 then
    some (.inl (1 : Int32), σ)
  else
    some (.inl (0 : Int32), σ)

def fX10_ring_17 : Nat → Int32 → Int32 → Int32 → pn_S → Option ((Int32 ⊕ String) × pn_S)
  | 0, _, _, _, _ => none
  | n9 + 1, l1, l2, l3, σ =>
    if (8 : Int32) ≤ l3 then
      fX10_ring_49 l1 l2 σ
    else
      if l2 = (-1 : Int32) then
        fX10_ring_49 l1 l2 σ
      else
        if l2 = l1 then
          fX10_ring_49 l1 l2 σ
        else
          (fX8_of 5 l2 (5 : Int32) σ).bind fun x7 =>
          fX10_ring_17 n9 l1 x7 (l3 + (1 : Int32)) σ

def fX10_ring (a1 : Int32) (σ : pn_S) : Option ((Int32 ⊕ String) × pn_S) :=
  pn_bx (fX10_checkPerson a1 σ) fun _ σ1 =>
  (fX8_of 5 a1 (5 : Int32) σ1).bind fun x2 =>
  fX10_ring_17 5000 a1 x2 (0 : Int32) σ1

def fX10_hatersOf_4 : Nat → Int32 → Int32 → Int32 → pn_S → Option (Int32)
  | 0, _, _, _, _ => none
  | n9 + 1, l1, l2, l3, σ =>
    if (σ 5 2) ≤ l3 then
      some l2
    else
      (fX8_of 5 l3 (5 : Int32) σ).bind fun x2 =>
      if x2 = l1 then
        fX10_hatersOf_4 n9 l1 (l2 + (1 : Int32)) (l3 + (1 : Int32)) σ
      else
        fX10_hatersOf_4 n9 l1 (l2 + (0 : Int32)) (l3 + (1 : Int32)) σ

def fX10_hatersOf (a1 : Int32) (σ : pn_S) : Option (Int32) :=
  fX10_hatersOf_4 5000 a1 (0 : Int32) (0 : Int32) σ

def fX10_hated_6 : Nat → Int32 → Int32 → Int32 → pn_S → Option (Int32)
  | 0, _, _, _, _ => none
  | n9 + 1, l1, l2, l3, σ =>
    if (σ 5 2) ≤ l3 then
      some l1
    else
      (fX10_hatersOf l3 σ).bind fun x2 =>
      if x2 ≤ l2 then
        fX10_hated_6 n9 l1 l2 (l3 + (1 : Int32)) σ
      else
        fX10_hated_6 n9 l3 x2 (l3 + (1 : Int32)) σ

def fX10_hated  (σ : pn_S) : Option (Int32) :=
  fX10_hated_6 5000 (-1 : Int32) (0 : Int32) (0 : Int32) σ

def fX10_finesOf_4 : Nat → Int32 → Int32 → pn_S → Option (Int32)
  | 0, _, _, _ => none
  | n9 + 1, l1, l2, σ =>
    if (σ 5 2) ≤ l2 then
      some l1
    else
      (fX10_hasBit (σ 37 4) l2 σ).bind fun x2 =>
      if x2 = 0 then
        fX10_finesOf_4 n9 (l1 + (0 : Int32)) (l2 + (1 : Int32)) σ
      else
        (fX8_of 5 l2 (3 : Int32) σ).bind fun x4 =>
        (fJ9_min_7cf53 (σ 5 10) x4 σ).bind fun x5 =>
        fX10_finesOf_4 n9 (l1 + x5) (l2 + (1 : Int32)) σ

def fX10_finesOf  (σ : pn_S) : Option (Int32) :=
  fX10_finesOf_4 5000 (0 : Int32) (0 : Int32) σ

def fX10_watched (a1 : Int32) (σ : pn_S) : Option ((Int32 ⊕ String) × pn_S) :=
  pn_bx (fX10_checkPerson a1 σ) fun _ σ1 =>
  (fX10_summonTo a1 σ1).bind fun σ2 =>
  (fX10_finesOf σ2).bind fun x3 =>
  some (.inl x3, σ2)

def fX10_ripest_6 : Nat → Int32 → Int32 → Int32 → pn_S → Option (Int32 × pn_S)
  | 0, _, _, _, _ => none
  | n9 + 1, l1, l2, l3, σ =>
    if (σ 5 2) ≤ l3 then
      some (l1, σ)
    else
      (fX10_summonTo l3 σ).bind fun σ2 =>
      (fX10_finesOf σ2).bind fun x3 =>
      if x3 ≤ l2 then
        fX10_ripest_6 n9 l1 l2 (l3 + (1 : Int32)) σ2
      else
        fX10_ripest_6 n9 l3 x3 (l3 + (1 : Int32)) σ2

def fX10_ripest  (σ : pn_S) : Option (Int32 × pn_S) :=
  fX10_ripest_6 5000 (-1 : Int32) (0 : Int32) (0 : Int32) σ

def fX0_needsOf (a1 : Int32) (σ : pn_S) : Option (Int32) :=
  if a1 < 0 then
    some (0 : Int32)
  else
    if (8 : Int32) ≤ a1 then
      some (0 : Int32)
    else
      if pn_ib a1 8 then
      some (σ 38 (Int32.toNatClampNeg a1))
      else none

def fX10_brave_25 : Nat → Int32 → Int32 → Int32 → pn_S → Option ((Int32 ⊕ String) × pn_S)
  | 0, _, _, _, _ => none
  | n9 + 1, l1, l2, l3, σ =>
    if (σ 5 2) ≤ l3 then
      some (.inl l2, σ)
    else
      if l3 = l1 then
        fX10_brave_25 n9 l1 l2 (l3 + (1 : Int32)) σ
      else
        if l2 = (-1 : Int32) then
          fX10_brave_25 n9 l1 l3 (l3 + (1 : Int32)) σ
        else
          (fX0_needsOf l3 σ).bind fun x6 =>
          (fX0_needsOf l2 σ).bind fun x7 =>
          if x7 ≤ x6 then
            fX10_brave_25 n9 l1 l2 (l3 + (1 : Int32)) σ
          else
            fX10_brave_25 n9 l1 l3 (l3 + (1 : Int32)) σ

def fX10_brave (a1 : Int32) (σ : pn_S) : Option ((Int32 ⊕ String) × pn_S) :=
  pn_bx (fX10_checkPerson a1 σ) fun _ σ1 =>
  (fX0_invite 5 14 a1 σ1).bind fun σ2 =>
  fX10_brave_25 5000 a1 (-1 : Int32) (0 : Int32) σ2

def fX10_areAlike (a1 : Int32) (a2 : Int32) (σ : pn_S) : Option (Int32) :=
  (fX8_of 5 a1 (0 : Int32) σ).bind fun x1 =>
  (fX8_of 5 a2 (0 : Int32) σ).bind fun x2 =>
  if x1 = x2 then
    (fX8_of 5 a1 (1 : Int32) σ).bind fun x4 =>
    (fX8_of 5 a2 (1 : Int32) σ).bind fun x5 =>
    if x4 = x5 then
      (fX8_of 5 a1 (2 : Int32) σ).bind fun x7 =>
      (fX8_of 5 a2 (2 : Int32) σ).bind fun x8 =>
      if x7 = x8 then
        some (1 : Int32)
      else
        some (0 : Int32)
    else
      some (0 : Int32)
  else
    some (0 : Int32)

def fX10_alike_19  (rec4 : Int32 → Int32 → pn_S → Option (Int32)) : Nat → Int32 → Int32 → Int32 → pn_S → Option (Int32)
  | 0, _, _, _, _ => none
  | n9 + 1, l1, l2, l3, σ =>
    if (σ 5 2) ≤ l3 then
      rec4 l1 (l2 + (1 : Int32)) σ
    else
      (fX10_areAlike l2 l3 σ).bind fun x3 =>
      if x3 = 0 then
        fX10_alike_19 rec4 n9 l1 l2 (l3 + (1 : Int32)) σ
      else
        fX10_alike_19 rec4 n9 (l1 + (1 : Int32)) l2 (l3 + (1 : Int32)) σ

def fX10_alike_4 : Nat → Int32 → Int32 → pn_S → Option (Int32)
  | 0, _, _, _ => none
  | n9 + 1, l1, l2, σ =>
    if (σ 5 2) ≤ l2 then
      some l1
    else
      fX10_alike_19 (fX10_alike_4 n9) 5000 l1 l2 (l2 + (1 : Int32)) σ

def fX10_alike  (σ : pn_S) : Option (Int32) :=
  fX10_alike_4 5000 (0 : Int32) (0 : Int32) σ

def fX10_ends_26 : Nat → Int32 → pn_S → Option (Int32 × pn_S)
  | 0, _, _ => none
  | n9 + 1, l1, σ =>
    if (60 : Int32) < l1 then
      some ((-1 : Int32), σ)
    else
      pn_bi (fX10_passNight 8 (0 : Int32) σ) fun x4 σ4 =>
      if (σ4 8 4) = (-1 : Int32) then
        some (l1, σ4)
      else
        fX10_ends_26 n9 (l1 + (1 : Int32)) σ4

def fX10_ends  (σ : pn_S) : Option (Int32 × pn_S) :=
  if (σ 5 4) = (-1 : Int32) then
    some ((-1 : Int32), σ)
  else
    (fX8_copy 8 5 σ).bind fun σ2 =>
    fX10_ends_26 5000 (1 : Int32) σ2

def fX10_tryNights_22 : Nat → Int32 → Int32 → Int32 → pn_S → Option (pn_S)
  | 0, _, _, _, _ => none
  | n9 + 1, l1, l2, l4, σ =>
    if l1 ≤ l4 then
      some σ
    else
      pn_bi (fX10_passNight 8 l2 σ) fun x3 σ3 =>
      fX10_tryNights_22 n9 l1 l2 (l4 + (1 : Int32)) σ3

def fX10_tryNights (a1 : Int32) (a2 : Int32) (a3 : Int32) (σ : pn_S) : Option (pn_S) :=
  (fX8_copy 8 5 σ).bind fun σ1 =>
  fX10_tryNights_22 5000 a1 a2 (0 : Int32) (pn_up σ1 8 12 a3)

def fX10_spent (a1 : Int32) (a2 : Int32) (σ : pn_S) : Option ((Int32 ⊕ String) × pn_S) :=
  pn_bx (fX10_checkPerson a1 σ) fun _ σ1 =>
  pn_bx (fX10_checkNumber a2 (0 : Int32) (60 : Int32) σ1) fun _ σ2 =>
  (fX10_tryNights a2 (0 : Int32) (σ2 5 12) σ2).bind fun σ3 =>
  (fX8_of 5 a1 (3 : Int32) σ3).bind fun x4 =>
  (fX8_of 8 a1 (3 : Int32) σ3).bind fun x5 =>
  some (.inl (x4 - x5), σ3)

def fX10_calm (a1 : Int32) (σ : pn_S) : Option ((Int32 ⊕ String) × pn_S) :=
  pn_bx (fX10_checkNumber a1 (0 : Int32) (60 : Int32) σ) fun _ σ1 =>
  if (σ1 5 4) = (-1 : Int32) then
    some (.inl (0 : Int32), σ1)
  else
    (fX10_tryNights a1 (0 : Int32) (σ1 5 12) σ1).bind fun σ3 =>
    (fX8_of 8 (σ3 5 4) (2 : Int32) σ3).bind fun x4 =>
    some (.inl x4, σ3)

def fX0_pansOf (a1 : Int32) (σ : pn_S) : Option (Int32) :=
  if a1 < 0 then
    some (0 : Int32)
  else
    if (8 : Int32) ≤ a1 then
      some (0 : Int32)
    else
      if pn_ib a1 8 then
      some (σ 39 (Int32.toNatClampNeg a1))
      else none

def fX10_share (a1 : Int32) (a2 : Int32) (σ : pn_S) : Option ((Int32 ⊕ String) × pn_S) :=
  pn_bx (fX10_checkTwo a1 a2 σ) fun _ σ1 =>
  (fX10_summonTo a2 σ1).bind fun σ2 =>
  (fX10_hasBit (σ2 37 4) a1 σ2).bind fun x3 =>
  if x3 = 0 then
    some (.inl (0 : Int32), σ2)
  else
    if 0 < (σ2 37 6) then
      (fX0_pansOf a1 σ2).bind fun x6 =>
      if σ2 37 6 = 0 then none else
      some (.inl (((100 : Int32) * x6) / (σ2 37 6)), σ2)
    else
      some (.inl (0 : Int32), σ2)

def fX8_purses_4 (v0 : Nat) : Nat → Int32 → Int32 → pn_S → Option (Int32)
  | 0, _, _, _ => none
  | n9 + 1, l1, l2, σ =>
    if (σ v0 2) ≤ l2 then
      some l1
    else
      (fX8_of v0 l2 (3 : Int32) σ).bind fun x2 =>
      fX8_purses_4 v0 n9 (l1 + x2) (l2 + (1 : Int32)) σ

def fX8_purses (v0 : Nat) (σ : pn_S) : Option (Int32) :=
  fX8_purses_4 v0 5000 (0 : Int32) (0 : Int32) σ

def fX10_trial (a1 : Int32) (a2 : Int32) (σ : pn_S) : Option ((Int32 ⊕ String) × pn_S) :=
  pn_bx (fX10_checkNumber a1 (0 : Int32) (60 : Int32) σ) fun _ σ1 =>
  (fX10_tryNights a1 (1 : Int32) (σ1 5 12) σ1).bind fun σ2 =>
  if a2 = 0 then
    (fX8_purses 8 σ2).bind fun x4 =>
    some (.inl x4, σ2)
  else
    some (.inl (σ2 8 4), σ2)

def fX10_span_25 : Nat → Int32 → Int32 → Int32 → Int32 → pn_S → Option ((Int32 ⊕ String) × pn_S)
  | 0, _, _, _, _, _ => none
  | n9 + 1, l1, l2, l3, l4, σ =>
    if (6 : Int32) < l4 then
      some (.inl l3, σ)
    else
      (fX10_tryNights l1 (1 : Int32) l4 σ).bind fun σ5 =>
      (fX8_purses 8 σ5).bind fun x6 =>
      if l2 = 0 then
        (fJ9_min_7cf53 l3 x6 σ5).bind fun x8 =>
        fX10_span_25 n9 l1 l2 x8 (l4 + (1 : Int32)) σ5
      else
        (fJ9_max_7cf53 l3 x6 σ5).bind fun x9 =>
        fX10_span_25 n9 l1 l2 x9 (l4 + (1 : Int32)) σ5

def fX10_span (a1 : Int32) (a2 : Int32) (σ : pn_S) : Option ((Int32 ⊕ String) × pn_S) :=
  pn_bx (fX10_checkNumber a1 (0 : Int32) (60 : Int32) σ) fun _ σ1 =>
  (fX10_tryNights a1 (1 : Int32) (1 : Int32) σ1).bind fun σ2 =>
  (fX8_purses 8 σ2).bind fun x3 =>
  fX10_span_25 5000 a1 a2 x3 (2 : Int32) σ2

def fJ9_floorMod_7cf53 (a0 : Int32) (a1 : Int32) (σ : pn_S) : Option (Int32) :=
  if a1 = 0 then none else
  if 0 ≤ (a0 ^^^ a1) then
    some (a0 - a0 / a1 * a1)
  else
    if (a0 - a0 / a1 * a1) = 0 then
      some (a0 - a0 / a1 * a1)
    else
      some ((a0 - a0 / a1 * a1) + a1)

def fX8_row (v0 : Nat) (a1 : Int32) (a2 : Int32) (σ : pn_S) : Option (Int32) :=
  if a1 < 0 then
    some (-1 : Int32)
  else
    if (σ v0 13) ≤ a1 then
      some (-1 : Int32)
    else
      if a2 < 0 then
        some (-1 : Int32)
      else
        if a2 < (4 : Int32) then
          (fJ9_floorMod_7cf53 (((σ v0 14) - (1 : Int32)) - a1) (60 : Int32) σ).bind fun x5 =>
          if pn_ib ((x5 * (4 : Int32)) + a2) 240 then
          some (σ (v0 + 2) (Int32.toNatClampNeg ((x5 * (4 : Int32)) + a2)))
          else none
        else
          some (-1 : Int32)

def fX10_led_13 : Nat → Int32 → Int32 → Int32 → Int32 → Int32 → pn_S → Option ((Int32 ⊕ String) × pn_S)
  | 0, _, _, _, _, _, _ => none
  | n9 + 1, l1, l2, l3, l4, l5, σ =>
    if (σ 5 13) ≤ l5 then
      if l2 = 0 then
        some (.inl l3, σ)
      else
        some (.inl l4, σ)
    else
      (fX8_row 5 l5 (1 : Int32) σ).bind fun x4 =>
      if x4 = l1 then
        if l3 = 0 then
          (fX8_row 5 l5 (0 : Int32) σ).bind fun x7 =>
          fX10_led_13 n9 l1 l2 (l3 + (1 : Int32)) x7 (l5 + (1 : Int32)) σ
        else
          fX10_led_13 n9 l1 l2 (l3 + (1 : Int32)) l4 (l5 + (1 : Int32)) σ
      else
        fX10_led_13 n9 l1 l2 l3 l4 (l5 + (1 : Int32)) σ

def fX10_led (a1 : Int32) (a2 : Int32) (σ : pn_S) : Option ((Int32 ⊕ String) × pn_S) :=
  pn_bx (fX10_checkPerson a1 σ) fun _ σ1 =>
  fX10_led_13 5000 a1 a2 (0 : Int32) (-1 : Int32) (0 : Int32) σ1

def fX10_log_9    (σ : pn_S) : Option ((Int32 ⊕ String) × pn_S) :=
  some (.inr "java/util/NoSuchElementException", σ)

def fX10_log (a1 : Int32) (a2 : Int32) (σ : pn_S) : Option ((Int32 ⊕ String) × pn_S) :=
  if a2 < 0 then
    fX10_log_9 σ
  else
    if a2 < (4 : Int32) then
      (fX8_row 5 a1 a2 σ).bind fun x3 =>
      some (.inl x3, σ)
    else
      fX10_log_9 σ

def fX10_seed (a1 : Int32) (σ : pn_S) : Option (Int32 × pn_S) :=
  some (σ 5 12, (pn_up σ 5 12 a1))

def fX5_restore_13 (v0 : Nat)  (l2 : Int32) (σ : pn_S) : Option (Int32 × pn_S) :=
  if pn_ib l2 12 then
  if (σ 41 1) ≤ 0 then
    some ((0 : Int32), σ)
  else
    (fX8_copy v0 (43 + 3 * Int32.toNatClampNeg l2) σ).bind fun σ3 =>
    some ((1 : Int32), (pn_up (pn_up σ3 41 2 l2) 41 1 (((pn_up σ3 41 2 l2) 41 1) - (1 : Int32))))
  else none

def fX5_restore (v0 : Nat) (σ : pn_S) : Option (Int32 × pn_S) :=
  fX5_restore_13 v0 ((((σ 41 2) + (12 : Int32)) - (1 : Int32)) - (((σ 41 2) + (12 : Int32)) - (1 : Int32)) / (12 : Int32) * (12 : Int32)) σ

def fX10_undo  (σ : pn_S) : Option (Int32 × pn_S) :=
  pn_bi (fX5_restore 5 σ) fun x1 σ1 =>
  if pn_b01 x1 then some (x1, σ1) else none

def fX10_image  (σ : pn_S) : Option (pn_S) :=
  (fX8_copy 11 5 σ).bind fun σ1 =>
  (fX2_copy 28 14 σ1).bind fun σ2 =>
  some (pn_up σ2 0 14 (1 : Int32))

def fX10_back  (σ : pn_S) : Option (Int32 × pn_S) :=
  if (σ 0 14) = 0 then
    some ((0 : Int32), σ)
  else
    (fX8_copy 5 11 σ).bind fun σ2 =>
    (fX2_copy 14 28 σ2).bind fun σ3 =>
    (fX5_forget σ3).bind fun σ4 =>
    some ((1 : Int32), σ4)

def fX10_count (a1 : Int32) (σ : pn_S) : Option (Int32) :=
  if a1 = (0 : Int32) then
    some (σ 5 2)
  else if a1 = (1 : Int32) then
    some (σ 5 3)
  else if a1 = (2 : Int32) then
    some (σ 14 6)
  else if a1 = (3 : Int32) then
    some (σ 5 6)
  else if a1 = (4 : Int32) then
    if (σ 5 7) = 0 then
      some (0 : Int32)
    else
      some (1 : Int32)
  else if a1 = (5 : Int32) then
    some (σ 5 4)
  else if a1 = (6 : Int32) then
    some (σ 5 5)
  else if a1 = (7 : Int32) then
    some (σ 5 8)
  else if a1 = (8 : Int32) then
    some (σ 5 9)
  else if a1 = (9 : Int32) then
    some (σ 5 10)
  else if a1 = (10 : Int32) then
    some (σ 5 11)
  else if a1 = (11 : Int32) then
    (fX8_beginners 5 σ).bind fun x14 =>
    some x14
  else if a1 = (12 : Int32) then
    (fX8_purses 5 σ).bind fun x16 =>
    some x16
  else if a1 = (13 : Int32) then
    some (σ 5 13)
  else if a1 = (14 : Int32) then
    some (σ 41 1)
  else 
  some (-1 : Int32)

def fX11_thrown  (σ : pn_S) : Option (Int32) :=
  some (σ 85 0)

def fX11_throwsIf (a1 : Int32) (a2 : Int32) (σ : pn_S) : Option (Int32 × pn_S) :=
  if a1 = 0 then
    if pn_b01 a1 then some (a1, σ) else none
  else
    if pn_b01 a1 then some (a1, (pn_up σ 85 0 a2)) else none

def fX11_in (a0 : Int32) (a1 : Int32) (a2 : Int32) (σ : pn_S) : Option (Int32) :=
  if a0 < a1 then
    some (0 : Int32)
  else
    if a2 < a0 then
      some (0 : Int32)
    else
      some (1 : Int32)

def fX11_has (a0 : Int32) (a1 : Int32) (σ : pn_S) : Option (Int32) :=
  if ((a0 >>> (a1 &&& 31)) &&& (1 : Int32)) = (1 : Int32) then
    some (1 : Int32)
  else
    some (0 : Int32)

def fX11_image_7 : Nat → Int32 → pn_S → Option (pn_S)
  | 0, _, _ => none
  | n9 + 1, l1, σ =>
    if (1166 : Int32) ≤ l1 then
      some (pn_up σ 85 6 (1 : Int32))
    else
      if pn_ib l1 2015 then
      if pn_ib l1 1166 then
      fX11_image_7 n9 (l1 + (1 : Int32)) (pn_up σ 87 (Int32.toNatClampNeg l1) (σ 86 (Int32.toNatClampNeg l1)))
      else none
      else none

def fX11_image  (σ : pn_S) : Option (pn_S) :=
  fX11_image_7 5000 (0 : Int32) (pn_up σ 85 0 (0 : Int32))

def fX11_back_16 : Nat → Int32 → pn_S → Option (Int32 × pn_S)
  | 0, _, _ => none
  | n9 + 1, l1, σ =>
    if (1166 : Int32) ≤ l1 then
      some ((1 : Int32), (pn_up σ 85 7 (0 : Int32)))
    else
      if pn_ib l1 1166 then
      if pn_ib l1 2015 then
      fX11_back_16 n9 (l1 + (1 : Int32)) (pn_up σ 86 (Int32.toNatClampNeg l1) (σ 87 (Int32.toNatClampNeg l1)))
      else none
      else none

def fX11_back  (σ : pn_S) : Option (Int32 × pn_S) :=
  if ((pn_up σ 85 0 (0 : Int32)) 85 6) = 0 then
    some ((0 : Int32), (pn_up σ 85 0 (0 : Int32)))
  else
    fX11_back_16 5000 (0 : Int32) (pn_up σ 85 0 (0 : Int32))

def fX11_remembers_55 : Nat → Int32 → pn_S → Option (pn_S)
  | 0, _, _ => none
  | n9 + 1, l1, σ =>
    if (317 : Int32) ≤ l1 then
      some σ
    else
      if pn_ib l1 2015 then
      if pn_ib (((317 : Int32) * ((σ 85 7) - (1 : Int32))) + l1) 3804 then
      fX11_remembers_55 n9 (l1 + (1 : Int32)) (pn_up σ 90 (Int32.toNatClampNeg (((317 : Int32) * ((σ 85 7) - (1 : Int32))) + l1)) (σ 86 (Int32.toNatClampNeg l1)))
      else none
      else none

def fX11_remembers_11 : Nat → Int32 → pn_S → Option (pn_S)
  | 0, _, _ => none
  | n9 + 1, l1, σ =>
    if (3487 : Int32) ≤ l1 then
      fX11_remembers_55 5000 (0 : Int32) σ
    else
      if pn_ib (l1 + (317 : Int32)) 3804 then
      if pn_ib l1 3804 then
      fX11_remembers_11 n9 (l1 + (1 : Int32)) (pn_up σ 90 (Int32.toNatClampNeg l1) (σ 90 (Int32.toNatClampNeg (l1 + (317 : Int32)))))
      else none
      else none

def fX11_remembers  (σ : pn_S) : Option (pn_S) :=
  if (σ 85 7) = (12 : Int32) then
    fX11_remembers_11 5000 (0 : Int32) σ
  else
    fX11_remembers_55 5000 (0 : Int32) (pn_up σ 85 7 ((σ 85 7) + (1 : Int32)))

def fX11_undo_26 : Nat → Int32 → pn_S → Option (Int32 × pn_S)
  | 0, _, _ => none
  | n9 + 1, l1, σ =>
    if (317 : Int32) ≤ l1 then
      some ((1 : Int32), σ)
    else
      if pn_ib (((317 : Int32) * (σ 85 7)) + l1) 3804 then
      if pn_ib l1 2015 then
      fX11_undo_26 n9 (l1 + (1 : Int32)) (pn_up σ 86 (Int32.toNatClampNeg l1) (σ 90 (Int32.toNatClampNeg (((317 : Int32) * (σ 85 7)) + l1))))
      else none
      else none

def fX11_undo  (σ : pn_S) : Option (Int32 × pn_S) :=
  if ((pn_up σ 85 0 (0 : Int32)) 85 7) = 0 then
    some ((0 : Int32), (pn_up σ 85 0 (0 : Int32)))
  else
    fX11_undo_26 5000 (0 : Int32) (pn_up (pn_up σ 85 0 (0 : Int32)) 85 7 (((pn_up σ 85 0 (0 : Int32)) 85 7) - (1 : Int32)))

def fX11_people  (σ : pn_S) : Option (Int32) :=
  some (σ 86 0)

def fX11_everybody  (σ : pn_S) : Option (Int32) :=
  (fX11_people σ).bind fun x1 =>
  some (((1 : Int32) <<< (x1 &&& 31)) - (1 : Int32))

def fX11_at (a0 : Int32) (a1 : Int32) (σ : pn_S) : Option (Int32) :=
  some (((13 : Int32) + ((8 : Int32) * a0)) + a1)

def fX11_of (a1 : Int32) (a2 : Int32) (σ : pn_S) : Option (Int32) :=
  (fX11_at a1 a2 σ).bind fun x1 =>
  if pn_ib x1 2015 then
  some (σ 86 (Int32.toNatClampNeg x1))
  else none

def fX11_hasTarget  (σ : pn_S) : Option (Int32) :=
  if (σ 86 5) = (-1 : Int32) then
    some (0 : Int32)
  else
    some (1 : Int32)

def fX11_nobody (a1 : Int32) (σ : pn_S) : Option (Int32) :=
  (fX11_people σ).bind fun x1 =>
  (fX11_in a1 (0 : Int32) (x1 - (1 : Int32)) σ).bind fun x2 =>
  if x2 = 0 then
    some (1 : Int32)
  else
    some (0 : Int32)

def fX11_beginners_4 : Nat → Int32 → Int32 → pn_S → Option (Int32)
  | 0, _, _, _ => none
  | n9 + 1, l1, l2, σ =>
    (fX11_people σ).bind fun x1 =>
    if x1 ≤ l2 then
      some l1
    else
      (fX11_of l2 (7 : Int32) σ).bind fun x3 =>
      fX11_beginners_4 n9 (l1 ||| (x3 <<< (l2 &&& 31))) (l2 + (1 : Int32)) σ

def fX11_beginners  (σ : pn_S) : Option (Int32) :=
  fX11_beginners_4 5000 (0 : Int32) (0 : Int32) σ

def fX11_drawn (a1 : Int32) (σ : pn_S) : Option (Int32 × pn_S) :=
  if a1 = 0 then none else
  some (((((pn_up σ 86 12 (((1103515245 : Int32) * (σ 86 12)) + (12345 : Int32))) 86 12) >>> ((16 : Int32) &&& 31)) &&& (32767 : Int32)) - ((((pn_up σ 86 12 (((1103515245 : Int32) * (σ 86 12)) + (12345 : Int32))) 86 12) >>> ((16 : Int32) &&& 31)) &&& (32767 : Int32)) / a1 * a1, (pn_up σ 86 12 (((1103515245 : Int32) * (σ 86 12)) + (12345 : Int32))))

def fX11_feed_60 : Nat → Int32 → pn_S → Option (Int32 × pn_S)
  | 0, _, _ => none
  | n9 + 1, l6, σ =>
    if (20 : Int32) ≤ l6 then
      some ((pn_up σ 85 9 ((σ 85 9) + (20 : Int32))) 85 9, (pn_up σ 85 9 ((σ 85 9) + (20 : Int32))))
    else
      if pn_ib (l6 / (4 : Int32)) 5 then
      if pn_ib ((σ 85 9) + l6) 400 then
      fX11_feed_60 n9 (l6 + (1 : Int32)) (pn_up σ 91 (Int32.toNatClampNeg ((σ 85 9) + l6)) ((Int32.toInt8 ((Int32.toInt8 ((σ 92 (Int32.toNatClampNeg (l6 / (4 : Int32)))) >>> (((24 : Int32) - ((8 : Int32) * (l6 - l6 / (4 : Int32) * (4 : Int32)))) &&& 31))).toInt32)).toInt32))
      else none
      else none

def fX11_feed (a1 : Int32) (a2 : Int32) (a3 : Int32) (a4 : Int32) (a5 : Int32) (σ : pn_S) : Option (Int32 × pn_S) :=
  if (((pn_up σ 85 0 (0 : Int32)) 85 9) + (20 : Int32)) ≤ (400 : Int32) then
    fX11_feed_60 5000 (0 : Int32) (pn_up (pn_up (pn_up (pn_up (pn_up (pn_up σ 85 0 (0 : Int32)) 92 0 a1) 92 1 a2) 92 2 a3) 92 3 a4) 92 4 a5)
  else
    some ((-1 : Int32), (pn_up σ 85 0 (0 : Int32)))

def fX11_end (a1 : Int32) (σ : pn_S) : Option (Int32 × pn_S) :=
  if a1 < 0 then
    some ((0 : Int32), (pn_up σ 85 0 (0 : Int32)))
  else
    if a1 ≤ ((pn_up σ 85 0 (0 : Int32)) 85 9) then
      some ((1 : Int32), (pn_up (pn_up σ 85 0 (0 : Int32)) 85 9 a1))
    else
      some ((0 : Int32), (pn_up σ 85 0 (0 : Int32)))

def fX11_isAt (a1 : Int32) (a2 : Int32) (σ : pn_S) : Option (Int32) :=
  if (σ 85 11) ≤ (σ 85 10) then
    some (0 : Int32)
  else
    if pn_ib (σ 85 10) 400 then
    if (σ 91 (Int32.toNatClampNeg (σ 85 10))) < a1 then
      some (0 : Int32)
    else
      if pn_ib (σ 85 10) 400 then
      if a2 < (σ 91 (Int32.toNatClampNeg (σ 85 10))) then
        some (0 : Int32)
      else
        some (1 : Int32)
      else none
    else none

def fX11_blanks_0 : Nat → pn_S → Option (pn_S)
  | 0, _ => none
  | n9 + 1, σ =>
    (fX11_isAt (32 : Int32) (32 : Int32) σ).bind fun x1 =>
    if x1 = 0 then
      some (pn_up σ 85 12 (σ 85 10))
    else
      fX11_blanks_0 n9 (pn_up σ 85 10 ((σ 85 10) + (1 : Int32)))

def fX11_blanks  (σ : pn_S) : Option (pn_S) :=
  fX11_blanks_0 5000 σ

def fX11_letters_4 : Nat → pn_S → Option (pn_S)
  | 0, _ => none
  | n9 + 1, σ =>
    (fX11_isAt (97 : Int32) (122 : Int32) σ).bind fun x2 =>
    if x2 = 0 then
      some σ
    else
      fX11_letters_4 n9 (pn_up σ 85 10 ((σ 85 10) + (1 : Int32)))

def fX11_letters  (σ : pn_S) : Option (pn_S) :=
  (fX11_blanks σ).bind fun σ1 =>
  fX11_letters_4 5000 σ1

def fX11_isWord_24 (j0 : Nat) : Nat → Int32 → Int32 → pn_S → Option (Int32)
  | 0, _, _, _ => none
  | n9 + 1, l2, l3, σ =>
    if l2 = 0 then
      if pn_b01 l2 then some l2 else none
    else
      (fJ0_length_8abf5 j0 σ).bind fun x4 =>
      if x4 ≤ l3 then
        if pn_b01 l2 then some l2 else none
      else
        if pn_ib ((σ 85 12) + l3) 400 then
        (fJ0_charAt_5068e j0 l3 σ).bind fun x6 =>
        if (σ 91 (Int32.toNatClampNeg ((σ 85 12) + l3))) = x6 then
          fX11_isWord_24 j0 n9 (1 : Int32) (l3 + (1 : Int32)) σ
        else
          fX11_isWord_24 j0 n9 (0 : Int32) (l3 + (1 : Int32)) σ
        else none

def fX11_isWord (j0 : Nat) (σ : pn_S) : Option (Int32) :=
  (fJ0_length_8abf5 j0 σ).bind fun x1 =>
  if ((σ 85 10) - (σ 85 12)) = x1 then
    fX11_isWord_24 j0 5000 (1 : Int32) (0 : Int32) σ
  else
    fX11_isWord_24 j0 5000 (0 : Int32) (0 : Int32) σ

def fX11_passes (j0 : Nat) (σ : pn_S) : Option (Int32 × pn_S) :=
  (fX11_letters σ).bind fun σ1 =>
  (fX11_isWord j0 σ1).bind fun x2 =>
  if x2 = 0 then
    some ((0 : Int32), (pn_up σ1 85 10 (σ1 85 12)))
  else
    some ((1 : Int32), σ1)

def fX11_sign (a1 : Int32) (σ : pn_S) : Option (Int32 × pn_S) :=
  (fX11_blanks σ).bind fun σ1 =>
  (fX11_isAt a1 a1 σ1).bind fun x2 =>
  if x2 = 0 then
    some ((0 : Int32), σ1)
  else
    some ((1 : Int32), (pn_up σ1 85 10 ((σ1 85 10) + (1 : Int32))))

def fX11_number_51  (rec6 : Int32 → Int32 → Int32 → pn_S → Option (Int32 × pn_S)) (l1 : Int32) (l2 : Int32) (s0 : Int32) (σ : pn_S) : Option (Int32 × pn_S) :=
  rec6 l1 l2 s0 (pn_up σ 85 10 ((σ 85 10) + (1 : Int32)))

def fX11_number_6 : Nat → Int32 → Int32 → Int32 → pn_S → Option (Int32 × pn_S)
  | 0, _, _, _, _ => none
  | n9 + 1, l1, l2, l3, σ =>
    (fX11_isAt (48 : Int32) (57 : Int32) σ).bind fun x2 =>
    if x2 = 0 then
      if (σ 85 10) = (σ 85 12) then
        some ((-1 : Int32), σ)
      else
        if (3 : Int32) < ((σ 85 10) - (σ 85 12)) then
          some ((-1 : Int32), σ)
        else
          if l3 < l1 then
            some ((-1 : Int32), σ)
          else
            if l3 ≤ l2 then
              some (l3, σ)
            else
              some ((-1 : Int32), σ)
    else
      if (3 : Int32) ≤ ((σ 85 10) - (σ 85 12)) then
        fX11_number_51 (fX11_number_6 n9) l1 l2 l3 σ
      else
        if pn_ib (σ 85 10) 400 then
        fX11_number_51 (fX11_number_6 n9) l1 l2 ((((10 : Int32) * l3) + (σ 91 (Int32.toNatClampNeg (σ 85 10)))) - (48 : Int32)) σ
        else none

def fX11_number (a1 : Int32) (a2 : Int32) (σ : pn_S) : Option (Int32 × pn_S) :=
  (fX11_blanks σ).bind fun σ1 =>
  fX11_number_6 5000 a1 a2 (0 : Int32) σ1

def fX11_after (j0 : Nat) (a2 : Int32) (a3 : Int32) (σ : pn_S) : Option (Int32 × pn_S) :=
  (fX11_letters σ).bind fun σ1 =>
  (fX11_isWord j0 σ1).bind fun x2 =>
  if x2 = 0 then
    some ((-1 : Int32), σ1)
  else
    pn_bi (fX11_number a2 a3 σ1) fun x4 σ4 =>
    some (x4, σ4)

def fX11_fault  (σ : pn_S) : Option (Int32 × pn_S) :=
  some ((pn_up σ 85 0 (0 : Int32)) 85 14, (pn_up σ 85 0 (0 : Int32)))

def fX11_uses  (σ : pn_S) : Option (pn_S) :=
  some (pn_up (pn_up (pn_up (pn_up σ 85 0 (0 : Int32)) 85 11 ((pn_up σ 85 0 (0 : Int32)) 85 9)) 85 9 (0 : Int32)) 85 10 (0 : Int32))

def fX11_readNumber_29   (l4 : Int32) (s1 : Int32) (s2 : Int32) (σ : pn_S) : Option (Int32 × pn_S) :=
  if pn_ib s1 2015 then
  if l4 < 0 then
    some ((0 : Int32), (pn_up σ 86 (Int32.toNatClampNeg s1) s2))
  else
    some ((1 : Int32), (pn_up σ 86 (Int32.toNatClampNeg s1) s2))
  else none

def fX11_readNumber (a1 : Int32) (a2 : Int32) (a3 : Int32) (σ : pn_S) : Option (Int32 × pn_S) :=
  pn_bi (fX11_number a2 a3 σ) fun x1 σ1 =>
  if 0 ≤ x1 then
    fX11_readNumber_29 x1 a1 x1 σ1
  else
    if pn_ib a1 2015 then
    fX11_readNumber_29 x1 a1 (σ1 86 (Int32.toNatClampNeg a1)) σ1
    else none

def fX11_personTold  (σ : pn_S) : Option (Int32 × pn_S) :=
  (fX11_people σ).bind fun x1 =>
  pn_bi (fX11_number (0 : Int32) (x1 - (1 : Int32)) σ) fun x2 σ2 =>
  some (x2, σ2)

def fX11_readPerson_205   (s1 : Int32) (s2 : Int32) (σ : pn_S) : Option (Int32 × pn_S) :=
  if pn_ib s1 2015 then
  some ((1 : Int32), (pn_up (pn_up σ 86 (Int32.toNatClampNeg s1) s2) 86 0 (((pn_up σ 86 (Int32.toNatClampNeg s1) s2) 86 0) + (1 : Int32))))
  else none

def fX11_readPerson_180   (l1 : Int32) (s1 : Int32) (s2 : Int32) (σ : pn_S) : Option (Int32 × pn_S) :=
  if pn_ib s1 2015 then
  (fX11_at l1 (7 : Int32) (pn_up σ 86 (Int32.toNatClampNeg s1) s2)).bind fun x20 =>
  pn_bi (fX11_passes 7 (pn_up σ 86 (Int32.toNatClampNeg s1) s2)) fun x21 σ21 =>
  if x21 = 0 then
    fX11_readPerson_205 x20 (0 : Int32) σ21
  else
    fX11_readPerson_205 x20 (1 : Int32) σ21
  else none

def fX11_readPerson_79   (l1 : Int32) (l2 : Int32) (l3 : Int32) (l4 : Int32) (s0 : Int32) (σ : pn_S) : Option (Int32 × pn_S) :=
  if 0 ≤ s0 then
    (fX11_at l1 (0 : Int32) σ).bind fun x11 =>
    if pn_ib x11 2015 then
    (fX11_at l1 (1 : Int32) (pn_up σ 86 (Int32.toNatClampNeg x11) l2)).bind fun x12 =>
    if pn_ib x12 2015 then
    (fX11_at l1 (2 : Int32) (pn_up (pn_up σ 86 (Int32.toNatClampNeg x11) l2) 86 (Int32.toNatClampNeg x12) l3)).bind fun x13 =>
    if pn_ib x13 2015 then
    (fX11_at l1 (3 : Int32) (pn_up (pn_up (pn_up σ 86 (Int32.toNatClampNeg x11) l2) 86 (Int32.toNatClampNeg x12) l3) 86 (Int32.toNatClampNeg x13) l4)).bind fun x14 =>
    if pn_ib x14 2015 then
    (fX11_at l1 (4 : Int32) (pn_up (pn_up (pn_up (pn_up σ 86 (Int32.toNatClampNeg x11) l2) 86 (Int32.toNatClampNeg x12) l3) 86 (Int32.toNatClampNeg x13) l4) 86 (Int32.toNatClampNeg x14) s0)).bind fun x15 =>
    if pn_ib x15 2015 then
    (fX11_at l1 (5 : Int32) (pn_up (pn_up (pn_up (pn_up (pn_up σ 86 (Int32.toNatClampNeg x11) l2) 86 (Int32.toNatClampNeg x12) l3) 86 (Int32.toNatClampNeg x13) l4) 86 (Int32.toNatClampNeg x14) s0) 86 (Int32.toNatClampNeg x15) (0 : Int32))).bind fun x16 =>
    if pn_ib x16 2015 then
    (fX11_at l1 (6 : Int32) (pn_up (pn_up (pn_up (pn_up (pn_up (pn_up σ 86 (Int32.toNatClampNeg x11) l2) 86 (Int32.toNatClampNeg x12) l3) 86 (Int32.toNatClampNeg x13) l4) 86 (Int32.toNatClampNeg x14) s0) 86 (Int32.toNatClampNeg x15) (0 : Int32)) 86 (Int32.toNatClampNeg x16) (-1 : Int32))).bind fun x17 =>
    pn_bi (fX11_passes 6 (pn_up (pn_up (pn_up (pn_up (pn_up (pn_up σ 86 (Int32.toNatClampNeg x11) l2) 86 (Int32.toNatClampNeg x12) l3) 86 (Int32.toNatClampNeg x13) l4) 86 (Int32.toNatClampNeg x14) s0) 86 (Int32.toNatClampNeg x15) (0 : Int32)) 86 (Int32.toNatClampNeg x16) (-1 : Int32))) fun x18 σ18 =>
    if x18 = 0 then
      fX11_readPerson_180 l1 x17 (0 : Int32) σ18
    else
      fX11_readPerson_180 l1 x17 (1 : Int32) σ18
    else none
    else none
    else none
    else none
    else none
    else none
  else
    some ((0 : Int32), σ)

def fX11_readPerson_58   (l1 : Int32) (l2 : Int32) (l3 : Int32) (s0 : Int32) (σ : pn_S) : Option (Int32 × pn_S) :=
  if 0 ≤ s0 then
    pn_bi (fX11_after 5 (0 : Int32) (999 : Int32) σ) fun x9 σ9 =>
    fX11_readPerson_79 l1 l2 l3 s0 x9 σ9
  else
    fX11_readPerson_79 l1 l2 l3 s0 (-1 : Int32) σ

def fX11_readPerson_40   (l1 : Int32) (l2 : Int32) (s0 : Int32) (σ : pn_S) : Option (Int32 × pn_S) :=
  if 0 ≤ s0 then
    pn_bi (fX11_after 4 (0 : Int32) (99 : Int32) σ) fun x7 σ7 =>
    fX11_readPerson_58 l1 l2 s0 x7 σ7
  else
    fX11_readPerson_58 l1 l2 s0 (-1 : Int32) σ

def fX11_readPerson  (σ : pn_S) : Option (Int32 × pn_S) :=
  (fX11_people σ).bind fun x1 =>
  if x1 = (8 : Int32) then
    some ((0 : Int32), σ)
  else
    pn_bi (fX11_after 2 (0 : Int32) (8 : Int32) σ) fun x3 σ3 =>
    if 0 ≤ x3 then
      pn_bi (fX11_after 3 (0 : Int32) (9 : Int32) σ3) fun x5 σ5 =>
      fX11_readPerson_40 x1 x3 x5 σ5
    else
      fX11_readPerson_40 x1 x3 (-1 : Int32) σ3

def fX11_readWrong  (σ : pn_S) : Option (Int32 × pn_S) :=
  pn_bi (fX11_personTold σ) fun x1 σ1 =>
  if x1 < 0 then
    some ((0 : Int32), σ1)
  else
    (fX11_at x1 (4 : Int32) σ1).bind fun x3 =>
    pn_bi (fX11_readNumber x3 (0 : Int32) (9 : Int32) σ1) fun x4 σ4 =>
    if x4 = 0 then
      some ((0 : Int32), σ4)
    else
      some ((1 : Int32), σ4)

def fX11_readFeud_26   (l1 : Int32) (s0 : Int32) (σ : pn_S) : Option (Int32 × pn_S) :=
  if s0 < 0 then
    some ((0 : Int32), σ)
  else
    if s0 = l1 then
      some ((0 : Int32), σ)
    else
      (fX11_at l1 (5 : Int32) σ).bind fun x7 =>
      if pn_ib x7 2015 then
      some ((1 : Int32), (pn_up σ 86 (Int32.toNatClampNeg x7) s0))
      else none

def fX11_readFeud  (σ : pn_S) : Option (Int32 × pn_S) :=
  pn_bi (fX11_personTold σ) fun x1 σ1 =>
  if 0 ≤ x1 then
    (fX11_people σ1).bind fun x3 =>
    pn_bi (fX11_after 10 (0 : Int32) (x3 - (1 : Int32)) σ1) fun x4 σ4 =>
    fX11_readFeud_26 x1 x4 σ4
  else
    fX11_readFeud_26 x1 (-1 : Int32) σ1

def fX11_readTarget  (σ : pn_S) : Option (Int32 × pn_S) :=
  pn_bi (fX11_personTold σ) fun x1 σ1 =>
  if 0 ≤ x1 then
    some ((1 : Int32), (pn_up (pn_up σ1 86 5 x1) 86 6 (0 : Int32)))
  else
    some ((0 : Int32), σ1)

def fX11_readVillageLine  (σ : pn_S) : Option (Int32 × pn_S) :=
  (fX11_isWord 1 σ).bind fun x1 =>
  if x1 = 0 then
    (fX11_isWord 8 σ).bind fun x3 =>
    if x3 = 0 then
      (fX11_isWord 9 σ).bind fun x5 =>
      if x5 = 0 then
        (fX11_isWord 11 σ).bind fun x7 =>
        if x7 = 0 then
          (fX11_isWord 12 σ).bind fun x9 =>
          if x9 = 0 then
            (fX11_isWord 13 σ).bind fun x11 =>
            if x11 = 0 then
              (fX11_isWord 14 σ).bind fun x13 =>
              if x13 = 0 then
                (fX11_isWord 15 σ).bind fun x15 =>
                if x15 = 0 then
                  (fX11_isWord 16 σ).bind fun x17 =>
                  if x17 = 0 then
                    some ((0 : Int32), σ)
                  else
                    pn_bi (fX11_readNumber (3 : Int32) (0 : Int32) (999 : Int32) σ) fun x19 σ19 =>
                    if x19 = 0 then
                      some ((0 : Int32), σ19)
                    else
                      some ((1 : Int32), σ19)
                else
                  pn_bi (fX11_readNumber (10 : Int32) (0 : Int32) (20 : Int32) σ) fun x21 σ21 =>
                  if pn_b01 x21 then some (x21, σ21) else none
              else
                pn_bi (fX11_readNumber (9 : Int32) (0 : Int32) (30 : Int32) σ) fun x22 σ22 =>
                if pn_b01 x22 then some (x22, σ22) else none
            else
              pn_bi (fX11_readNumber (8 : Int32) (0 : Int32) (100 : Int32) σ) fun x23 σ23 =>
              if pn_b01 x23 then some (x23, σ23) else none
          else
            pn_bi (fX11_readNumber (7 : Int32) (0 : Int32) (100 : Int32) σ) fun x24 σ24 =>
            if pn_b01 x24 then some (x24, σ24) else none
        else
          pn_bi (fX11_readTarget σ) fun x25 σ25 =>
          if pn_b01 x25 then some (x25, σ25) else none
      else
        pn_bi (fX11_readFeud σ) fun x26 σ26 =>
        if pn_b01 x26 then some (x26, σ26) else none
    else
      pn_bi (fX11_readWrong σ) fun x27 σ27 =>
      if pn_b01 x27 then some (x27, σ27) else none
  else
    pn_bi (fX11_readPerson σ) fun x28 σ28 =>
    if pn_b01 x28 then some (x28, σ28) else none

def fX11_emits_44    (σ : pn_S) : Option (pn_S) :=
  some σ

def fX11_emits (a1 : Int32) (a2 : Int32) (σ : pn_S) : Option (pn_S) :=
  if pn_ib ((1215 : Int32) + ((2 : Int32) * (σ 85 16))) 2015 then
  if pn_ib (((1215 : Int32) + ((2 : Int32) * ((pn_up σ 86 (Int32.toNatClampNeg ((1215 : Int32) + ((2 : Int32) * (σ 85 16)))) a1) 85 16))) + (1 : Int32)) 2015 then
  fX11_emits_44 (pn_up (pn_up (pn_up σ 86 (Int32.toNatClampNeg ((1215 : Int32) + ((2 : Int32) * (σ 85 16)))) a1) 86 (Int32.toNatClampNeg (((1215 : Int32) + ((2 : Int32) * ((pn_up σ 86 (Int32.toNatClampNeg ((1215 : Int32) + ((2 : Int32) * (σ 85 16)))) a1) 85 16))) + (1 : Int32))) a2) 85 16 (((pn_up (pn_up σ 86 (Int32.toNatClampNeg ((1215 : Int32) + ((2 : Int32) * (σ 85 16)))) a1) 86 (Int32.toNatClampNeg (((1215 : Int32) + ((2 : Int32) * ((pn_up σ 86 (Int32.toNatClampNeg ((1215 : Int32) + ((2 : Int32) * (σ 85 16)))) a1) 85 16))) + (1 : Int32))) a2) 85 16) + (1 : Int32)))
  else none
  else none

def fX11_wordOfPart  (σ : pn_S) : Option (Int32) :=
  (fX11_isWord 23 σ).bind fun x1 =>
  if x1 = 0 then
    (fX11_isWord 3 σ).bind fun x3 =>
    if x3 = 0 then
      (fX11_isWord 24 σ).bind fun x5 =>
      if x5 = 0 then
        (fX11_isWord 8 σ).bind fun x7 =>
        if x7 = 0 then
          (fX11_isWord 5 σ).bind fun x9 =>
          if x9 = 0 then
            (fX11_isWord 25 σ).bind fun x11 =>
            if x11 = 0 then
              (fX11_isWord 16 σ).bind fun x13 =>
              if x13 = 0 then
                some (-1 : Int32)
              else
                some (6 : Int32)
            else
              some (5 : Int32)
          else
            some (4 : Int32)
        else
          some (3 : Int32)
      else
        some (2 : Int32)
    else
      some (1 : Int32)
  else
    some (0 : Int32)

def fX11_readPart_61   (l2 : Int32) (s1 : Int32) (s2 : Int32) (σ : pn_S) : Option (Int32 × pn_S) :=
  (fX11_emits s1 s2 σ).bind fun σ7 =>
  if l2 < 0 then
    some ((0 : Int32), σ7)
  else
    some ((1 : Int32), σ7)

def fX11_readPart_52   (l1 : Int32) (l2 : Int32) (s1 : Int32) (σ : pn_S) : Option (Int32 × pn_S) :=
  if l1 = 0 then
    fX11_readPart_61 l2 s1 (0 : Int32) σ
  else
    fX11_readPart_61 l2 s1 l2 σ

def fX11_readPart_40   (l1 : Int32) (s0 : Int32) (σ : pn_S) : Option (Int32 × pn_S) :=
  if l1 = 0 then
    fX11_readPart_52 l1 s0 s0 σ
  else
    fX11_readPart_52 l1 s0 (10 : Int32) σ

def fX11_readPart_20   (s0 : Int32) (σ : pn_S) : Option (Int32 × pn_S) :=
  if s0 = 0 then
    (fX11_wordOfPart σ).bind fun x4 =>
    fX11_readPart_40 s0 x4 σ
  else
    pn_bi (fX11_number (0 : Int32) (999 : Int32) σ) fun x9 σ9 =>
    fX11_readPart_40 s0 x9 σ9

def fX11_readPart  (σ : pn_S) : Option (Int32 × pn_S) :=
  (fX11_letters σ).bind fun σ1 =>
  if (σ1 85 10) = (σ1 85 12) then
    fX11_readPart_20 (1 : Int32) σ1
  else
    fX11_readPart_20 (0 : Int32) σ1

def fX11_readSum_9 : Nat → pn_S → Option (Int32 × pn_S)
  | 0, _ => none
  | n9 + 1, σ =>
    pn_bi (fX11_sign (43 : Int32) σ) fun x3 σ3 =>
    if x3 = 0 then
      some ((1 : Int32), σ3)
    else
      pn_bi (fX11_readPart σ3) fun x5 σ5 =>
      if x5 = 0 then
        some ((0 : Int32), σ5)
      else
        (fX11_emits (11 : Int32) (0 : Int32) σ5).bind fun σ7 =>
        fX11_readSum_9 n9 σ7

def fX11_readSum  (σ : pn_S) : Option (Int32 × pn_S) :=
  pn_bi (fX11_readPart σ) fun x1 σ1 =>
  if x1 = 0 then
    some ((0 : Int32), σ1)
  else
    fX11_readSum_9 5000 σ1

def fX11_readTag_69   (l1 : Int32) (σ : pn_S) : Option (Int32 × pn_S) :=
  if l1 < 0 then
    some ((0 : Int32), σ)
  else
    some ((1 : Int32), σ)

def fX11_readTag_47   (s0 : Int32) (σ : pn_S) : Option (Int32 × pn_S) :=
  if s0 < 0 then
    fX11_readTag_69 s0 (pn_up σ 85 10 (σ 85 12))
  else
    (fX11_emits s0 (0 : Int32) σ).bind fun σ10 =>
    fX11_readTag_69 s0 σ10

def fX11_readTag  (σ : pn_S) : Option (Int32 × pn_S) :=
  (fX11_letters σ).bind fun σ1 =>
  (fX11_isWord 9 σ1).bind fun x2 =>
  if x2 = 0 then
    (fX11_isWord 6 σ1).bind fun x4 =>
    if x4 = 0 then
      (fX11_isWord 22 σ1).bind fun x6 =>
      if x6 = 0 then
        fX11_readTag_47 (-1 : Int32) σ1
      else
        fX11_readTag_47 (9 : Int32) σ1
    else
      fX11_readTag_47 (8 : Int32) σ1
  else
    fX11_readTag_47 (7 : Int32) σ1

def fX11_readAtom_173 (gC : pn_S → Option (Int32 × pn_S)) (gA : pn_S → Option (Int32 × pn_S))  (s1 : Int32) (σ : pn_S) : Option (Int32 × pn_S) :=
  (fX11_emits s1 (0 : Int32) σ).bind fun σ16 =>
  some ((1 : Int32), σ16)

def fX11_readAtom_152 (gC : pn_S → Option (Int32 × pn_S)) (gA : pn_S → Option (Int32 × pn_S))  (l1 : Int32) (σ : pn_S) : Option (Int32 × pn_S) :=
  pn_bi (fX11_readSum σ) fun x13 σ13 =>
  if x13 = 0 then
    some ((0 : Int32), σ13)
  else
    if l1 = 0 then
      fX11_readAtom_173 gC gA (13 : Int32) σ13
    else
      fX11_readAtom_173 gC gA (12 : Int32) σ13

def fX11_readAtom (gC : pn_S → Option (Int32 × pn_S)) (gA : pn_S → Option (Int32 × pn_S)) (σ : pn_S) : Option (Int32 × pn_S) :=
  pn_bi (fX11_sign (40 : Int32) σ) fun x1 σ1 =>
  if x1 = 0 then
    pn_bi (fX11_passes 21 σ1) fun x3 σ3 =>
    if x3 = 0 then
      pn_bi (fX11_readTag σ3) fun x5 σ5 =>
      if x5 = 0 then
        pn_bi (fX11_readSum σ5) fun x7 σ7 =>
        if x7 = 0 then
          some ((0 : Int32), σ7)
        else
          pn_bi (fX11_sign (60 : Int32) σ7) fun x9 σ9 =>
          if x9 = 0 then
            pn_bi (fX11_sign (62 : Int32) σ9) fun x11 σ11 =>
            if x11 = 0 then
              some ((0 : Int32), σ11)
            else
              fX11_readAtom_152 gC gA x9 σ11
          else
            fX11_readAtom_152 gC gA x9 σ9
      else
        some ((1 : Int32), σ5)
    else
      if (σ3 85 13) = (6 : Int32) then
        some ((0 : Int32), σ3)
      else
        pn_bi (gA (pn_up σ3 85 13 ((σ3 85 13) + (1 : Int32)))) fun x18 σ18 =>
        if x18 = 0 then
          some ((0 : Int32), σ18)
        else
          (fX11_emits (14 : Int32) (0 : Int32) (pn_up σ18 85 13 ((σ18 85 13) - (1 : Int32)))).bind fun σ20 =>
          some ((1 : Int32), σ20)
  else
    if (σ1 85 13) = (6 : Int32) then
      some ((0 : Int32), σ1)
    else
      pn_bi (gC (pn_up σ1 85 13 ((σ1 85 13) + (1 : Int32)))) fun x22 σ22 =>
      if x22 = 0 then
        some ((0 : Int32), σ22)
      else
        pn_bi (fX11_sign (41 : Int32) (pn_up σ22 85 13 ((σ22 85 13) - (1 : Int32)))) fun x24 σ24 =>
        if pn_b01 x24 then some (x24, σ24) else none

def fX11_readAllOf_9 (gA : pn_S → Option (Int32 × pn_S)) : Nat → pn_S → Option (Int32 × pn_S)
  | 0, _ => none
  | n9 + 1, σ =>
    pn_bi (fX11_passes 26 σ) fun x3 σ3 =>
    if x3 = 0 then
      some ((1 : Int32), σ3)
    else
      pn_bi (gA σ3) fun x5 σ5 =>
      if x5 = 0 then
        some ((0 : Int32), σ5)
      else
        (fX11_emits (15 : Int32) (0 : Int32) σ5).bind fun σ7 =>
        fX11_readAllOf_9 gA n9 σ7

def fX11_readAllOf (gA : pn_S → Option (Int32 × pn_S)) (σ : pn_S) : Option (Int32 × pn_S) :=
  pn_bi (gA σ) fun x1 σ1 =>
  if x1 = 0 then
    some ((0 : Int32), σ1)
  else
    fX11_readAllOf_9 gA 5000 σ1

def fX11_readCond_9 (gL : pn_S → Option (Int32 × pn_S)) : Nat → pn_S → Option (Int32 × pn_S)
  | 0, _ => none
  | n9 + 1, σ =>
    pn_bi (fX11_passes 27 σ) fun x3 σ3 =>
    if x3 = 0 then
      some ((1 : Int32), σ3)
    else
      pn_bi (gL σ3) fun x5 σ5 =>
      if x5 = 0 then
        some ((0 : Int32), σ5)
      else
        (fX11_emits (16 : Int32) (0 : Int32) σ5).bind fun σ7 =>
        fX11_readCond_9 gL n9 σ7

def fX11_readCond (gL : pn_S → Option (Int32 × pn_S)) (σ : pn_S) : Option (Int32 × pn_S) :=
  pn_bi (gL σ) fun x1 σ1 =>
  if x1 = 0 then
    some ((0 : Int32), σ1)
  else
    fX11_readCond_9 gL 5000 σ1
def fX11_both : Nat → (pn_S → Option (Int32 × pn_S)) × (pn_S → Option (Int32 × pn_S)) × (pn_S → Option (Int32 × pn_S))
  | 0 => (fun _ => none, fun _ => none, fun _ => none)
  | n + 1 => (fX11_readCond (fX11_both n).2.1, fX11_readAllOf (fX11_both n).2.2, fX11_readAtom (fX11_both n).1 (fX11_both n).2.2)
def fX11_cond (σ : pn_S) : Option (Int32 × pn_S) := (fX11_both 40).1 σ

def fX11_readLawLine_128   (l2 : Int32) (σ : pn_S) : Option (Int32 × pn_S) :=
  if pn_ib (l2 + (3 : Int32)) 2015 then
  some ((1 : Int32), (pn_up σ 86 (Int32.toNatClampNeg (l2 + (3 : Int32))) (σ 85 16)))
  else none

def fX11_readLawLine_53   (l2 : Int32) (s1 : Int32) (s2 : Int32) (σ : pn_S) : Option (Int32 × pn_S) :=
  if pn_ib s1 2015 then
  if pn_ib l2 2015 then
  if 0 ≤ ((pn_up σ 86 (Int32.toNatClampNeg s1) s2) 86 (Int32.toNatClampNeg l2)) then
    pn_bi (fX11_number (0 : Int32) (30 : Int32) (pn_up σ 86 (Int32.toNatClampNeg s1) s2)) fun x8 σ8 =>
    if pn_ib (l2 + (1 : Int32)) 2015 then
    if pn_ib (l2 + (1 : Int32)) 2015 then
    if 0 ≤ ((pn_up σ8 86 (Int32.toNatClampNeg (l2 + (1 : Int32))) x8) 86 (Int32.toNatClampNeg (l2 + (1 : Int32)))) then
      if pn_ib (l2 + (2 : Int32)) 2015 then
      pn_bi (fX11_passes 20 (pn_up (pn_up (pn_up σ8 86 (Int32.toNatClampNeg (l2 + (1 : Int32))) x8) 86 (Int32.toNatClampNeg (l2 + (2 : Int32))) ((pn_up σ8 86 (Int32.toNatClampNeg (l2 + (1 : Int32))) x8) 85 16)) 85 13 (0 : Int32))) fun x10 σ10 =>
      if x10 = 0 then
        fX11_readLawLine_128 l2 σ10
      else
        pn_bi (fX11_cond σ10) fun x12 σ12 =>
        if x12 = 0 then
          some ((0 : Int32), σ12)
        else
          fX11_readLawLine_128 l2 σ12
      else none
    else
      some ((0 : Int32), (pn_up σ8 86 (Int32.toNatClampNeg (l2 + (1 : Int32))) x8))
    else none
    else none
  else
    some ((0 : Int32), (pn_up σ 86 (Int32.toNatClampNeg s1) s2))
  else none
  else none

def fX11_readLawLine (a1 : Int32) (σ : pn_S) : Option (Int32 × pn_S) :=
  (fX11_isWord 17 σ).bind fun x1 =>
  if x1 = 0 then
    (fX11_isWord 18 σ).bind fun x3 =>
    if x3 = 0 then
      (fX11_isWord 19 σ).bind fun x5 =>
      if x5 = 0 then
        fX11_readLawLine_53 ((1167 : Int32) + ((4 : Int32) * a1)) ((1167 : Int32) + ((4 : Int32) * a1)) (-1 : Int32) σ
      else
        fX11_readLawLine_53 ((1167 : Int32) + ((4 : Int32) * a1)) ((1167 : Int32) + ((4 : Int32) * a1)) (2 : Int32) σ
    else
      fX11_readLawLine_53 ((1167 : Int32) + ((4 : Int32) * a1)) ((1167 : Int32) + ((4 : Int32) * a1)) (1 : Int32) σ
  else
    fX11_readLawLine_53 ((1167 : Int32) + ((4 : Int32) * a1)) ((1167 : Int32) + ((4 : Int32) * a1)) (0 : Int32) σ

def fX11_readLine_16   (l1 : Int32) (l2 : Int32) (s0 : Int32) (s1 : Int32) (σ : pn_S) : Option (Int32 × pn_S) :=
  if s1 ≤ s0 then
    some ((0 : Int32), σ)
  else
    if l1 = 0 then
      pn_bi (fX11_readLawLine l2 σ) fun x5 σ5 =>
      if x5 = 0 then
        some ((0 : Int32), σ5)
      else
        some ((1 : Int32), σ5)
    else
      pn_bi (fX11_readVillageLine σ) fun x7 σ7 =>
      if x7 = 0 then
        some ((0 : Int32), σ7)
      else
        some ((1 : Int32), σ7)

def fX11_readLine (a1 : Int32) (a2 : Int32) (σ : pn_S) : Option (Int32 × pn_S) :=
  (fX11_letters σ).bind fun σ1 =>
  if a1 = 0 then
    fX11_readLine_16 a1 a2 a2 (12 : Int32) σ1
  else
    fX11_readLine_16 a1 a2 a2 (14 : Int32) σ1

def fX11_readAll_28 : Nat → Int32 → Int32 → pn_S → Option (Int32 × pn_S)
  | 0, _, _, _ => none
  | n9 + 1, l1, l2, σ =>
    pn_bi (fX11_readLine l1 l2 σ) fun x4 σ4 =>
    if x4 = 0 then
      some ((-1 : Int32), σ4)
    else
      (fX11_blanks σ4).bind fun σ6 =>
      if (σ6 85 10) = (σ6 85 11) then
        some (l2 + (1 : Int32), σ6)
      else
        (fX11_isAt (59 : Int32) (59 : Int32) σ6).bind fun x8 =>
        if x8 = 0 then
          some ((-1 : Int32), σ6)
        else
          fX11_readAll_28 n9 l1 (l2 + (1 : Int32)) (pn_up σ6 85 10 ((σ6 85 10) + (1 : Int32)))

def fX11_readAll (a1 : Int32) (σ : pn_S) : Option (Int32 × pn_S) :=
  (fX11_uses σ).bind fun σ1 =>
  (fX11_blanks (pn_up σ1 85 16 (0 : Int32))).bind fun σ2 =>
  if (σ2 85 10) = (σ2 85 11) then
    some ((0 : Int32), σ2)
  else
    fX11_readAll_28 5000 a1 (0 : Int32) σ2

def fX11_village_92 : Nat → Int32 → pn_S → Option (Int32 × pn_S)
  | 0, _, _ => none
  | n9 + 1, l2, σ =>
    if (1166 : Int32) ≤ l2 then
      some ((0 : Int32), σ)
    else
      if pn_ib l2 1166 then
      if pn_ib l2 2015 then
      fX11_village_92 n9 (l2 + (1 : Int32)) (pn_up σ 86 (Int32.toNatClampNeg l2) (σ 88 (Int32.toNatClampNeg l2)))
      else none
      else none

def fX11_village_83   (s1 : Int32) (σ : pn_S) : Option (Int32 × pn_S) :=
  pn_bi (fX11_throwsIf s1 (2 : Int32) σ) fun x8 σ8 =>
  if x8 = 0 then
    some ((pn_up (pn_up σ8 86 1 ((σ8 86 1) + (1 : Int32))) 85 7 (0 : Int32)) 86 1, (pn_up (pn_up σ8 86 1 ((σ8 86 1) + (1 : Int32))) 85 7 (0 : Int32)))
  else
    fX11_village_92 5000 (0 : Int32) σ8

def fX11_village_59   (s1 : Int32) (σ : pn_S) : Option (Int32 × pn_S) :=
  pn_bi (fX11_throwsIf s1 (1 : Int32) σ) fun x5 σ5 =>
  if x5 = 0 then
    if (σ5 86 1) = (12 : Int32) then
      fX11_village_83 (1 : Int32) σ5
    else
      fX11_village_83 (0 : Int32) σ5
  else
    fX11_village_92 5000 (0 : Int32) σ5

def fX11_village_46   (l1 : Int32) (s1 : Int32) (σ : pn_S) : Option (Int32 × pn_S) :=
  if 0 ≤ l1 then
    fX11_village_59 (0 : Int32) (pn_up σ 85 14 s1)
  else
    fX11_village_59 (1 : Int32) (pn_up σ 85 14 s1)

def fX11_village_2 : Nat → Int32 → pn_S → Option (Int32 × pn_S)
  | 0, _, _ => none
  | n9 + 1, l1, σ =>
    if (1166 : Int32) ≤ l1 then
      pn_bi (fX11_readAll (1 : Int32) σ) fun x2 σ2 =>
      if 0 ≤ x2 then
        fX11_village_46 x2 (-1 : Int32) σ2
      else
        fX11_village_46 x2 (σ2 85 12) σ2
    else
      if pn_ib l1 2015 then
      if pn_ib l1 1166 then
      fX11_village_2 n9 (l1 + (1 : Int32)) (pn_up σ 88 (Int32.toNatClampNeg l1) (σ 86 (Int32.toNatClampNeg l1)))
      else none
      else none

def fX11_village  (σ : pn_S) : Option (Int32 × pn_S) :=
  fX11_village_2 5000 (0 : Int32) σ

def fX11_law_52 : Nat → Int32 → Int32 → pn_S → Option (Int32 × pn_S)
  | 0, _, _, _ => none
  | n9 + 1, l1, l2, σ =>
    if (849 : Int32) ≤ l2 then
      some (l1, (pn_up (pn_up σ 86 2 (1 : Int32)) 85 7 (0 : Int32)))
    else
      if pn_ib ((1166 : Int32) + l2) 2015 then
      if pn_ib ((317 : Int32) + l2) 2015 then
      fX11_law_52 n9 l1 (l2 + (1 : Int32)) (pn_up σ 86 (Int32.toNatClampNeg ((317 : Int32) + l2)) (σ 86 (Int32.toNatClampNeg ((1166 : Int32) + l2))))
      else none
      else none

def fX11_law_32   (l1 : Int32) (s1 : Int32) (σ : pn_S) : Option (Int32 × pn_S) :=
  pn_bi (fX11_throwsIf s1 (1 : Int32) σ) fun x4 σ4 =>
  if x4 = 0 then
    fX11_law_52 5000 l1 (0 : Int32) (pn_up σ4 86 1166 l1)
  else
    some ((0 : Int32), σ4)

def fX11_law_19   (l1 : Int32) (s1 : Int32) (σ : pn_S) : Option (Int32 × pn_S) :=
  if 0 ≤ l1 then
    fX11_law_32 l1 (0 : Int32) (pn_up σ 85 14 s1)
  else
    fX11_law_32 l1 (1 : Int32) (pn_up σ 85 14 s1)

def fX11_law  (σ : pn_S) : Option (Int32 × pn_S) :=
  pn_bi (fX11_readAll (0 : Int32) σ) fun x1 σ1 =>
  if 0 ≤ x1 then
    fX11_law_19 x1 (-1 : Int32) σ1
  else
    fX11_law_19 x1 (σ1 85 12) σ1

def fX11_factOf (a1 : Int32) (a2 : Int32) (a3 : Int32) (a4 : Int32) (σ : pn_S) : Option (Int32) :=
  if a1 = (0 : Int32) then
    some a3
  else if a1 = (1 : Int32) then
    (fX11_of a3 (1 : Int32) σ).bind fun x3 =>
    some x3
  else if a1 = (2 : Int32) then
    (fX11_of a3 (0 : Int32) σ).bind fun x5 =>
    some x5
  else if a1 = (3 : Int32) then
    (fX11_of a4 (4 : Int32) σ).bind fun x7 =>
    some x7
  else if a1 = (4 : Int32) then
    (fX11_of a4 (3 : Int32) σ).bind fun x9 =>
    some x9
  else if a1 = (5 : Int32) then
    if (σ 86 5) = a4 then
      some (σ 86 6)
    else
      some (0 : Int32)
  else if a1 = (6 : Int32) then
    some (σ 86 3)
  else if a1 = (7 : Int32) then
    (fX11_of a3 (5 : Int32) σ).bind fun x14 =>
    if x14 = a4 then
      some (1 : Int32)
    else
      some (0 : Int32)
  else if a1 = (8 : Int32) then
    (fX11_of a4 (6 : Int32) σ).bind fun x17 =>
    some x17
  else if a1 = (9 : Int32) then
    some (σ 86 4)
  else 
  some a2

def fX11_holdsLine_264  (rec23 : Int32 → Int32 → Int32 → Int32 → Int32 → pn_S → Option (Int32 × pn_S)) (l2 : Int32) (l3 : Int32) (l4 : Int32) (l5 : Int32) (l6 : Int32) (s1 : Int32) (s2 : Int32) (σ : pn_S) : Option (Int32 × pn_S) :=
  if pn_ib s1 400 then
  rec23 l2 l3 l4 l5 (l6 + (1 : Int32)) (pn_up σ 93 (Int32.toNatClampNeg s1) s2)
  else none

def fX11_holdsLine_229  (rec23 : Int32 → Int32 → Int32 → Int32 → Int32 → pn_S → Option (Int32 × pn_S)) (l2 : Int32) (l3 : Int32) (l4 : Int32) (l5 : Int32) (l6 : Int32) (l7 : Int32) (l8 : Int32) (l9 : Int32) (s0 : Int32) (σ : pn_S) : Option (Int32 × pn_S) :=
  if l7 = (11 : Int32) then
    fX11_holdsLine_264 rec23 l2 l3 l4 l5 l6 (l4 - (1 : Int32)) (l8 + l9) σ
  else
    if s0 = 0 then
      fX11_holdsLine_264 rec23 l2 l3 l4 l5 l6 (l4 - (1 : Int32)) (0 : Int32) σ
    else
      fX11_holdsLine_264 rec23 l2 l3 l4 l5 l6 (l4 - (1 : Int32)) (1 : Int32) σ

def fX11_holdsLine_23 : Nat → Int32 → Int32 → Int32 → Int32 → Int32 → pn_S → Option (Int32 × pn_S)
  | 0, _, _, _, _, _, _ => none
  | n9 + 1, l2, l3, l4, l5, l6, σ =>
    if pn_ib (l5 + (3 : Int32)) 2015 then
    if (σ 86 (Int32.toNatClampNeg (l5 + (3 : Int32)))) ≤ l6 then
      if l4 = 0 then
        some ((1 : Int32), σ)
      else
        if (σ 93 0) = (1 : Int32) then
          some ((1 : Int32), σ)
        else
          some ((0 : Int32), σ)
    else
      if pn_ib ((366 : Int32) + ((2 : Int32) * l6)) 2015 then
      if (10 : Int32) < (σ 86 (Int32.toNatClampNeg ((366 : Int32) + ((2 : Int32) * l6)))) then
        if (σ 86 (Int32.toNatClampNeg ((366 : Int32) + ((2 : Int32) * l6)))) = (14 : Int32) then
          if pn_ib (l4 - (1 : Int32)) 400 then
          if pn_ib (l4 - (1 : Int32)) 400 then
          fX11_holdsLine_23 n9 l2 l3 l4 l5 (l6 + (1 : Int32)) (pn_up σ 93 (Int32.toNatClampNeg (l4 - (1 : Int32))) ((1 : Int32) - (σ 93 (Int32.toNatClampNeg (l4 - (1 : Int32))))))
          else none
          else none
        else
          if pn_ib ((l4 + (-1 : Int32)) - (1 : Int32)) 400 then
          if pn_ib (l4 + (-1 : Int32)) 400 then
          if (σ 86 (Int32.toNatClampNeg ((366 : Int32) + ((2 : Int32) * l6)))) = (12 : Int32) then
            if (σ 93 (Int32.toNatClampNeg (l4 + (-1 : Int32)))) ≤ (σ 93 (Int32.toNatClampNeg ((l4 + (-1 : Int32)) - (1 : Int32)))) then
              fX11_holdsLine_229 (fX11_holdsLine_23 n9) l2 l3 (l4 + (-1 : Int32)) l5 l6 (σ 86 (Int32.toNatClampNeg ((366 : Int32) + ((2 : Int32) * l6)))) (σ 93 (Int32.toNatClampNeg ((l4 + (-1 : Int32)) - (1 : Int32)))) (σ 93 (Int32.toNatClampNeg (l4 + (-1 : Int32)))) (0 : Int32) σ
            else
              fX11_holdsLine_229 (fX11_holdsLine_23 n9) l2 l3 (l4 + (-1 : Int32)) l5 l6 (σ 86 (Int32.toNatClampNeg ((366 : Int32) + ((2 : Int32) * l6)))) (σ 93 (Int32.toNatClampNeg ((l4 + (-1 : Int32)) - (1 : Int32)))) (σ 93 (Int32.toNatClampNeg (l4 + (-1 : Int32)))) (1 : Int32) σ
          else
            if (σ 86 (Int32.toNatClampNeg ((366 : Int32) + ((2 : Int32) * l6)))) = (13 : Int32) then
              if (σ 93 (Int32.toNatClampNeg ((l4 + (-1 : Int32)) - (1 : Int32)))) ≤ (σ 93 (Int32.toNatClampNeg (l4 + (-1 : Int32)))) then
                fX11_holdsLine_229 (fX11_holdsLine_23 n9) l2 l3 (l4 + (-1 : Int32)) l5 l6 (σ 86 (Int32.toNatClampNeg ((366 : Int32) + ((2 : Int32) * l6)))) (σ 93 (Int32.toNatClampNeg ((l4 + (-1 : Int32)) - (1 : Int32)))) (σ 93 (Int32.toNatClampNeg (l4 + (-1 : Int32)))) (0 : Int32) σ
              else
                fX11_holdsLine_229 (fX11_holdsLine_23 n9) l2 l3 (l4 + (-1 : Int32)) l5 l6 (σ 86 (Int32.toNatClampNeg ((366 : Int32) + ((2 : Int32) * l6)))) (σ 93 (Int32.toNatClampNeg ((l4 + (-1 : Int32)) - (1 : Int32)))) (σ 93 (Int32.toNatClampNeg (l4 + (-1 : Int32)))) (1 : Int32) σ
            else
              if (σ 86 (Int32.toNatClampNeg ((366 : Int32) + ((2 : Int32) * l6)))) = (15 : Int32) then
                if ((σ 93 (Int32.toNatClampNeg ((l4 + (-1 : Int32)) - (1 : Int32)))) + (σ 93 (Int32.toNatClampNeg (l4 + (-1 : Int32))))) = (2 : Int32) then
                  fX11_holdsLine_229 (fX11_holdsLine_23 n9) l2 l3 (l4 + (-1 : Int32)) l5 l6 (σ 86 (Int32.toNatClampNeg ((366 : Int32) + ((2 : Int32) * l6)))) (σ 93 (Int32.toNatClampNeg ((l4 + (-1 : Int32)) - (1 : Int32)))) (σ 93 (Int32.toNatClampNeg (l4 + (-1 : Int32)))) (1 : Int32) σ
                else
                  fX11_holdsLine_229 (fX11_holdsLine_23 n9) l2 l3 (l4 + (-1 : Int32)) l5 l6 (σ 86 (Int32.toNatClampNeg ((366 : Int32) + ((2 : Int32) * l6)))) (σ 93 (Int32.toNatClampNeg ((l4 + (-1 : Int32)) - (1 : Int32)))) (σ 93 (Int32.toNatClampNeg (l4 + (-1 : Int32)))) (0 : Int32) σ
              else
                if ((σ 93 (Int32.toNatClampNeg ((l4 + (-1 : Int32)) - (1 : Int32)))) + (σ 93 (Int32.toNatClampNeg (l4 + (-1 : Int32))))) ≤ 0 then
                  fX11_holdsLine_229 (fX11_holdsLine_23 n9) l2 l3 (l4 + (-1 : Int32)) l5 l6 (σ 86 (Int32.toNatClampNeg ((366 : Int32) + ((2 : Int32) * l6)))) (σ 93 (Int32.toNatClampNeg ((l4 + (-1 : Int32)) - (1 : Int32)))) (σ 93 (Int32.toNatClampNeg (l4 + (-1 : Int32)))) (0 : Int32) σ
                else
                  fX11_holdsLine_229 (fX11_holdsLine_23 n9) l2 l3 (l4 + (-1 : Int32)) l5 l6 (σ 86 (Int32.toNatClampNeg ((366 : Int32) + ((2 : Int32) * l6)))) (σ 93 (Int32.toNatClampNeg ((l4 + (-1 : Int32)) - (1 : Int32)))) (σ 93 (Int32.toNatClampNeg (l4 + (-1 : Int32)))) (1 : Int32) σ
          else none
          else none
      else
        if pn_ib (((366 : Int32) + ((2 : Int32) * l6)) + (1 : Int32)) 2015 then
        (fX11_factOf (σ 86 (Int32.toNatClampNeg ((366 : Int32) + ((2 : Int32) * l6)))) (σ 86 (Int32.toNatClampNeg (((366 : Int32) + ((2 : Int32) * l6)) + (1 : Int32)))) l2 l3 σ).bind fun x15 =>
        if pn_ib l4 400 then
        fX11_holdsLine_23 n9 l2 l3 (l4 + (1 : Int32)) l5 (l6 + (1 : Int32)) (pn_up σ 93 (Int32.toNatClampNeg l4) x15)
        else none
        else none
      else none
    else none

def fX11_holdsLine (a1 : Int32) (a2 : Int32) (a3 : Int32) (σ : pn_S) : Option (Int32 × pn_S) :=
  if pn_ib (((318 : Int32) + ((4 : Int32) * a1)) + (2 : Int32)) 2015 then
  fX11_holdsLine_23 5000 a2 a3 (0 : Int32) ((318 : Int32) + ((4 : Int32) * a1)) (σ 86 (Int32.toNatClampNeg (((318 : Int32) + ((4 : Int32) * a1)) + (2 : Int32)))) σ
  else none

def fX11_sumOf_6 : Nat → Int32 → Int32 → Int32 → Int32 → Int32 → pn_S → Option (Int32 × pn_S)
  | 0, _, _, _, _, _, _ => none
  | n9 + 1, l1, l2, l3, l4, l5, σ =>
    if (σ 86 2) = (1 : Int32) then
      if (σ 86 317) ≤ l5 then
        some (l4, σ)
      else
        if pn_ib ((318 : Int32) + ((4 : Int32) * l5)) 2015 then
        if (σ 86 (Int32.toNatClampNeg ((318 : Int32) + ((4 : Int32) * l5)))) = l1 then
          pn_bi (fX11_holdsLine l5 l2 l3 σ) fun x4 σ4 =>
          if x4 = 0 then
            fX11_sumOf_6 n9 l1 l2 l3 l4 (l5 + (1 : Int32)) σ4
          else
            if pn_ib (((318 : Int32) + ((4 : Int32) * l5)) + (1 : Int32)) 2015 then
            fX11_sumOf_6 n9 l1 l2 l3 (l4 + (σ4 86 (Int32.toNatClampNeg (((318 : Int32) + ((4 : Int32) * l5)) + (1 : Int32))))) (l5 + (1 : Int32)) σ4
            else none
        else
          fX11_sumOf_6 n9 l1 l2 l3 l4 (l5 + (1 : Int32)) σ
        else none
    else
      some (l4, σ)

def fX11_sumOf (a1 : Int32) (a2 : Int32) (a3 : Int32) (σ : pn_S) : Option (Int32 × pn_S) :=
  fX11_sumOf_6 5000 a1 a2 a3 (0 : Int32) (0 : Int32) σ

def fX11_needsOf (a1 : Int32) (a2 : Int32) (σ : pn_S) : Option (Int32 × pn_S) :=
  (fX11_of a1 (0 : Int32) σ).bind fun x1 =>
  pn_bi (fX11_sumOf (0 : Int32) a1 a2 σ) fun x2 σ2 =>
  pn_bi (fX11_sumOf (1 : Int32) a1 a2 σ2) fun x3 σ3 =>
  (fJ9_max_7cf53 (0 : Int32) ((x1 + x2) - x3) σ3).bind fun x4 =>
  some (x4, σ3)

def fX11_pansOf (a1 : Int32) (a2 : Int32) (σ : pn_S) : Option (Int32 × pn_S) :=
  pn_bi (fX11_sumOf (2 : Int32) a1 a2 σ) fun x1 σ1 =>
  some ((1 : Int32) + x1, σ1)

def fX11_person_34   (l1 : Int32) (l2 : Int32) (s1 : Int32) (σ : pn_S) : Option (Int32 × pn_S) :=
  pn_bi (fX11_throwsIf s1 (2 : Int32) σ) fun x6 σ6 =>
  if x6 = 0 then
    (fX11_of l1 l2 σ6).bind fun x8 =>
    some (x8, σ6)
  else
    some ((0 : Int32), σ6)

def fX11_person (a1 : Int32) (a2 : Int32) (σ : pn_S) : Option (Int32 × pn_S) :=
  (fX11_nobody a1 (pn_up σ 85 0 (0 : Int32))).bind fun x1 =>
  pn_bi (fX11_throwsIf x1 (1 : Int32) (pn_up σ 85 0 (0 : Int32))) fun x2 σ2 =>
  if x2 = 0 then
    (fX11_in a2 (0 : Int32) (7 : Int32) σ2).bind fun x4 =>
    if x4 = 0 then
      fX11_person_34 a1 a2 (1 : Int32) σ2
    else
      fX11_person_34 a1 a2 (0 : Int32) σ2
  else
    some ((0 : Int32), σ2)

def fX11_against_45   (l1 : Int32) (l2 : Int32) (l3 : Int32) (s1 : Int32) (σ : pn_S) : Option (Int32 × pn_S) :=
  pn_bi (fX11_throwsIf s1 (2 : Int32) σ) fun x8 σ8 =>
  if x8 = 0 then
    if l3 = 0 then
      pn_bi (fX11_needsOf l1 l2 σ8) fun x11 σ11 =>
      some (x11, σ11)
    else
      pn_bi (fX11_pansOf l1 l2 σ8) fun x12 σ12 =>
      some (x12, σ12)
  else
    some ((0 : Int32), σ8)

def fX11_against_27   (l1 : Int32) (l2 : Int32) (l3 : Int32) (s1 : Int32) (σ : pn_S) : Option (Int32 × pn_S) :=
  pn_bi (fX11_throwsIf s1 (1 : Int32) σ) fun x5 σ5 =>
  if x5 = 0 then
    if l1 = l2 then
      fX11_against_45 l1 l2 l3 (1 : Int32) σ5
    else
      fX11_against_45 l1 l2 l3 (0 : Int32) σ5
  else
    some ((0 : Int32), σ5)

def fX11_against_22   (l1 : Int32) (l2 : Int32) (l3 : Int32) (σ : pn_S) : Option (Int32 × pn_S) :=
  fX11_against_27 l1 l2 l3 (1 : Int32) σ

def fX11_against (a1 : Int32) (a2 : Int32) (a3 : Int32) (σ : pn_S) : Option (Int32 × pn_S) :=
  (fX11_nobody a1 (pn_up σ 85 0 (0 : Int32))).bind fun x1 =>
  if x1 = 0 then
    (fX11_nobody a2 (pn_up σ 85 0 (0 : Int32))).bind fun x3 =>
    if x3 = 0 then
      fX11_against_27 a1 a2 a3 (0 : Int32) (pn_up σ 85 0 (0 : Int32))
    else
      fX11_against_22 a1 a2 a3 (pn_up σ 85 0 (0 : Int32))
  else
    fX11_against_22 a1 a2 a3 (pn_up σ 85 0 (0 : Int32))

def fX11_laysNeeds_2 : Nat → Int32 → Int32 → pn_S → Option (pn_S)
  | 0, _, _, _ => none
  | n9 + 1, l1, l2, σ =>
    (fX11_people σ).bind fun x1 =>
    if x1 ≤ l2 then
      some σ
    else
      pn_bi (fX11_needsOf l2 l1 σ) fun x3 σ3 =>
      if pn_ib l2 8 then
      fX11_laysNeeds_2 n9 l1 (l2 + (1 : Int32)) (pn_up σ3 94 (Int32.toNatClampNeg l2) x3)
      else none

def fX11_laysNeeds (a1 : Int32) (σ : pn_S) : Option (pn_S) :=
  fX11_laysNeeds_2 5000 a1 (0 : Int32) σ

def fX11_gathers_203  (rec70 : Int32 → Int32 → Int32 → pn_S → Option (Int32 × pn_S)) (l4 : Int32) (l5 : Int32) (l6 : Int32) (l7 : Int32) (s1 : Int32) (σ : pn_S) : Option (Int32 × pn_S) :=
  if l7 = 0 then
    some (l5, (pn_up σ 85 20 s1))
  else
    rec70 l4 (l5 ||| l7) (l6 + (1 : Int32)) (pn_up σ 85 20 s1)

def fX11_gathers_181  (rec70 : Int32 → Int32 → Int32 → pn_S → Option (Int32 × pn_S)) (rec144 : Int32 → Int32 → Int32 → Int32 → Int32 → pn_S → Option (Int32 × pn_S)) (l4 : Int32) (l5 : Int32) (l6 : Int32) (l7 : Int32) (l8 : Int32) (s1 : Int32) (s2 : Int32) (σ : pn_S) : Option (Int32 × pn_S) :=
  if pn_ib s1 8 then
  rec144 l4 l5 l6 l7 (l8 + (1 : Int32)) (pn_up σ 95 (Int32.toNatClampNeg s1) s2)
  else none

def fX11_gathers_144  (rec70 : Int32 → Int32 → Int32 → pn_S → Option (Int32 × pn_S)) : Nat → Int32 → Int32 → Int32 → Int32 → Int32 → pn_S → Option (Int32 × pn_S)
  | 0, _, _, _, _, _, _ => none
  | n9 + 1, l4, l5, l6, l7, l8, σ =>
    (fX11_people σ).bind fun x7 =>
    if x7 ≤ l8 then
      if l7 = 0 then
        fX11_gathers_203 rec70 l4 l5 l6 l7 (σ 85 20) σ
      else
        fX11_gathers_203 rec70 l4 l5 l6 l7 l6 σ
    else
      (fX11_has l7 l8 σ).bind fun x11 =>
      if x11 = 0 then
        if pn_ib l8 8 then
        fX11_gathers_181 rec70 (fX11_gathers_144 rec70 n9) l4 l5 l6 l7 l8 l8 (σ 95 (Int32.toNatClampNeg l8)) σ
        else none
      else
        fX11_gathers_181 rec70 (fX11_gathers_144 rec70 n9) l4 l5 l6 l7 l8 l8 l6 σ

def fX11_gathers_131  (rec70 : Int32 → Int32 → Int32 → pn_S → Option (Int32 × pn_S)) (rec83 : Int32 → Int32 → Int32 → Int32 → Int32 → pn_S → Option (Int32 × pn_S)) (l4 : Int32) (l5 : Int32) (l6 : Int32) (l8 : Int32) (s0 : Int32) (σ : pn_S) : Option (Int32 × pn_S) :=
  rec83 l4 l5 l6 (s0 ||| (0 : Int32)) (l8 + (1 : Int32)) σ

def fX11_gathers_83  (rec70 : Int32 → Int32 → Int32 → pn_S → Option (Int32 × pn_S)) : Nat → Int32 → Int32 → Int32 → Int32 → Int32 → pn_S → Option (Int32 × pn_S)
  | 0, _, _, _, _, _, _ => none
  | n9 + 1, l4, l5, l6, l7, l8, σ =>
    (fX11_people σ).bind fun x5 =>
    if x5 ≤ l8 then
      fX11_gathers_144 rec70 5000 l4 l5 l6 l7 (0 : Int32) σ
    else
      (fX11_has (l4 &&& (l5 ^^^ (-1 : Int32))) l8 σ).bind fun x13 =>
      if x13 = 0 then
        fX11_gathers_131 rec70 (fX11_gathers_83 rec70 n9) l4 l5 l6 l8 l7 σ
      else
        if pn_ib l8 8 then
        (fJ6_bitCount_0f7a4 l5 σ).bind fun x15 =>
        if x15 < (σ 94 (Int32.toNatClampNeg l8)) then
          fX11_gathers_131 rec70 (fX11_gathers_83 rec70 n9) l4 l5 l6 l8 l7 σ
        else
          fX11_gathers_83 rec70 n9 l4 l5 l6 (l7 ||| ((1 : Int32) <<< (l8 &&& 31))) (l8 + (1 : Int32)) σ
        else none

def fX11_gathers_70 : Nat → Int32 → Int32 → Int32 → pn_S → Option (Int32 × pn_S)
  | 0, _, _, _, _ => none
  | n9 + 1, l4, l5, l6, σ =>
    if (8 : Int32) < l6 then
      some (l5, σ)
    else
      fX11_gathers_83 (fX11_gathers_70 n9) 5000 l4 l5 l6 (0 : Int32) (0 : Int32) σ

def fX11_gathers_60  (rec30 : Int32 → Int32 → Int32 → pn_S → Option (Int32 × pn_S)) (l4 : Int32) (l5 : Int32) (l6 : Int32) (s1 : Int32) (s2 : Int32) (σ : pn_S) : Option (Int32 × pn_S) :=
  if pn_ib s1 8 then
  rec30 l4 l5 (l6 + (1 : Int32)) (pn_up σ 95 (Int32.toNatClampNeg s1) s2)
  else none

def fX11_gathers_30 : Nat → Int32 → Int32 → Int32 → pn_S → Option (Int32 × pn_S)
  | 0, _, _, _, _ => none
  | n9 + 1, l4, l5, l6, σ =>
    (fX11_people σ).bind fun x2 =>
    if x2 ≤ l6 then
      fX11_gathers_70 5000 l4 l5 (1 : Int32) σ
    else
      (fX11_has l5 l6 σ).bind fun x17 =>
      if x17 = 0 then
        fX11_gathers_60 (fX11_gathers_30 n9) l4 l5 l6 l6 (-1 : Int32) σ
      else
        fX11_gathers_60 (fX11_gathers_30 n9) l4 l5 l6 l6 (0 : Int32) σ

def fX11_gathers_22   (l4 : Int32) (l5 : Int32) (σ : pn_S) : Option (Int32 × pn_S) :=
  fX11_gathers_30 5000 l4 l5 (0 : Int32) (pn_up σ 85 20 (0 : Int32))

def fX11_gathers (a1 : Int32) (a2 : Int32) (a3 : Int32) (σ : pn_S) : Option (Int32 × pn_S) :=
  (fX11_everybody σ).bind fun x1 =>
  fX11_gathers_22 ((x1 &&& (((1 : Int32) <<< (a1 &&& 31)) ^^^ (-1 : Int32))) &&& (a3 ^^^ (-1 : Int32))) (a2 &&& ((x1 &&& (((1 : Int32) <<< (a1 &&& 31)) ^^^ (-1 : Int32))) &&& (a3 ^^^ (-1 : Int32)))) σ

def fX11_crowdOf (a1 : Int32) (σ : pn_S) : Option (Int32 × pn_S) :=
  (fX11_laysNeeds a1 σ).bind fun σ1 =>
  (fX11_beginners σ1).bind fun x2 =>
  pn_bi (fX11_gathers a1 x2 (0 : Int32) σ1) fun x3 σ3 =>
  some (x3, σ3)

def fX11_noiseOf_5 : Nat → Int32 → Int32 → Int32 → Int32 → pn_S → Option (Int32 × pn_S)
  | 0, _, _, _, _, _ => none
  | n9 + 1, l1, l2, l3, l4, σ =>
    (fX11_people σ).bind fun x1 =>
    if x1 ≤ l4 then
      some (l3, σ)
    else
      (fX11_has l1 l4 σ).bind fun x3 =>
      if x3 = 0 then
        fX11_noiseOf_5 n9 l1 l2 (l3 + (0 : Int32)) (l4 + (1 : Int32)) σ
      else
        pn_bi (fX11_pansOf l4 l2 σ) fun x5 σ5 =>
        fX11_noiseOf_5 n9 l1 l2 (l3 + x5) (l4 + (1 : Int32)) σ5

def fX11_noiseOf (a1 : Int32) (a2 : Int32) (σ : pn_S) : Option (Int32 × pn_S) :=
  fX11_noiseOf_5 5000 a1 a2 (0 : Int32) (0 : Int32) σ

def fX11_loudTo (a1 : Int32) (σ : pn_S) : Option (Int32 × pn_S) :=
  pn_bi (fX11_crowdOf a1 σ) fun x1 σ1 =>
  pn_bi (fX11_noiseOf x1 a1 σ1) fun x2 σ2 =>
  some (x2, σ2)

def fX11_comes (a1 : Int32) (σ : pn_S) : Option (Int32 × pn_S) :=
  (fX11_nobody a1 (pn_up σ 85 0 (0 : Int32))).bind fun x1 =>
  pn_bi (fX11_throwsIf x1 (1 : Int32) (pn_up σ 85 0 (0 : Int32))) fun x2 σ2 =>
  if x2 = 0 then
    pn_bi (fX11_crowdOf a1 σ2) fun x4 σ4 =>
    some (x4, σ4)
  else
    some ((0 : Int32), σ2)

def fX11_rounds (a1 : Int32) (σ : pn_S) : Option (Int32 × pn_S) :=
  (fX11_nobody a1 (pn_up σ 85 0 (0 : Int32))).bind fun x1 =>
  pn_bi (fX11_throwsIf x1 (1 : Int32) (pn_up σ 85 0 (0 : Int32))) fun x2 σ2 =>
  if x2 = 0 then
    pn_bi (fX11_crowdOf a1 σ2) fun x4 σ4 =>
    some (σ4 85 20, σ4)
  else
    some ((0 : Int32), σ2)

def fX11_when_45   (l1 : Int32) (l2 : Int32) (s1 : Int32) (σ : pn_S) : Option (Int32 × pn_S) :=
  pn_bi (fX11_throwsIf s1 (2 : Int32) σ) fun x8 σ8 =>
  if x8 = 0 then
    pn_bi (fX11_crowdOf l2 σ8) fun x10 σ10 =>
    if pn_ib l1 8 then
    some (σ10 95 (Int32.toNatClampNeg l1), σ10)
    else none
  else
    some ((0 : Int32), σ8)

def fX11_when_27   (l1 : Int32) (l2 : Int32) (s1 : Int32) (σ : pn_S) : Option (Int32 × pn_S) :=
  pn_bi (fX11_throwsIf s1 (1 : Int32) σ) fun x5 σ5 =>
  if x5 = 0 then
    if l1 = l2 then
      fX11_when_45 l1 l2 (1 : Int32) σ5
    else
      fX11_when_45 l1 l2 (0 : Int32) σ5
  else
    some ((0 : Int32), σ5)

def fX11_when_22   (l1 : Int32) (l2 : Int32) (σ : pn_S) : Option (Int32 × pn_S) :=
  fX11_when_27 l1 l2 (1 : Int32) σ

def fX11_when (a1 : Int32) (a2 : Int32) (σ : pn_S) : Option (Int32 × pn_S) :=
  (fX11_nobody a1 (pn_up σ 85 0 (0 : Int32))).bind fun x1 =>
  if x1 = 0 then
    (fX11_nobody a2 (pn_up σ 85 0 (0 : Int32))).bind fun x3 =>
    if x3 = 0 then
      fX11_when_27 a1 a2 (0 : Int32) (pn_up σ 85 0 (0 : Int32))
    else
      fX11_when_22 a1 a2 (pn_up σ 85 0 (0 : Int32))
  else
    fX11_when_22 a1 a2 (pn_up σ 85 0 (0 : Int32))

def fX11_loud (a1 : Int32) (σ : pn_S) : Option (Int32 × pn_S) :=
  (fX11_nobody a1 (pn_up σ 85 0 (0 : Int32))).bind fun x1 =>
  pn_bi (fX11_throwsIf x1 (1 : Int32) (pn_up σ 85 0 (0 : Int32))) fun x2 σ2 =>
  if x2 = 0 then
    pn_bi (fX11_loudTo a1 σ2) fun x4 σ4 =>
    some (x4, σ4)
  else
    some ((0 : Int32), σ2)

def fX11_noTarget  (σ : pn_S) : Option (pn_S) :=
  some (pn_up (pn_up σ 86 5 (-1 : Int32)) 86 6 (0 : Int32))

def fX11_name_33   (l1 : Int32) (s1 : Int32) (σ : pn_S) : Option (Int32 × pn_S) :=
  pn_bi (fX11_throwsIf s1 (2 : Int32) σ) fun x6 σ6 =>
  if x6 = 0 then
    (fX11_remembers σ6).bind fun σ8 =>
    some (σ8 86 5, (pn_up (pn_up σ8 86 5 l1) 86 6 (0 : Int32)))
  else
    some ((0 : Int32), σ6)

def fX11_name (a1 : Int32) (σ : pn_S) : Option (Int32 × pn_S) :=
  (fX11_nobody a1 (pn_up σ 85 0 (0 : Int32))).bind fun x1 =>
  pn_bi (fX11_throwsIf x1 (1 : Int32) (pn_up σ 85 0 (0 : Int32))) fun x2 σ2 =>
  if x2 = 0 then
    (fX11_of a1 (4 : Int32) σ2).bind fun x4 =>
    if x4 = 0 then
      fX11_name_33 a1 (1 : Int32) σ2
    else
      fX11_name_33 a1 (0 : Int32) σ2
  else
    some ((0 : Int32), σ2)

def fX11_begin_60   (l2 : Int32) (l3 : Int32) (s1 : Int32) (s2 : Int32) (σ : pn_S) : Option (Int32 × pn_S) :=
  if pn_ib s1 2015 then
  if l3 = l2 then
    some ((0 : Int32), (pn_up σ 86 (Int32.toNatClampNeg s1) s2))
  else
    some ((1 : Int32), (pn_up σ 86 (Int32.toNatClampNeg s1) s2))
  else none

def fX11_begin_40   (l1 : Int32) (l2 : Int32) (s0 : Int32) (σ : pn_S) : Option (Int32 × pn_S) :=
  (fX11_at l1 (7 : Int32) σ).bind fun x7 =>
  if l2 = 0 then
    fX11_begin_60 l2 s0 x7 (0 : Int32) σ
  else
    fX11_begin_60 l2 s0 x7 (1 : Int32) σ

def fX11_begin (a1 : Int32) (a2 : Int32) (σ : pn_S) : Option (Int32 × pn_S) :=
  (fX11_nobody a1 (pn_up σ 85 0 (0 : Int32))).bind fun x1 =>
  pn_bi (fX11_throwsIf x1 (1 : Int32) (pn_up σ 85 0 (0 : Int32))) fun x2 σ2 =>
  if x2 = 0 then
    (fX11_remembers σ2).bind fun σ4 =>
    (fX11_of a1 (7 : Int32) σ4).bind fun x5 =>
    if x5 = (1 : Int32) then
      fX11_begin_40 a1 a2 (1 : Int32) σ4
    else
      fX11_begin_40 a1 a2 (0 : Int32) σ4
  else
    some ((0 : Int32), σ2)

def fX11_priceBy (a1 : Int32) (a2 : Int32) (σ : pn_S) : Option (Int32) :=
  (fJ6_bitCount_0f7a4 a1 σ).bind fun x1 =>
  some (a2 * x1)

def fX11_buysOff_45 : Nat → Int32 → Int32 → pn_S → Option (pn_S)
  | 0, _, _, _ => none
  | n9 + 1, l1, l3, σ =>
    (fX11_people σ).bind fun x4 =>
    if x4 ≤ l3 then
      (fX11_noTarget σ).bind fun σ6 =>
      some σ6
    else
      (fX11_has l1 l3 σ).bind fun x7 =>
      if x7 = 0 then
        fX11_buysOff_45 n9 l1 (l3 + (1 : Int32)) σ
      else
        (fX11_at l3 (1 : Int32) σ).bind fun x9 =>
        (fX11_of l3 (1 : Int32) σ).bind fun x10 =>
        (fJ9_max_7cf53 (0 : Int32) (x10 - (1 : Int32)) σ).bind fun x11 =>
        if pn_ib x9 2015 then
        fX11_buysOff_45 n9 l1 (l3 + (1 : Int32)) (pn_up σ 86 (Int32.toNatClampNeg x9) x11)
        else none

def fX11_buysOff (a1 : Int32) (σ : pn_S) : Option (pn_S) :=
  (fX11_at (σ 86 5) (3 : Int32) σ).bind fun x1 =>
  if pn_ib x1 2015 then
  (fX11_priceBy a1 (σ 86 10) σ).bind fun x2 =>
  if pn_ib x1 2015 then
  (fX11_at (σ 86 5) (4 : Int32) (pn_up σ 86 (Int32.toNatClampNeg x1) ((σ 86 (Int32.toNatClampNeg x1)) - x2))).bind fun x3 =>
  if pn_ib x3 2015 then
  fX11_buysOff_45 5000 a1 (0 : Int32) (pn_up (pn_up σ 86 (Int32.toNatClampNeg x1) ((σ 86 (Int32.toNatClampNeg x1)) - x2)) 86 (Int32.toNatClampNeg x3) (0 : Int32))
  else none
  else none
  else none

def fX11_buy_65   (l1 : Int32) (l2 : Int32) (s1 : Int32) (σ : pn_S) : Option (Int32 × pn_S) :=
  pn_bi (fX11_throwsIf s1 (1 : Int32) σ) fun x8 σ8 =>
  if x8 = 0 then
    (fX11_remembers σ8).bind fun σ10 =>
    (fX11_buysOff l2 σ10).bind fun σ11 =>
    (fX11_of l1 (3 : Int32) σ11).bind fun x12 =>
    some (x12, σ11)
  else
    some ((0 : Int32), σ8)

def fX11_buy_23   (l1 : Int32) (s1 : Int32) (σ : pn_S) : Option (Int32 × pn_S) :=
  pn_bi (fX11_throwsIf s1 (1 : Int32) σ) fun x2 σ2 =>
  if x2 = 0 then
    pn_bi (fX11_crowdOf l1 σ2) fun x4 σ4 =>
    (fX11_of l1 (3 : Int32) σ4).bind fun x5 =>
    (fX11_priceBy x4 (σ4 86 10) σ4).bind fun x6 =>
    if x6 ≤ x5 then
      fX11_buy_65 l1 x4 (0 : Int32) σ4
    else
      fX11_buy_65 l1 x4 (1 : Int32) σ4
  else
    some ((0 : Int32), σ2)

def fX11_buy  (σ : pn_S) : Option (Int32 × pn_S) :=
  if ((pn_up σ 85 0 (0 : Int32)) 86 5) = (-1 : Int32) then
    fX11_buy_23 ((pn_up σ 85 0 (0 : Int32)) 86 5) (1 : Int32) (pn_up σ 85 0 (0 : Int32))
  else
    fX11_buy_23 ((pn_up σ 85 0 (0 : Int32)) 86 5) (0 : Int32) (pn_up σ 85 0 (0 : Int32))

def fX11_feud_50   (l1 : Int32) (l2 : Int32) (s1 : Int32) (σ : pn_S) : Option (Int32 × pn_S) :=
  pn_bi (fX11_throwsIf s1 (2 : Int32) σ) fun x7 σ7 =>
  if x7 = 0 then
    (fX11_remembers σ7).bind fun σ9 =>
    (fX11_of l1 (5 : Int32) σ9).bind fun x10 =>
    (fX11_at l1 (5 : Int32) σ9).bind fun x11 =>
    if pn_ib x11 2015 then
    some (x10, (pn_up σ9 86 (Int32.toNatClampNeg x11) l2))
    else none
  else
    some ((0 : Int32), σ7)

def fX11_feud_32   (l1 : Int32) (l2 : Int32) (s1 : Int32) (σ : pn_S) : Option (Int32 × pn_S) :=
  pn_bi (fX11_throwsIf s1 (1 : Int32) σ) fun x4 σ4 =>
  if x4 = 0 then
    if l1 = l2 then
      fX11_feud_50 l1 l2 (1 : Int32) σ4
    else
      fX11_feud_50 l1 l2 (0 : Int32) σ4
  else
    some ((0 : Int32), σ4)

def fX11_feud_31   (l1 : Int32) (l2 : Int32) (σ : pn_S) : Option (Int32 × pn_S) :=
  fX11_feud_32 l1 l2 (0 : Int32) σ

def fX11_feud_27   (l1 : Int32) (l2 : Int32) (σ : pn_S) : Option (Int32 × pn_S) :=
  fX11_feud_32 l1 l2 (1 : Int32) σ

def fX11_feud (a1 : Int32) (a2 : Int32) (σ : pn_S) : Option (Int32 × pn_S) :=
  (fX11_nobody a1 (pn_up σ 85 0 (0 : Int32))).bind fun x1 =>
  if x1 = 0 then
    if a2 = (-1 : Int32) then
      fX11_feud_31 a1 a2 (pn_up σ 85 0 (0 : Int32))
    else
      (fX11_nobody a2 (pn_up σ 85 0 (0 : Int32))).bind fun x12 =>
      if x12 = 0 then
        fX11_feud_31 a1 a2 (pn_up σ 85 0 (0 : Int32))
      else
        fX11_feud_27 a1 a2 (pn_up σ 85 0 (0 : Int32))
  else
    fX11_feud_27 a1 a2 (pn_up σ 85 0 (0 : Int32))

def fX11_tellsOf_34   (l1 : Int32) (l2 : Int32) (l3 : Int32) (s1 : Int32) (σ : pn_S) : Option (Int32 × pn_S) :=
  pn_bi (fX11_throwsIf s1 (2 : Int32) σ) fun x6 σ6 =>
  if x6 = 0 then
    (fX11_remembers σ6).bind fun σ8 =>
    (fX11_of l1 l2 σ8).bind fun x9 =>
    (fX11_at l1 l2 σ8).bind fun x10 =>
    if pn_ib x10 2015 then
    some (x9, (pn_up σ8 86 (Int32.toNatClampNeg x10) l3))
    else none
  else
    some ((0 : Int32), σ6)

def fX11_tellsOf (a1 : Int32) (a2 : Int32) (a3 : Int32) (a4 : Int32) (σ : pn_S) : Option (Int32 × pn_S) :=
  (fX11_nobody a1 (pn_up σ 85 0 (0 : Int32))).bind fun x1 =>
  pn_bi (fX11_throwsIf x1 (1 : Int32) (pn_up σ 85 0 (0 : Int32))) fun x2 σ2 =>
  if x2 = 0 then
    (fX11_in a3 (0 : Int32) a4 σ2).bind fun x4 =>
    if x4 = 0 then
      fX11_tellsOf_34 a1 a2 a3 (1 : Int32) σ2
    else
      fX11_tellsOf_34 a1 a2 a3 (0 : Int32) σ2
  else
    some ((0 : Int32), σ2)

def fX11_teach (a1 : Int32) (a2 : Int32) (σ : pn_S) : Option (Int32 × pn_S) :=
  pn_bi (fX11_tellsOf a1 (0 : Int32) a2 (8 : Int32) σ) fun x1 σ1 =>
  some (x1, σ1)

def fX11_wrong (a1 : Int32) (a2 : Int32) (σ : pn_S) : Option (Int32 × pn_S) :=
  pn_bi (fX11_tellsOf a1 (4 : Int32) a2 (9 : Int32) σ) fun x1 σ1 =>
  some (x1, σ1)

def fX11_give_35   (l1 : Int32) (l2 : Int32) (s1 : Int32) (σ : pn_S) : Option (Int32 × pn_S) :=
  pn_bi (fX11_throwsIf s1 (2 : Int32) σ) fun x6 σ6 =>
  if x6 = 0 then
    (fX11_remembers σ6).bind fun σ8 =>
    (fX11_at l1 (3 : Int32) σ8).bind fun x9 =>
    (fX11_of l1 (3 : Int32) σ8).bind fun x10 =>
    (fJ9_min_7cf53 (9999 : Int32) (x10 + l2) σ8).bind fun x11 =>
    if pn_ib x9 2015 then
    (fX11_of l1 (3 : Int32) (pn_up σ8 86 (Int32.toNatClampNeg x9) x11)).bind fun x12 =>
    some (x12, (pn_up σ8 86 (Int32.toNatClampNeg x9) x11))
    else none
  else
    some ((0 : Int32), σ6)

def fX11_give (a1 : Int32) (a2 : Int32) (σ : pn_S) : Option (Int32 × pn_S) :=
  (fX11_nobody a1 (pn_up σ 85 0 (0 : Int32))).bind fun x1 =>
  pn_bi (fX11_throwsIf x1 (1 : Int32) (pn_up σ 85 0 (0 : Int32))) fun x2 σ2 =>
  if x2 = 0 then
    (fX11_in a2 (1 : Int32) (999 : Int32) σ2).bind fun x4 =>
    if x4 = 0 then
      fX11_give_35 a1 a2 (1 : Int32) σ2
    else
      fX11_give_35 a1 a2 (0 : Int32) σ2
  else
    some ((0 : Int32), σ2)

def fX11_tells_5 : Nat → Int32 → Int32 → Int32 → Int32 → pn_S → Option (pn_S)
  | 0, _, _, _, _, _ => none
  | n9 + 1, l1, l2, l3, l4, σ =>
    if l4 < (4 : Int32) then
      (fJ9_min_7cf53 (60 : Int32) (((pn_up (pn_up (pn_up (pn_up σ 86 77 (σ 86 3)) 86 78 l1) 86 79 l2) 86 80 l3) 86 11) + (1 : Int32)) (pn_up (pn_up (pn_up (pn_up σ 86 77 (σ 86 3)) 86 78 l1) 86 79 l2) 86 80 l3)).bind fun x2 =>
      some (pn_up (pn_up (pn_up (pn_up (pn_up σ 86 77 (σ 86 3)) 86 78 l1) 86 79 l2) 86 80 l3) 86 11 x2)
    else
      if pn_ib (((77 : Int32) + l4) - (4 : Int32)) 2015 then
      if pn_ib ((77 : Int32) + l4) 2015 then
      fX11_tells_5 n9 l1 l2 l3 (l4 + (-1 : Int32)) (pn_up σ 86 (Int32.toNatClampNeg ((77 : Int32) + l4)) (σ 86 (Int32.toNatClampNeg (((77 : Int32) + l4) - (4 : Int32)))))
      else none
      else none

def fX11_tells (a1 : Int32) (a2 : Int32) (a3 : Int32) (σ : pn_S) : Option (pn_S) :=
  fX11_tells_5 5000 a1 a2 a3 (239 : Int32) σ

def fX11_fines_2 : Nat → Int32 → Int32 → pn_S → Option (pn_S)
  | 0, _, _, _ => none
  | n9 + 1, l1, l2, σ =>
    (fX11_people σ).bind fun x1 =>
    if x1 ≤ l2 then
      some σ
    else
      (fX11_has l1 l2 σ).bind fun x3 =>
      if x3 = 0 then
        fX11_fines_2 n9 l1 (l2 + (1 : Int32)) σ
      else
        (fX11_at l2 (3 : Int32) σ).bind fun x5 =>
        if pn_ib x5 2015 then
        (fX11_of l2 (3 : Int32) σ).bind fun x6 =>
        (fJ9_min_7cf53 x6 (σ 86 9) σ).bind fun x7 =>
        if pn_ib x5 2015 then
        fX11_fines_2 n9 l1 (l2 + (1 : Int32)) (pn_up σ 86 (Int32.toNatClampNeg x5) ((σ 86 (Int32.toNatClampNeg x5)) - x7))
        else none
        else none

def fX11_fines (a1 : Int32) (σ : pn_S) : Option (pn_S) :=
  fX11_fines_2 5000 a1 (0 : Int32) σ

def fX11_paysOff (a1 : Int32) (a2 : Int32) (σ : pn_S) : Option (Int32 × pn_S) :=
  pn_bi (fX11_noiseOf a2 a1 σ) fun x1 σ1 =>
  (fX11_of a1 (2 : Int32) σ1).bind fun x2 =>
  if x1 < x2 then
    some ((0 : Int32), σ1)
  else
    (fX11_of a1 (3 : Int32) σ1).bind fun x4 =>
    (fX11_priceBy a2 (σ1 86 10) σ1).bind fun x5 =>
    if x4 < x5 then
      some ((0 : Int32), σ1)
    else
      some ((1 : Int32), σ1)

def fX11_leadsTo_40   (l1 : Int32) (l3 : Int32) (σ : pn_S) : Option (Int32 × pn_S) :=
  pn_bi (fX11_paysOff l3 l1 σ) fun x5 σ5 =>
  if x5 = 0 then
    (fX11_at l3 (2 : Int32) σ5).bind fun x7 =>
    (fX11_of l3 (2 : Int32) σ5).bind fun x8 =>
    pn_bi (fX11_noiseOf l1 l3 σ5) fun x9 σ9 =>
    (fJ9_max_7cf53 (0 : Int32) (x8 - (x9 / (4 : Int32))) σ9).bind fun x10 =>
    if pn_ib x7 2015 then
    some ((3 : Int32), (pn_up σ9 86 (Int32.toNatClampNeg x7) x10))
    else none
  else
    (fX11_buysOff l1 σ5).bind fun σ11 =>
    some ((2 : Int32), σ11)

def fX11_leadsTo (a1 : Int32) (a2 : Int32) (σ : pn_S) : Option (Int32 × pn_S) :=
  if a1 = 0 then
    some ((0 : Int32), σ)
  else
    if a2 = 0 then
      pn_bi (fX11_drawn (100 : Int32) σ) fun x3 σ3 =>
      if (σ3 86 8) ≤ x3 then
        fX11_leadsTo_40 a1 (σ 86 5) σ3
      else
        (fX11_fines a1 σ3).bind fun σ12 =>
        some ((1 : Int32), σ12)
    else
      fX11_leadsTo_40 a1 (σ 86 5) σ

def fX11_bears  (σ : pn_S) : Option (pn_S) :=
  if (3 : Int32) ≤ ((pn_up σ 86 6 ((σ 86 6) + (1 : Int32))) 86 6) then
    (fX11_at ((pn_up σ 86 6 ((σ 86 6) + (1 : Int32))) 86 5) (4 : Int32) (pn_up σ 86 6 ((σ 86 6) + (1 : Int32)))).bind fun x2 =>
    if pn_ib x2 2015 then
    (fX11_noTarget (pn_up (pn_up σ 86 6 ((σ 86 6) + (1 : Int32))) 86 (Int32.toNatClampNeg x2) (0 : Int32))).bind fun σ3 =>
    some σ3
    else none
  else
    some (pn_up σ 86 6 ((σ 86 6) + (1 : Int32)))

def fX11_oneNight_87   (l3 : Int32) (σ : pn_S) : Option (Int32 × pn_S) :=
  (fJ9_min_7cf53 (9999 : Int32) ((σ 86 3) + (1 : Int32)) σ).bind fun x6 =>
  (fJ6_bitCount_0f7a4 l3 (pn_up σ 86 3 x6)).bind fun x7 =>
  some (x7, (pn_up σ 86 3 x6))

def fX11_oneNight_52   (l1 : Int32) (l2 : Int32) (s0 : Int32) (σ : pn_S) : Option (Int32 × pn_S) :=
  if l2 = (-1 : Int32) then
    fX11_oneNight_87 s0 σ
  else
    pn_bi (fX11_leadsTo s0 l1 σ) fun x8 σ8 =>
    (fJ6_bitCount_0f7a4 s0 σ8).bind fun x9 =>
    (fX11_tells l2 x9 x8 σ8).bind fun σ10 =>
    if x8 = (2 : Int32) then
      fX11_oneNight_87 s0 σ10
    else
      (fX11_bears σ10).bind fun σ12 =>
      fX11_oneNight_87 s0 σ12

def fX11_oneNight_30   (l1 : Int32) (s1 : Int32) (s2 : Int32) (σ : pn_S) : Option (Int32 × pn_S) :=
  if pn_ib s1 2015 then
  if ((pn_up σ 86 (Int32.toNatClampNeg s1) s2) 86 5) = (-1 : Int32) then
    fX11_oneNight_52 l1 ((pn_up σ 86 (Int32.toNatClampNeg s1) s2) 86 5) (0 : Int32) (pn_up σ 86 (Int32.toNatClampNeg s1) s2)
  else
    pn_bi (fX11_crowdOf ((pn_up σ 86 (Int32.toNatClampNeg s1) s2) 86 5) (pn_up σ 86 (Int32.toNatClampNeg s1) s2)) fun x13 σ13 =>
    fX11_oneNight_52 l1 ((pn_up σ 86 (Int32.toNatClampNeg s1) s2) 86 5) x13 σ13
  else none

def fX11_oneNight_29   (l1 : Int32) (s1 : Int32) (σ : pn_S) : Option (Int32 × pn_S) :=
  fX11_oneNight_30 l1 s1 (0 : Int32) σ

def fX11_oneNight (a1 : Int32) (σ : pn_S) : Option (Int32 × pn_S) :=
  if a1 = 0 then
    pn_bi (fX11_drawn (100 : Int32) σ) fun x2 σ2 =>
    if (σ2 86 7) ≤ x2 then
      fX11_oneNight_29 a1 (4 : Int32) σ2
    else
      fX11_oneNight_30 a1 (4 : Int32) (1 : Int32) σ2
  else
    fX11_oneNight_29 a1 (4 : Int32) σ

def fX11_goesOn_5 : Nat → Int32 → Int32 → Int32 → Int32 → pn_S → Option (Int32 × pn_S)
  | 0, _, _, _, _, _ => none
  | n9 + 1, l1, l2, l3, l4, σ =>
    if l1 ≤ l4 then
      some (l3, σ)
    else
      pn_bi (fX11_oneNight l2 σ) fun x2 σ2 =>
      fX11_goesOn_5 n9 l1 l2 (l3 + x2) (l4 + (1 : Int32)) σ2

def fX11_goesOn (a1 : Int32) (a2 : Int32) (σ : pn_S) : Option (Int32 × pn_S) :=
  fX11_goesOn_5 5000 a1 a2 (0 : Int32) (0 : Int32) σ

def fX11_keepsAll_2 : Nat → Int32 → pn_S → Option (pn_S)
  | 0, _, _ => none
  | n9 + 1, l1, σ =>
    if (317 : Int32) ≤ l1 then
      some σ
    else
      if pn_ib l1 2015 then
      if pn_ib l1 317 then
      fX11_keepsAll_2 n9 (l1 + (1 : Int32)) (pn_up σ 89 (Int32.toNatClampNeg l1) (σ 86 (Int32.toNatClampNeg l1)))
      else none
      else none

def fX11_keepsAll  (σ : pn_S) : Option (pn_S) :=
  fX11_keepsAll_2 5000 (0 : Int32) σ

def fX11_bringsBack_2 : Nat → Int32 → pn_S → Option (pn_S)
  | 0, _, _ => none
  | n9 + 1, l1, σ =>
    if (317 : Int32) ≤ l1 then
      some σ
    else
      if pn_ib l1 317 then
      if pn_ib l1 2015 then
      fX11_bringsBack_2 n9 (l1 + (1 : Int32)) (pn_up σ 86 (Int32.toNatClampNeg l1) (σ 89 (Int32.toNatClampNeg l1)))
      else none
      else none

def fX11_bringsBack  (σ : pn_S) : Option (pn_S) :=
  fX11_bringsBack_2 5000 (0 : Int32) σ

def fX11_nights_21   (l1 : Int32) (s1 : Int32) (σ : pn_S) : Option (Int32 × pn_S) :=
  pn_bi (fX11_throwsIf s1 (1 : Int32) σ) fun x3 σ3 =>
  if x3 = 0 then
    (fX11_remembers σ3).bind fun σ5 =>
    pn_bi (fX11_goesOn l1 (0 : Int32) σ5) fun x6 σ6 =>
    some (x6, σ6)
  else
    some ((0 : Int32), σ3)

def fX11_nights (a1 : Int32) (σ : pn_S) : Option (Int32 × pn_S) :=
  (fX11_in a1 (1 : Int32) (60 : Int32) (pn_up σ 85 0 (0 : Int32))).bind fun x1 =>
  if x1 = 0 then
    fX11_nights_21 a1 (1 : Int32) (pn_up σ 85 0 (0 : Int32))
  else
    fX11_nights_21 a1 (0 : Int32) (pn_up σ 85 0 (0 : Int32))

def fX11_noAhead (a0 : Int32) (σ : pn_S) : Option (Int32) :=
  (fX11_in a0 (0 : Int32) (60 : Int32) σ).bind fun x1 =>
  if x1 = 0 then
    some (1 : Int32)
  else
    some (0 : Int32)

def fX11_ends_58   (l1 : Int32) (σ : pn_S) : Option (Int32 × pn_S) :=
  (fX11_bringsBack σ).bind fun σ5 =>
  some (l1, σ5)

def fX11_ends_22 : Nat → Int32 → Int32 → pn_S → Option (Int32 × pn_S)
  | 0, _, _, _ => none
  | n9 + 1, l1, l2, σ =>
    if (60 : Int32) < l2 then
      fX11_ends_58 l1 σ
    else
      if l1 = (-1 : Int32) then
        pn_bi (fX11_oneNight (1 : Int32) σ) fun x7 σ7 =>
        (fX11_hasTarget σ7).bind fun x8 =>
        if x8 = 0 then
          fX11_ends_22 n9 l2 (l2 + (1 : Int32)) σ7
        else
          fX11_ends_22 n9 (-1 : Int32) (l2 + (1 : Int32)) σ7
      else
        fX11_ends_58 l1 σ

def fX11_ends  (σ : pn_S) : Option (Int32 × pn_S) :=
  (fX11_hasTarget (pn_up σ 85 0 (0 : Int32))).bind fun x1 =>
  if x1 = 0 then
    some ((-1 : Int32), (pn_up σ 85 0 (0 : Int32)))
  else
    (fX11_keepsAll (pn_up σ 85 0 (0 : Int32))).bind fun σ3 =>
    fX11_ends_22 5000 (-1 : Int32) (1 : Int32) σ3

def fX11_spent (a1 : Int32) (a2 : Int32) (σ : pn_S) : Option (Int32 × pn_S) :=
  (fX11_nobody a1 (pn_up σ 85 0 (0 : Int32))).bind fun x1 =>
  pn_bi (fX11_throwsIf x1 (1 : Int32) (pn_up σ 85 0 (0 : Int32))) fun x2 σ2 =>
  if x2 = 0 then
    (fX11_noAhead a2 σ2).bind fun x4 =>
    pn_bi (fX11_throwsIf x4 (2 : Int32) σ2) fun x5 σ5 =>
    if x5 = 0 then
      (fX11_of a1 (3 : Int32) σ5).bind fun x7 =>
      (fX11_keepsAll σ5).bind fun σ8 =>
      pn_bi (fX11_goesOn a2 (1 : Int32) σ8) fun x9 σ9 =>
      (fX11_of a1 (3 : Int32) σ9).bind fun x10 =>
      (fX11_bringsBack σ9).bind fun σ11 =>
      some (x7 - x10, σ11)
    else
      some ((0 : Int32), σ5)
  else
    some ((0 : Int32), σ2)

def fX11_calm (a1 : Int32) (σ : pn_S) : Option (Int32 × pn_S) :=
  (fX11_noAhead a1 (pn_up σ 85 0 (0 : Int32))).bind fun x1 =>
  pn_bi (fX11_throwsIf x1 (1 : Int32) (pn_up σ 85 0 (0 : Int32))) fun x2 σ2 =>
  if x2 = 0 then
    (fX11_hasTarget σ2).bind fun x4 =>
    if x4 = 0 then
      some ((0 : Int32), σ2)
    else
      (fX11_keepsAll σ2).bind fun σ6 =>
      pn_bi (fX11_goesOn a1 (1 : Int32) σ6) fun x7 σ7 =>
      (fX11_of (σ2 86 5) (2 : Int32) σ7).bind fun x8 =>
      (fX11_bringsBack σ7).bind fun σ9 =>
      some (x8, σ9)
  else
    some ((0 : Int32), σ2)

def fX11_fewest_57 : Nat → Int32 → Int32 → Int32 → Int32 → Int32 → pn_S → Option (Int32 × pn_S)
  | 0, _, _, _, _, _, _ => none
  | n9 + 1, l1, l2, l3, l4, l5, σ =>
    (fX11_everybody σ).bind fun x9 =>
    if x9 < l5 then
      some (l3, σ)
    else
      (fJ6_bitCount_0f7a4 l5 σ).bind fun x11 =>
      if l4 ≤ x11 then
        fX11_fewest_57 n9 l1 l2 l3 l4 (l5 + (1 : Int32)) σ
      else
        pn_bi (fX11_gathers l1 l5 (0 : Int32) σ) fun x13 σ13 =>
        (fJ6_bitCount_0f7a4 x13 σ13).bind fun x14 =>
        if l2 ≤ x14 then
          (fJ6_bitCount_0f7a4 l5 σ13).bind fun x16 =>
          fX11_fewest_57 n9 l1 l2 l5 x16 (l5 + (1 : Int32)) σ13
        else
          fX11_fewest_57 n9 l1 l2 l3 l4 (l5 + (1 : Int32)) σ13

def fX11_fewest_34   (l1 : Int32) (l2 : Int32) (s1 : Int32) (σ : pn_S) : Option (Int32 × pn_S) :=
  pn_bi (fX11_throwsIf s1 (2 : Int32) σ) fun x6 σ6 =>
  if x6 = 0 then
    (fX11_laysNeeds l1 σ6).bind fun σ8 =>
    fX11_fewest_57 5000 l1 l2 (-1 : Int32) (9 : Int32) (0 : Int32) σ8
  else
    some ((0 : Int32), σ6)

def fX11_fewest (a1 : Int32) (a2 : Int32) (σ : pn_S) : Option (Int32 × pn_S) :=
  (fX11_nobody a1 (pn_up σ 85 0 (0 : Int32))).bind fun x1 =>
  pn_bi (fX11_throwsIf x1 (1 : Int32) (pn_up σ 85 0 (0 : Int32))) fun x2 σ2 =>
  if x2 = 0 then
    (fX11_in a2 (0 : Int32) (8 : Int32) σ2).bind fun x4 =>
    if x4 = 0 then
      fX11_fewest_34 a1 a2 (1 : Int32) σ2
    else
      fX11_fewest_34 a1 a2 (0 : Int32) σ2
  else
    some ((0 : Int32), σ2)

def fX11_keep_35 : Nat → Int32 → Int32 → Int32 → Int32 → Int32 → pn_S → Option (Int32 × pn_S)
  | 0, _, _, _, _, _, _ => none
  | n9 + 1, l1, l2, l3, l4, l5, σ =>
    if l2 < l5 then
      some (l3, σ)
    else
      if (l5 &&& (l2 ^^^ (-1 : Int32))) = 0 then
        (fJ6_bitCount_0f7a4 l5 σ).bind fun x7 =>
        if x7 < l4 then
          (fX11_beginners σ).bind fun x9 =>
          pn_bi (fX11_gathers l1 x9 l5 σ) fun x10 σ10 =>
          pn_bi (fX11_noiseOf x10 l1 σ10) fun x11 σ11 =>
          (fX11_of l1 (2 : Int32) σ11).bind fun x12 =>
          if x11 < x12 then
            (fJ6_bitCount_0f7a4 l5 σ11).bind fun x14 =>
            fX11_keep_35 n9 l1 l2 l5 x14 (l5 + (1 : Int32)) σ11
          else
            fX11_keep_35 n9 l1 l2 l3 l4 (l5 + (1 : Int32)) σ11
        else
          fX11_keep_35 n9 l1 l2 l3 l4 (l5 + (1 : Int32)) σ
      else
        fX11_keep_35 n9 l1 l2 l3 l4 (l5 + (1 : Int32)) σ

def fX11_keep (a1 : Int32) (σ : pn_S) : Option (Int32 × pn_S) :=
  (fX11_nobody a1 (pn_up σ 85 0 (0 : Int32))).bind fun x1 =>
  pn_bi (fX11_throwsIf x1 (1 : Int32) (pn_up σ 85 0 (0 : Int32))) fun x2 σ2 =>
  if x2 = 0 then
    pn_bi (fX11_crowdOf a1 σ2) fun x4 σ4 =>
    fX11_keep_35 5000 a1 x4 (-1 : Int32) (9 : Int32) (0 : Int32) σ4
  else
    some ((0 : Int32), σ2)

def fX11_tips_88  (rec36 : Int32 → Int32 → Int32 → Int32 → Int32 → pn_S → Option (Int32 × pn_S)) (l1 : Int32) (l2 : Int32) (l4 : Int32) (l5 : Int32) (l6 : Int32) (s0 : Int32) (σ : pn_S) : Option (Int32 × pn_S) :=
  (fJ9_min_7cf53 l4 l6 σ).bind fun x13 =>
  rec36 l1 l2 s0 x13 (l5 + (1 : Int32)) σ

def fX11_tips_36 : Nat → Int32 → Int32 → Int32 → Int32 → Int32 → pn_S → Option (Int32 × pn_S)
  | 0, _, _, _, _, _, _ => none
  | n9 + 1, l1, l2, l3, l4, l5, σ =>
    (fX11_people σ).bind fun x5 =>
    if x5 ≤ l5 then
      some (l3, σ)
    else
      (fX11_has l2 l5 σ).bind fun x7 =>
      if x7 = 0 then
        fX11_tips_36 n9 l1 l2 l3 l4 (l5 + (1 : Int32)) σ
      else
        (fX11_beginners σ).bind fun x9 =>
        pn_bi (fX11_gathers l1 x9 ((1 : Int32) <<< (l5 &&& 31)) σ) fun x10 σ10 =>
        (fJ6_bitCount_0f7a4 x10 σ10).bind fun x11 =>
        if l4 ≤ x11 then
          fX11_tips_88 (fX11_tips_36 n9) l1 l2 l4 l5 x11 l3 σ10
        else
          fX11_tips_88 (fX11_tips_36 n9) l1 l2 l4 l5 x11 l5 σ10

def fX11_tips (a1 : Int32) (σ : pn_S) : Option (Int32 × pn_S) :=
  (fX11_nobody a1 (pn_up σ 85 0 (0 : Int32))).bind fun x1 =>
  pn_bi (fX11_throwsIf x1 (1 : Int32) (pn_up σ 85 0 (0 : Int32))) fun x2 σ2 =>
  if x2 = 0 then
    pn_bi (fX11_crowdOf a1 σ2) fun x4 σ4 =>
    fX11_tips_36 5000 a1 x4 (-1 : Int32) (1000000 : Int32) (0 : Int32) σ4
  else
    some ((0 : Int32), σ2)

def fX11_price (a1 : Int32) (σ : pn_S) : Option (Int32 × pn_S) :=
  (fX11_nobody a1 (pn_up σ 85 0 (0 : Int32))).bind fun x1 =>
  pn_bi (fX11_throwsIf x1 (1 : Int32) (pn_up σ 85 0 (0 : Int32))) fun x2 σ2 =>
  if x2 = 0 then
    pn_bi (fX11_crowdOf a1 σ2) fun x4 σ4 =>
    (fX11_priceBy x4 (σ4 86 10) σ4).bind fun x5 =>
    some (x5, σ4)
  else
    some ((0 : Int32), σ2)

def fX11_can (a1 : Int32) (σ : pn_S) : Option (Int32 × pn_S) :=
  (fX11_nobody a1 (pn_up σ 85 0 (0 : Int32))).bind fun x1 =>
  pn_bi (fX11_throwsIf x1 (1 : Int32) (pn_up σ 85 0 (0 : Int32))) fun x2 σ2 =>
  if x2 = 0 then
    (fX11_of a1 (3 : Int32) σ2).bind fun x4 =>
    pn_bi (fX11_crowdOf a1 σ2) fun x5 σ5 =>
    (fX11_priceBy x5 (σ5 86 10) σ5).bind fun x6 =>
    if x4 < x6 then
      some ((0 : Int32), σ5)
    else
      some ((1 : Int32), σ5)
  else
    some ((0 : Int32), σ2)

def fX11_paidBy (a1 : Int32) (a2 : Int32) (σ : pn_S) : Option (Int32 × pn_S) :=
  pn_bi (fX11_crowdOf a1 σ) fun x1 σ1 =>
  (fX11_priceBy x1 a2 σ1).bind fun x2 =>
  pn_bi (fX11_noiseOf x1 a1 σ1) fun x3 σ3 =>
  (fX11_of a1 (2 : Int32) σ3).bind fun x4 =>
  if x3 < x4 then
    some ((-1 : Int32), σ3)
  else
    (fX11_of a1 (3 : Int32) σ3).bind fun x6 =>
    if x6 < x2 then
      some ((-1 : Int32), σ3)
    else
      some (x2, σ3)

def fX11_dearest_56  (rec11 : Int32 → Int32 → Int32 → pn_S → Option (Int32 × pn_S)) (l2 : Int32) (l3 : Int32) (l4 : Int32) (s0 : Int32) (σ : pn_S) : Option (Int32 × pn_S) :=
  (fJ9_max_7cf53 l2 l4 σ).bind fun x6 =>
  rec11 s0 x6 (l3 + (1 : Int32)) σ

def fX11_dearest_43  (rec11 : Int32 → Int32 → Int32 → pn_S → Option (Int32 × pn_S)) (l1 : Int32) (l2 : Int32) (l3 : Int32) (s0 : Int32) (σ : pn_S) : Option (Int32 × pn_S) :=
  if s0 ≤ l2 then
    fX11_dearest_56 rec11 l2 l3 s0 l1 σ
  else
    fX11_dearest_56 rec11 l2 l3 s0 l3 σ

def fX11_dearest_11 : Nat → Int32 → Int32 → Int32 → pn_S → Option (Int32 × pn_S)
  | 0, _, _, _, _ => none
  | n9 + 1, l1, l2, l3, σ =>
    (fX11_people σ).bind fun x1 =>
    if x1 ≤ l3 then
      some (l1, σ)
    else
      pn_bi (fX11_crowdOf l3 σ) fun x3 σ3 =>
      if x3 = 0 then
        fX11_dearest_43 (fX11_dearest_11 n9) l1 l2 l3 (-1 : Int32) σ3
      else
        pn_bi (fX11_paidBy l3 (σ3 86 10) σ3) fun x7 σ7 =>
        fX11_dearest_43 (fX11_dearest_11 n9) l1 l2 l3 x7 σ7

def fX11_dearest  (σ : pn_S) : Option (Int32 × pn_S) :=
  fX11_dearest_11 5000 (-1 : Int32) (-1 : Int32) (0 : Int32) (pn_up σ 85 0 (0 : Int32))

def fX11_broughtBy_4 : Nat → Int32 → Int32 → Int32 → pn_S → Option (Int32 × pn_S)
  | 0, _, _, _, _ => none
  | n9 + 1, l1, l2, l3, σ =>
    (fX11_people σ).bind fun x1 =>
    if x1 ≤ l3 then
      some (l2, σ)
    else
      pn_bi (fX11_paidBy l3 l1 σ) fun x3 σ3 =>
      (fJ9_max_7cf53 (0 : Int32) x3 σ3).bind fun x4 =>
      fX11_broughtBy_4 n9 l1 (l2 + x4) (l3 + (1 : Int32)) σ3

def fX11_broughtBy (a1 : Int32) (σ : pn_S) : Option (Int32 × pn_S) :=
  fX11_broughtBy_4 5000 a1 (0 : Int32) (0 : Int32) σ

def fX11_brings_21   (l1 : Int32) (s1 : Int32) (σ : pn_S) : Option (Int32 × pn_S) :=
  pn_bi (fX11_throwsIf s1 (1 : Int32) σ) fun x3 σ3 =>
  if x3 = 0 then
    pn_bi (fX11_broughtBy l1 σ3) fun x5 σ5 =>
    some (x5, σ5)
  else
    some ((0 : Int32), σ3)

def fX11_brings (a1 : Int32) (σ : pn_S) : Option (Int32 × pn_S) :=
  (fX11_in a1 (0 : Int32) (20 : Int32) (pn_up σ 85 0 (0 : Int32))).bind fun x1 =>
  if x1 = 0 then
    fX11_brings_21 a1 (1 : Int32) (pn_up σ 85 0 (0 : Int32))
  else
    fX11_brings_21 a1 (0 : Int32) (pn_up σ 85 0 (0 : Int32))

def fX11_best_35  (rec11 : Int32 → Int32 → Int32 → pn_S → Option (Int32 × pn_S)) (l2 : Int32) (l3 : Int32) (l4 : Int32) (s0 : Int32) (σ : pn_S) : Option (Int32 × pn_S) :=
  (fJ9_max_7cf53 l2 l4 σ).bind fun x4 =>
  rec11 s0 x4 (l3 + (1 : Int32)) σ

def fX11_best_11 : Nat → Int32 → Int32 → Int32 → pn_S → Option (Int32 × pn_S)
  | 0, _, _, _, _ => none
  | n9 + 1, l1, l2, l3, σ =>
    if (20 : Int32) < l3 then
      some (l1, σ)
    else
      pn_bi (fX11_broughtBy l3 σ) fun x2 σ2 =>
      if x2 ≤ l2 then
        fX11_best_35 (fX11_best_11 n9) l2 l3 x2 l1 σ2
      else
        fX11_best_35 (fX11_best_11 n9) l2 l3 x2 l3 σ2

def fX11_best  (σ : pn_S) : Option (Int32 × pn_S) :=
  fX11_best_11 5000 (0 : Int32) (-1 : Int32) (0 : Int32) (pn_up σ 85 0 (0 : Int32))

def fX11_thirstOf_4 : Nat → Int32 → Int32 → Int32 → pn_S → Option (Int32)
  | 0, _, _, _, _ => none
  | n9 + 1, l1, l2, l3, σ =>
    (fX11_people σ).bind fun x1 =>
    if x1 ≤ l3 then
      some l2
    else
      (fX11_has l1 l3 σ).bind fun x3 =>
      if x3 = 0 then
        fX11_thirstOf_4 n9 l1 (l2 + (0 : Int32)) (l3 + (1 : Int32)) σ
      else
        (fX11_of l3 (1 : Int32) σ).bind fun x5 =>
        fX11_thirstOf_4 n9 l1 (l2 + x5) (l3 + (1 : Int32)) σ

def fX11_thirstOf (a1 : Int32) (σ : pn_S) : Option (Int32) :=
  fX11_thirstOf_4 5000 a1 (0 : Int32) (0 : Int32) σ

def fX11_oneHas (a1 : Int32) (a2 : Int32) (a3 : Int32) (σ : pn_S) : Option (Int32 × pn_S) :=
  if a3 = (1 : Int32) then
    if a2 = 0 then
      some ((-1 : Int32), σ)
    else
      some ((0 : Int32), σ)
  else
    if a2 = 0 then
      pn_bi (fX11_crowdOf a1 σ) fun x4 σ4 =>
      (fX11_priceBy x4 (σ4 86 10) σ4).bind fun x5 =>
      some (-x5, σ4)
    else
      if a2 = (1 : Int32) then
        pn_bi (fX11_loudTo a1 σ) fun x7 σ7 =>
        some (-x7, σ7)
      else
        (fX11_of a1 (4 : Int32) σ).bind fun x8 =>
        some (-x8, σ)

def fX11_villageHas (a1 : Int32) (a2 : Int32) (a3 : Int32) (σ : pn_S) : Option (Int32 × pn_S) :=
  if a3 = (1 : Int32) then
    some ((0 : Int32), σ)
  else
    if a2 = 0 then
      pn_bi (fX11_crowdOf a1 σ) fun x3 σ3 =>
      (fX11_thirstOf x3 σ3).bind fun x4 =>
      some (x4, σ3)
    else
      if a2 = (1 : Int32) then
        pn_bi (fX11_loudTo a1 σ) fun x6 σ6 =>
        some (x6, σ6)
      else
        some ((-1 : Int32), σ)

def fX11_doRest_29 : Nat → Int32 → Int32 → Int32 → Int32 → Int32 → pn_S → Option (Int32 × pn_S)
  | 0, _, _, _, _, _, _ => none
  | n9 + 1, l1, l2, l3, l4, l5, σ =>
    if (3 : Int32) ≤ l5 then
      if pn_b01 l4 then some (l4, σ) else none
    else
      if l4 = 0 then
        fX11_doRest_29 n9 l1 l2 l3 (0 : Int32) (l5 + (1 : Int32)) σ
      else
        pn_bi (fX11_oneHas l1 l2 l3 σ) fun x6 σ6 =>
        pn_bi (fX11_oneHas l1 l5 l3 σ6) fun x7 σ7 =>
        if x6 < x7 then
          fX11_doRest_29 n9 l1 l2 l3 (0 : Int32) (l5 + (1 : Int32)) σ7
        else
          fX11_doRest_29 n9 l1 l2 l3 (1 : Int32) (l5 + (1 : Int32)) σ7

def fX11_doRest (a1 : Int32) (a2 : Int32) (a3 : Int32) (σ : pn_S) : Option (Int32 × pn_S) :=
  pn_bi (fX11_villageHas a1 a2 a3 σ) fun x1 σ1 =>
  pn_bi (fX11_villageHas a1 a2 ((1 : Int32) - a3) σ1) fun x2 σ2 =>
  if x1 < x2 then
    fX11_doRest_29 5000 a1 a2 a3 (0 : Int32) (0 : Int32) σ2
  else
    fX11_doRest_29 5000 a1 a2 a3 (1 : Int32) (0 : Int32) σ2

def fX11_rests_32  (rec24 : Int32 → Int32 → Int32 → pn_S → Option (Int32 × pn_S)) : Nat → Int32 → Int32 → Int32 → Int32 → pn_S → Option (Int32 × pn_S)
  | 0, _, _, _, _, _ => none
  | n9 + 1, l1, l2, l3, l4, σ =>
    if (2 : Int32) ≤ l4 then
      rec24 l1 l2 (l3 + (1 : Int32)) σ
    else
      pn_bi (fX11_doRest l1 l3 l4 σ) fun x6 σ6 =>
      if x6 = 0 then
        fX11_rests_32 rec24 n9 l1 (l2 ||| (0 : Int32)) l3 (l4 + (1 : Int32)) σ6
      else
        fX11_rests_32 rec24 n9 l1 (l2 ||| ((1 : Int32) <<< ((((2 : Int32) * l3) + l4) &&& 31))) l3 (l4 + (1 : Int32)) σ6

def fX11_rests_24 : Nat → Int32 → Int32 → Int32 → pn_S → Option (Int32 × pn_S)
  | 0, _, _, _, _ => none
  | n9 + 1, l1, l2, l3, σ =>
    if (3 : Int32) ≤ l3 then
      some (l2, σ)
    else
      fX11_rests_32 (fX11_rests_24 n9) 5000 l1 l2 l3 (0 : Int32) σ

def fX11_rests (a1 : Int32) (σ : pn_S) : Option (Int32 × pn_S) :=
  (fX11_nobody a1 (pn_up σ 85 0 (0 : Int32))).bind fun x1 =>
  pn_bi (fX11_throwsIf x1 (1 : Int32) (pn_up σ 85 0 (0 : Int32))) fun x2 σ2 =>
  if x2 = 0 then
    fX11_rests_24 5000 a1 (0 : Int32) (0 : Int32) σ2
  else
    some ((0 : Int32), σ2)

def fX11_isTold_26 : Nat → Int32 → Int32 → Int32 → pn_S → Option (Int32)
  | 0, _, _, _, _ => none
  | n9 + 1, l1, l2, l3, σ =>
    if (σ 85 11) ≤ l3 then
      if pn_b01 l2 then some l2 else none
    else
      if l2 = 0 then
        if pn_b01 l2 then some l2 else none
      else
        if pn_ib l3 400 then
        (fX11_nobody (σ 91 (Int32.toNatClampNeg l3)) σ).bind fun x5 =>
        if x5 = 0 then
          if pn_ib (l3 + (1 : Int32)) 400 then
          (fX11_nobody (σ 91 (Int32.toNatClampNeg (l3 + (1 : Int32)))) σ).bind fun x7 =>
          if x7 = 0 then
            if pn_ib l3 400 then
            if (σ 91 (Int32.toNatClampNeg l3)) = l1 then
              fX11_isTold_26 n9 l1 (0 : Int32) (l3 + (2 : Int32)) σ
            else
              if pn_ib (l3 + (1 : Int32)) 400 then
              if (σ 91 (Int32.toNatClampNeg (l3 + (1 : Int32)))) = l1 then
                fX11_isTold_26 n9 l1 (0 : Int32) (l3 + (2 : Int32)) σ
              else
                if pn_ib l3 400 then
                if pn_ib (l3 + (1 : Int32)) 400 then
                if (σ 91 (Int32.toNatClampNeg l3)) = (σ 91 (Int32.toNatClampNeg (l3 + (1 : Int32)))) then
                  fX11_isTold_26 n9 l1 (0 : Int32) (l3 + (2 : Int32)) σ
                else
                  fX11_isTold_26 n9 l1 (1 : Int32) (l3 + (2 : Int32)) σ
                else none
                else none
              else none
            else none
          else
            fX11_isTold_26 n9 l1 (0 : Int32) (l3 + (2 : Int32)) σ
          else none
        else
          fX11_isTold_26 n9 l1 (0 : Int32) (l3 + (2 : Int32)) σ
        else none

def fX11_isTold (a1 : Int32) (σ : pn_S) : Option (Int32) :=
  if ((σ 85 11) - (σ 85 11) / (2 : Int32) * (2 : Int32)) = 0 then
    if (40 : Int32) < (σ 85 11) then
      fX11_isTold_26 5000 a1 (0 : Int32) (0 : Int32) σ
    else
      fX11_isTold_26 5000 a1 (1 : Int32) (0 : Int32) σ
  else
    fX11_isTold_26 5000 a1 (0 : Int32) (0 : Int32) σ

def fX11_fits_23 : Nat → Int32 → Int32 → pn_S → Option (Int32 × pn_S)
  | 0, _, _, _ => none
  | n9 + 1, l3, l4, σ =>
    if (σ 85 11) ≤ l4 then
      if pn_b01 l3 then some (l3, σ) else none
    else
      if l3 = 0 then
        fX11_fits_23 n9 (0 : Int32) (l4 + (2 : Int32)) σ
      else
        if pn_ib l4 400 then
        if pn_ib (σ 91 (Int32.toNatClampNeg l4)) 8 then
        if (σ 95 (Int32.toNatClampNeg (σ 91 (Int32.toNatClampNeg l4)))) = (-1 : Int32) then
          fX11_fits_23 n9 (0 : Int32) (l4 + (2 : Int32)) σ
        else
          if pn_ib (l4 + (1 : Int32)) 400 then
          if pn_ib (σ 91 (Int32.toNatClampNeg (l4 + (1 : Int32)))) 8 then
          if pn_ib l4 400 then
          if pn_ib (σ 91 (Int32.toNatClampNeg l4)) 8 then
          if (σ 95 (Int32.toNatClampNeg (σ 91 (Int32.toNatClampNeg (l4 + (1 : Int32)))))) ≤ (σ 95 (Int32.toNatClampNeg (σ 91 (Int32.toNatClampNeg l4)))) then
            fX11_fits_23 n9 (0 : Int32) (l4 + (2 : Int32)) σ
          else
            fX11_fits_23 n9 (1 : Int32) (l4 + (2 : Int32)) σ
          else none
          else none
          else none
          else none
        else none
        else none

def fX11_fits (a1 : Int32) (a2 : Int32) (σ : pn_S) : Option (Int32 × pn_S) :=
  (fX11_has a2 a1 σ).bind fun x1 =>
  if x1 = 0 then
    pn_bi (fX11_gathers a1 a2 (0 : Int32) σ) fun x3 σ3 =>
    fX11_fits_23 5000 (1 : Int32) (0 : Int32) σ3
  else
    some ((0 : Int32), σ)

def fX11_howManyFit_43  (rec5 : Int32 → Int32 → Int32 → Int32 → pn_S → Option (Int32 × pn_S)) (l1 : Int32) (l2 : Int32) (l4 : Int32) (s0 : Int32) (σ : pn_S) : Option (Int32 × pn_S) :=
  rec5 l1 l2 (s0 + (0 : Int32)) (l4 + (1 : Int32)) σ

def fX11_howManyFit_29  (rec5 : Int32 → Int32 → Int32 → Int32 → pn_S → Option (Int32 × pn_S)) (l1 : Int32) (l2 : Int32) (l4 : Int32) (s0 : Int32) (σ : pn_S) : Option (Int32 × pn_S) :=
  pn_bi (fX11_fits l1 l4 σ) fun x4 σ4 =>
  if x4 = 0 then
    fX11_howManyFit_43 rec5 l1 l2 l4 s0 σ4
  else
    rec5 l1 l2 (s0 + (1 : Int32)) (l4 + (1 : Int32)) σ4

def fX11_howManyFit_5 : Nat → Int32 → Int32 → Int32 → Int32 → pn_S → Option (Int32 × pn_S)
  | 0, _, _, _, _, _ => none
  | n9 + 1, l1, l2, l3, l4, σ =>
    (fX11_everybody σ).bind fun x1 =>
    if x1 < l4 then
      some (l3, σ)
    else
      if l2 = (-1 : Int32) then
        fX11_howManyFit_29 (fX11_howManyFit_5 n9) l1 l2 l4 l3 σ
      else
        (fX11_has l4 l2 σ).bind fun x6 =>
        if x6 = 0 then
          fX11_howManyFit_43 (fX11_howManyFit_5 n9) l1 l2 l4 l3 σ
        else
          fX11_howManyFit_29 (fX11_howManyFit_5 n9) l1 l2 l4 l3 σ

def fX11_howManyFit (a1 : Int32) (a2 : Int32) (σ : pn_S) : Option (Int32 × pn_S) :=
  fX11_howManyFit_5 5000 a1 a2 (0 : Int32) (0 : Int32) σ

def fX11_heard_97  (rec64 : Int32 → Int32 → Int32 → Int32 → pn_S → Option (Int32 × pn_S)) (l1 : Int32) (l3 : Int32) (l5 : Int32) (s0 : Int32) (σ : pn_S) : Option (Int32 × pn_S) :=
  rec64 l1 l3 (s0 ||| (0 : Int32)) (l5 + (1 : Int32)) σ

def fX11_heard_64 : Nat → Int32 → Int32 → Int32 → Int32 → pn_S → Option (Int32 × pn_S)
  | 0, _, _, _, _, _ => none
  | n9 + 1, l1, l3, l4, l5, σ =>
    (fX11_people σ).bind fun x12 =>
    if x12 ≤ l5 then
      some (l4, σ)
    else
      if l3 ≤ 0 then
        fX11_heard_97 (fX11_heard_64 n9) l1 l3 l5 l4 σ
      else
        pn_bi (fX11_howManyFit l1 l5 σ) fun x15 σ15 =>
        if x15 = l3 then
          fX11_heard_64 n9 l1 l3 (l4 ||| ((1 : Int32) <<< (l5 &&& 31))) (l5 + (1 : Int32)) σ15
        else
          fX11_heard_97 (fX11_heard_64 n9) l1 l3 l5 l4 σ15

def fX11_heard_31   (l1 : Int32) (l2 : Int32) (s1 : Int32) (σ : pn_S) : Option (Int32 × pn_S) :=
  pn_bi (fX11_throwsIf s1 (2 : Int32) σ) fun x7 σ7 =>
  if x7 = 0 then
    (fX11_laysNeeds l1 σ7).bind fun σ9 =>
    pn_bi (fX11_howManyFit l1 (-1 : Int32) σ9) fun x10 σ10 =>
    if l2 = 0 then
      some (x10, σ10)
    else
      fX11_heard_64 5000 l1 x10 (0 : Int32) (0 : Int32) σ10
  else
    some ((0 : Int32), σ7)

def fX11_heard (a1 : Int32) (a2 : Int32) (σ : pn_S) : Option (Int32 × pn_S) :=
  (fX11_uses σ).bind fun σ1 =>
  (fX11_nobody a1 σ1).bind fun x2 =>
  pn_bi (fX11_throwsIf x2 (1 : Int32) σ1) fun x3 σ3 =>
  if x3 = 0 then
    (fX11_isTold a1 σ3).bind fun x5 =>
    if x5 = 0 then
      fX11_heard_31 a1 a2 (1 : Int32) σ3
    else
      fX11_heard_31 a1 a2 (0 : Int32) σ3
  else
    some ((0 : Int32), σ3)

def fX11_ask_118  (rec62 : Int32 → Int32 → Int32 → Int32 → Int32 → pn_S → Option (Int32 × pn_S)) (l1 : Int32) (l2 : Int32) (l4 : Int32) (l5 : Int32) (l7 : Int32) (s0 : Int32) (σ : pn_S) : Option (Int32 × pn_S) :=
  (fJ9_min_7cf53 l4 l7 σ).bind fun x18 =>
  rec62 l1 l2 s0 x18 (l5 + (1 : Int32)) σ

def fX11_ask_62 : Nat → Int32 → Int32 → Int32 → Int32 → Int32 → pn_S → Option (Int32 × pn_S)
  | 0, _, _, _, _, _, _ => none
  | n9 + 1, l1, l2, l3, l4, l5, σ =>
    (fX11_people σ).bind fun x11 =>
    if x11 ≤ l5 then
      some (l3, σ)
    else
      if l2 ≤ (1 : Int32) then
        some (l3, σ)
      else
        if l5 = l1 then
          fX11_ask_62 n9 l1 l2 l3 l4 (l5 + (1 : Int32)) σ
        else
          pn_bi (fX11_howManyFit l1 l5 σ) fun x15 σ15 =>
          (fJ9_max_7cf53 x15 (l2 - x15) σ15).bind fun x16 =>
          if l4 ≤ x16 then
            fX11_ask_118 (fX11_ask_62 n9) l1 l2 l4 l5 x16 l3 σ15
          else
            fX11_ask_118 (fX11_ask_62 n9) l1 l2 l4 l5 x16 l5 σ15

def fX11_ask_31   (l1 : Int32) (s1 : Int32) (σ : pn_S) : Option (Int32 × pn_S) :=
  pn_bi (fX11_throwsIf s1 (2 : Int32) σ) fun x7 σ7 =>
  if x7 = 0 then
    (fX11_laysNeeds l1 σ7).bind fun σ9 =>
    pn_bi (fX11_howManyFit l1 (-1 : Int32) σ9) fun x10 σ10 =>
    fX11_ask_62 5000 l1 x10 (-1 : Int32) (1000000 : Int32) (0 : Int32) σ10
  else
    some ((0 : Int32), σ7)

def fX11_ask (a1 : Int32) (σ : pn_S) : Option (Int32 × pn_S) :=
  (fX11_uses σ).bind fun σ1 =>
  (fX11_nobody a1 σ1).bind fun x2 =>
  pn_bi (fX11_throwsIf x2 (1 : Int32) σ1) fun x3 σ3 =>
  if x3 = 0 then
    (fX11_isTold a1 σ3).bind fun x5 =>
    if x5 = 0 then
      fX11_ask_31 a1 (1 : Int32) σ3
    else
      fX11_ask_31 a1 (0 : Int32) σ3
  else
    some ((0 : Int32), σ3)

def fX11_feuded_68  (rec31 : Int32 → Int32 → Int32 → Int32 → pn_S → Option (Int32 × pn_S)) (l1 : Int32) (l2 : Int32) (l4 : Int32) (s0 : Int32) (σ : pn_S) : Option (Int32 × pn_S) :=
  rec31 l1 l2 (s0 ||| (0 : Int32)) (l4 + (1 : Int32)) σ

def fX11_feuded_31 : Nat → Int32 → Int32 → Int32 → Int32 → pn_S → Option (Int32 × pn_S)
  | 0, _, _, _, _, _ => none
  | n9 + 1, l1, l2, l3, l4, σ =>
    (fX11_people σ).bind fun x5 =>
    if x5 ≤ l4 then
      some (l3, σ)
    else
      (fX11_has l2 l4 σ).bind fun x7 =>
      if x7 = 0 then
        fX11_feuded_68 (fX11_feuded_31 n9) l1 l2 l4 l3 σ
      else
        (fX11_of l4 (5 : Int32) σ).bind fun x9 =>
        if x9 = l1 then
          fX11_feuded_31 n9 l1 l2 (l3 ||| ((1 : Int32) <<< (l4 &&& 31))) (l4 + (1 : Int32)) σ
        else
          fX11_feuded_68 (fX11_feuded_31 n9) l1 l2 l4 l3 σ

def fX11_feuded (a1 : Int32) (σ : pn_S) : Option (Int32 × pn_S) :=
  (fX11_nobody a1 (pn_up σ 85 0 (0 : Int32))).bind fun x1 =>
  pn_bi (fX11_throwsIf x1 (1 : Int32) (pn_up σ 85 0 (0 : Int32))) fun x2 σ2 =>
  if x2 = 0 then
    pn_bi (fX11_crowdOf a1 σ2) fun x4 σ4 =>
    fX11_feuded_31 5000 a1 x4 (0 : Int32) (0 : Int32) σ4
  else
    some ((0 : Int32), σ2)

def fX11_feuds_49  (rec9 : Int32 → Int32 → pn_S → Option (Int32 × pn_S)) (rec19 : Int32 → Int32 → Int32 → pn_S → Option (Int32 × pn_S)) (l2 : Int32) (l3 : Int32) (s0 : Int32) (σ : pn_S) : Option (Int32 × pn_S) :=
  rec19 (s0 + (0 : Int32)) l2 (l3 + (1 : Int32)) σ

def fX11_feuds_19  (rec9 : Int32 → Int32 → pn_S → Option (Int32 × pn_S)) : Nat → Int32 → Int32 → Int32 → pn_S → Option (Int32 × pn_S)
  | 0, _, _, _, _ => none
  | n9 + 1, l1, l2, l3, σ =>
    if l2 ≤ l3 then
      rec9 l1 (l2 + (1 : Int32)) σ
    else
      (fX11_of l2 (5 : Int32) σ).bind fun x4 =>
      if x4 = l3 then
        (fX11_of l3 (5 : Int32) σ).bind fun x6 =>
        if x6 = l2 then
          fX11_feuds_19 rec9 n9 (l1 + (1 : Int32)) l2 (l3 + (1 : Int32)) σ
        else
          fX11_feuds_49 rec9 (fX11_feuds_19 rec9 n9) l2 l3 l1 σ
      else
        fX11_feuds_49 rec9 (fX11_feuds_19 rec9 n9) l2 l3 l1 σ

def fX11_feuds_9 : Nat → Int32 → Int32 → pn_S → Option (Int32 × pn_S)
  | 0, _, _, _ => none
  | n9 + 1, l1, l2, σ =>
    (fX11_people σ).bind fun x1 =>
    if x1 ≤ l2 then
      some (l1, σ)
    else
      fX11_feuds_19 (fX11_feuds_9 n9) 5000 l1 l2 (0 : Int32) σ

def fX11_feuds  (σ : pn_S) : Option (Int32 × pn_S) :=
  fX11_feuds_9 5000 (0 : Int32) (0 : Int32) (pn_up σ 85 0 (0 : Int32))

def fX11_ring_58   (l1 : Int32) (l2 : Int32) (σ : pn_S) : Option (Int32 × pn_S) :=
  if l2 = l1 then
    some ((1 : Int32), σ)
  else
    some ((0 : Int32), σ)

def fX11_ring_29 : Nat → Int32 → Int32 → Int32 → pn_S → Option (Int32 × pn_S)
  | 0, _, _, _, _ => none
  | n9 + 1, l1, l2, l3, σ =>
    if (8 : Int32) ≤ l3 then
      fX11_ring_58 l1 l2 σ
    else
      if l2 = (-1 : Int32) then
        fX11_ring_58 l1 l2 σ
      else
        if l2 = l1 then
          fX11_ring_58 l1 l2 σ
        else
          (fX11_of l2 (5 : Int32) σ).bind fun x9 =>
          fX11_ring_29 n9 l1 x9 (l3 + (1 : Int32)) σ

def fX11_ring (a1 : Int32) (σ : pn_S) : Option (Int32 × pn_S) :=
  (fX11_nobody a1 (pn_up σ 85 0 (0 : Int32))).bind fun x1 =>
  pn_bi (fX11_throwsIf x1 (1 : Int32) (pn_up σ 85 0 (0 : Int32))) fun x2 σ2 =>
  if x2 = 0 then
    (fX11_of a1 (5 : Int32) σ2).bind fun x4 =>
    fX11_ring_29 5000 a1 x4 (0 : Int32) σ2
  else
    some ((0 : Int32), σ2)

def fX11_hated_72  (rec11 : Int32 → Int32 → Int32 → pn_S → Option (Int32 × pn_S)) (l2 : Int32) (l3 : Int32) (l4 : Int32) (s0 : Int32) (σ : pn_S) : Option (Int32 × pn_S) :=
  (fJ9_max_7cf53 l2 l4 σ).bind fun x6 =>
  rec11 s0 x6 (l3 + (1 : Int32)) σ

def fX11_hated_25  (rec11 : Int32 → Int32 → Int32 → pn_S → Option (Int32 × pn_S)) : Nat → Int32 → Int32 → Int32 → Int32 → Int32 → pn_S → Option (Int32 × pn_S)
  | 0, _, _, _, _, _, _ => none
  | n9 + 1, l1, l2, l3, l4, l5, σ =>
    (fX11_people σ).bind fun x3 =>
    if x3 ≤ l5 then
      if l4 ≤ l2 then
        fX11_hated_72 rec11 l2 l3 l4 l1 σ
      else
        fX11_hated_72 rec11 l2 l3 l4 l3 σ
    else
      (fX11_of l5 (5 : Int32) σ).bind fun x7 =>
      if x7 = l3 then
        fX11_hated_25 rec11 n9 l1 l2 l3 (l4 + (1 : Int32)) (l5 + (1 : Int32)) σ
      else
        fX11_hated_25 rec11 n9 l1 l2 l3 (l4 + (0 : Int32)) (l5 + (1 : Int32)) σ

def fX11_hated_11 : Nat → Int32 → Int32 → Int32 → pn_S → Option (Int32 × pn_S)
  | 0, _, _, _, _ => none
  | n9 + 1, l1, l2, l3, σ =>
    (fX11_people σ).bind fun x1 =>
    if x1 ≤ l3 then
      some (l1, σ)
    else
      fX11_hated_25 (fX11_hated_11 n9) 5000 l1 l2 l3 (0 : Int32) (0 : Int32) σ

def fX11_hated  (σ : pn_S) : Option (Int32 × pn_S) :=
  fX11_hated_11 5000 (-1 : Int32) (0 : Int32) (0 : Int32) (pn_up σ 85 0 (0 : Int32))

def fX11_watchedTo_11 : Nat → Int32 → Int32 → Int32 → pn_S → Option (Int32 × pn_S)
  | 0, _, _, _, _ => none
  | n9 + 1, l2, l3, l4, σ =>
    (fX11_people σ).bind fun x2 =>
    if x2 ≤ l4 then
      some (l3, σ)
    else
      (fX11_has l2 l4 σ).bind fun x4 =>
      if x4 = 0 then
        fX11_watchedTo_11 n9 l2 (l3 + (0 : Int32)) (l4 + (1 : Int32)) σ
      else
        (fX11_of l4 (3 : Int32) σ).bind fun x6 =>
        (fJ9_min_7cf53 x6 (σ 86 9) σ).bind fun x7 =>
        fX11_watchedTo_11 n9 l2 (l3 + x7) (l4 + (1 : Int32)) σ

def fX11_watchedTo (a1 : Int32) (σ : pn_S) : Option (Int32 × pn_S) :=
  pn_bi (fX11_crowdOf a1 σ) fun x1 σ1 =>
  fX11_watchedTo_11 5000 x1 (0 : Int32) (0 : Int32) σ1

def fX11_watched (a1 : Int32) (σ : pn_S) : Option (Int32 × pn_S) :=
  (fX11_nobody a1 (pn_up σ 85 0 (0 : Int32))).bind fun x1 =>
  pn_bi (fX11_throwsIf x1 (1 : Int32) (pn_up σ 85 0 (0 : Int32))) fun x2 σ2 =>
  if x2 = 0 then
    pn_bi (fX11_watchedTo a1 σ2) fun x4 σ4 =>
    some (x4, σ4)
  else
    some ((0 : Int32), σ2)

def fX11_ripest_37  (rec11 : Int32 → Int32 → Int32 → pn_S → Option (Int32 × pn_S)) (l2 : Int32) (l3 : Int32) (l4 : Int32) (s0 : Int32) (σ : pn_S) : Option (Int32 × pn_S) :=
  (fJ9_max_7cf53 l2 l4 σ).bind fun x5 =>
  rec11 s0 x5 (l3 + (1 : Int32)) σ

def fX11_ripest_11 : Nat → Int32 → Int32 → Int32 → pn_S → Option (Int32 × pn_S)
  | 0, _, _, _, _ => none
  | n9 + 1, l1, l2, l3, σ =>
    (fX11_people σ).bind fun x1 =>
    if x1 ≤ l3 then
      some (l1, σ)
    else
      pn_bi (fX11_watchedTo l3 σ) fun x3 σ3 =>
      if x3 ≤ l2 then
        fX11_ripest_37 (fX11_ripest_11 n9) l2 l3 x3 l1 σ3
      else
        fX11_ripest_37 (fX11_ripest_11 n9) l2 l3 x3 l3 σ3

def fX11_ripest  (σ : pn_S) : Option (Int32 × pn_S) :=
  fX11_ripest_11 5000 (-1 : Int32) (0 : Int32) (0 : Int32) (pn_up σ 85 0 (0 : Int32))

def fX11_brave_24 : Nat → Int32 → Int32 → Int32 → pn_S → Option (Int32 × pn_S)
  | 0, _, _, _, _ => none
  | n9 + 1, l1, l2, l3, σ =>
    (fX11_people σ).bind fun x4 =>
    if x4 ≤ l3 then
      some (l2, σ)
    else
      if l3 = l1 then
        fX11_brave_24 n9 l1 l2 (l3 + (1 : Int32)) σ
      else
        if l2 = (-1 : Int32) then
          fX11_brave_24 n9 l1 l3 (l3 + (1 : Int32)) σ
        else
          pn_bi (fX11_needsOf l3 l1 σ) fun x8 σ8 =>
          pn_bi (fX11_needsOf l2 l1 σ8) fun x9 σ9 =>
          if x9 ≤ x8 then
            fX11_brave_24 n9 l1 l2 (l3 + (1 : Int32)) σ9
          else
            fX11_brave_24 n9 l1 l3 (l3 + (1 : Int32)) σ9

def fX11_brave (a1 : Int32) (σ : pn_S) : Option (Int32 × pn_S) :=
  (fX11_nobody a1 (pn_up σ 85 0 (0 : Int32))).bind fun x1 =>
  pn_bi (fX11_throwsIf x1 (1 : Int32) (pn_up σ 85 0 (0 : Int32))) fun x2 σ2 =>
  if x2 = 0 then
    fX11_brave_24 5000 a1 (-1 : Int32) (0 : Int32) σ2
  else
    some ((0 : Int32), σ2)

def fX11_likens (a1 : Int32) (a2 : Int32) (σ : pn_S) : Option (Int32) :=
  (fX11_of a1 (0 : Int32) σ).bind fun x1 =>
  (fX11_of a2 (0 : Int32) σ).bind fun x2 =>
  if x1 = x2 then
    (fX11_of a1 (1 : Int32) σ).bind fun x4 =>
    (fX11_of a2 (1 : Int32) σ).bind fun x5 =>
    if x4 = x5 then
      (fX11_of a1 (2 : Int32) σ).bind fun x7 =>
      (fX11_of a2 (2 : Int32) σ).bind fun x8 =>
      if x7 = x8 then
        some (1 : Int32)
      else
        some (0 : Int32)
    else
      some (0 : Int32)
  else
    some (0 : Int32)

def fX11_alike_19  (rec9 : Int32 → Int32 → pn_S → Option (Int32 × pn_S)) : Nat → Int32 → Int32 → Int32 → pn_S → Option (Int32 × pn_S)
  | 0, _, _, _, _ => none
  | n9 + 1, l1, l2, l3, σ =>
    if l2 ≤ l3 then
      rec9 l1 (l2 + (1 : Int32)) σ
    else
      (fX11_likens l2 l3 σ).bind fun x4 =>
      if x4 = 0 then
        fX11_alike_19 rec9 n9 (l1 + (0 : Int32)) l2 (l3 + (1 : Int32)) σ
      else
        fX11_alike_19 rec9 n9 (l1 + (1 : Int32)) l2 (l3 + (1 : Int32)) σ

def fX11_alike_9 : Nat → Int32 → Int32 → pn_S → Option (Int32 × pn_S)
  | 0, _, _, _ => none
  | n9 + 1, l1, l2, σ =>
    (fX11_people σ).bind fun x1 =>
    if x1 ≤ l2 then
      some (l1, σ)
    else
      fX11_alike_19 (fX11_alike_9 n9) 5000 l1 l2 (0 : Int32) σ

def fX11_alike  (σ : pn_S) : Option (Int32 × pn_S) :=
  fX11_alike_9 5000 (0 : Int32) (0 : Int32) (pn_up σ 85 0 (0 : Int32))

def fX11_share_45   (l1 : Int32) (l2 : Int32) (s1 : Int32) (σ : pn_S) : Option (Int32 × pn_S) :=
  pn_bi (fX11_throwsIf s1 (2 : Int32) σ) fun x8 σ8 =>
  if x8 = 0 then
    pn_bi (fX11_crowdOf l2 σ8) fun x10 σ10 =>
    (fX11_has x10 l1 σ10).bind fun x11 =>
    if x11 = 0 then
      some ((0 : Int32), σ10)
    else
      pn_bi (fX11_pansOf l1 l2 σ10) fun x13 σ13 =>
      pn_bi (fX11_noiseOf x10 l2 σ13) fun x14 σ14 =>
      if x14 = 0 then none else
      some (((100 : Int32) * x13) / x14, σ14)
  else
    some ((0 : Int32), σ8)

def fX11_share_27   (l1 : Int32) (l2 : Int32) (s1 : Int32) (σ : pn_S) : Option (Int32 × pn_S) :=
  pn_bi (fX11_throwsIf s1 (1 : Int32) σ) fun x5 σ5 =>
  if x5 = 0 then
    if l1 = l2 then
      fX11_share_45 l1 l2 (1 : Int32) σ5
    else
      fX11_share_45 l1 l2 (0 : Int32) σ5
  else
    some ((0 : Int32), σ5)

def fX11_share_22   (l1 : Int32) (l2 : Int32) (σ : pn_S) : Option (Int32 × pn_S) :=
  fX11_share_27 l1 l2 (1 : Int32) σ

def fX11_share (a1 : Int32) (a2 : Int32) (σ : pn_S) : Option (Int32 × pn_S) :=
  (fX11_nobody a1 (pn_up σ 85 0 (0 : Int32))).bind fun x1 =>
  if x1 = 0 then
    (fX11_nobody a2 (pn_up σ 85 0 (0 : Int32))).bind fun x3 =>
    if x3 = 0 then
      fX11_share_27 a1 a2 (0 : Int32) (pn_up σ 85 0 (0 : Int32))
    else
      fX11_share_22 a1 a2 (pn_up σ 85 0 (0 : Int32))
  else
    fX11_share_22 a1 a2 (pn_up σ 85 0 (0 : Int32))

def fX11_pursesOfAll_4 : Nat → Int32 → Int32 → pn_S → Option (Int32)
  | 0, _, _, _ => none
  | n9 + 1, l1, l2, σ =>
    (fX11_people σ).bind fun x1 =>
    if x1 ≤ l2 then
      some l1
    else
      (fX11_of l2 (3 : Int32) σ).bind fun x3 =>
      fX11_pursesOfAll_4 n9 (l1 + x3) (l2 + (1 : Int32)) σ

def fX11_pursesOfAll  (σ : pn_S) : Option (Int32) :=
  fX11_pursesOfAll_4 5000 (0 : Int32) (0 : Int32) σ

def fX11_trial_47   (s0 : Int32) (σ : pn_S) : Option (Int32 × pn_S) :=
  (fX11_bringsBack σ).bind fun σ8 =>
  some (s0, σ8)

def fX11_trial (a1 : Int32) (a2 : Int32) (σ : pn_S) : Option (Int32 × pn_S) :=
  (fX11_noAhead a1 (pn_up σ 85 0 (0 : Int32))).bind fun x1 =>
  pn_bi (fX11_throwsIf x1 (1 : Int32) (pn_up σ 85 0 (0 : Int32))) fun x2 σ2 =>
  if x2 = 0 then
    (fX11_keepsAll σ2).bind fun σ4 =>
    pn_bi (fX11_goesOn a1 (0 : Int32) σ4) fun x5 σ5 =>
    if a2 = 0 then
      (fX11_pursesOfAll σ5).bind fun x7 =>
      fX11_trial_47 x7 σ5
    else
      fX11_trial_47 (σ5 86 5) σ5
  else
    some ((0 : Int32), σ2)

def fX11_span_28 : Nat → Int32 → Int32 → Int32 → Int32 → pn_S → Option (Int32 × pn_S)
  | 0, _, _, _, _, _ => none
  | n9 + 1, l1, l2, l3, l4, σ =>
    if (6 : Int32) < l4 then
      some (l3, σ)
    else
      pn_bi (fX11_goesOn l1 (0 : Int32) (pn_up σ 86 12 l4)) fun x6 σ6 =>
      (fX11_pursesOfAll σ6).bind fun x7 =>
      (fX11_bringsBack σ6).bind fun σ8 =>
      if 0 ≤ l3 then
        if l2 = 0 then
          (fJ9_min_7cf53 l3 x7 σ8).bind fun x11 =>
          fX11_span_28 n9 l1 l2 x11 (l4 + (1 : Int32)) σ8
        else
          (fJ9_max_7cf53 l3 x7 σ8).bind fun x12 =>
          fX11_span_28 n9 l1 l2 x12 (l4 + (1 : Int32)) σ8
      else
        fX11_span_28 n9 l1 l2 x7 (l4 + (1 : Int32)) σ8

def fX11_span (a1 : Int32) (a2 : Int32) (σ : pn_S) : Option (Int32 × pn_S) :=
  (fX11_noAhead a1 (pn_up σ 85 0 (0 : Int32))).bind fun x1 =>
  pn_bi (fX11_throwsIf x1 (1 : Int32) (pn_up σ 85 0 (0 : Int32))) fun x2 σ2 =>
  if x2 = 0 then
    (fX11_keepsAll σ2).bind fun σ4 =>
    fX11_span_28 5000 a1 a2 (-1 : Int32) (1 : Int32) σ4
  else
    some ((0 : Int32), σ2)

def fX11_ofLog (a1 : Int32) (a2 : Int32) (σ : pn_S) : Option (Int32) :=
  if pn_ib (((77 : Int32) + ((4 : Int32) * a1)) + a2) 2015 then
  some (σ 86 (Int32.toNatClampNeg (((77 : Int32) + ((4 : Int32) * a1)) + a2)))
  else none

def fX11_led_36 : Nat → Int32 → Int32 → Int32 → Int32 → Int32 → pn_S → Option (Int32 × pn_S)
  | 0, _, _, _, _, _, _ => none
  | n9 + 1, l1, l2, l3, l4, l5, σ =>
    if l5 < 0 then
      if l2 = 0 then
        some (l3, σ)
      else
        some (l4, σ)
    else
      (fX11_ofLog l5 (1 : Int32) σ).bind fun x6 =>
      if x6 = l1 then
        (fX11_ofLog l5 (0 : Int32) σ).bind fun x8 =>
        fX11_led_36 n9 l1 l2 (l3 + (1 : Int32)) x8 (l5 + (-1 : Int32)) σ
      else
        fX11_led_36 n9 l1 l2 l3 l4 (l5 + (-1 : Int32)) σ

def fX11_led (a1 : Int32) (a2 : Int32) (σ : pn_S) : Option (Int32 × pn_S) :=
  (fX11_nobody a1 (pn_up σ 85 0 (0 : Int32))).bind fun x1 =>
  pn_bi (fX11_throwsIf x1 (1 : Int32) (pn_up σ 85 0 (0 : Int32))) fun x2 σ2 =>
  if x2 = 0 then
    fX11_led_36 5000 a1 a2 (0 : Int32) (-1 : Int32) ((σ2 86 11) - (1 : Int32)) σ2
  else
    some ((0 : Int32), σ2)

def fX11_log_20   (l1 : Int32) (l2 : Int32) (s1 : Int32) (σ : pn_S) : Option (Int32 × pn_S) :=
  pn_bi (fX11_throwsIf s1 (1 : Int32) σ) fun x3 σ3 =>
  if x3 = 0 then
    (fX11_in l1 (0 : Int32) ((σ3 86 11) - (1 : Int32)) σ3).bind fun x5 =>
    if x5 = 0 then
      some ((-1 : Int32), σ3)
    else
      (fX11_ofLog l1 l2 σ3).bind fun x7 =>
      some (x7, σ3)
  else
    some ((0 : Int32), σ3)

def fX11_log (a1 : Int32) (a2 : Int32) (σ : pn_S) : Option (Int32 × pn_S) :=
  (fX11_in a2 (0 : Int32) (3 : Int32) (pn_up σ 85 0 (0 : Int32))).bind fun x1 =>
  if x1 = 0 then
    fX11_log_20 a1 a2 (1 : Int32) (pn_up σ 85 0 (0 : Int32))
  else
    fX11_log_20 a1 a2 (0 : Int32) (pn_up σ 85 0 (0 : Int32))

def fX11_seed (a1 : Int32) (σ : pn_S) : Option (Int32 × pn_S) :=
  some ((pn_up σ 85 0 (0 : Int32)) 86 12, (pn_up (pn_up σ 85 0 (0 : Int32)) 86 12 a1))

def fX11_count (a1 : Int32) (σ : pn_S) : Option (Int32 × pn_S) :=
  if a1 = (2 : Int32) then
    if ((pn_up σ 85 0 (0 : Int32)) 86 2) = (1 : Int32) then
      some ((pn_up σ 85 0 (0 : Int32)) 86 317, (pn_up σ 85 0 (0 : Int32)))
    else
      some ((-1 : Int32), (pn_up σ 85 0 (0 : Int32)))
  else if a1 = (11 : Int32) then
    (fX11_beginners (pn_up σ 85 0 (0 : Int32))).bind fun x4 =>
    some (x4, (pn_up σ 85 0 (0 : Int32)))
  else if a1 = (12 : Int32) then
    (fX11_pursesOfAll (pn_up σ 85 0 (0 : Int32))).bind fun x6 =>
    some (x6, (pn_up σ 85 0 (0 : Int32)))
  else if a1 = (13 : Int32) then
    some ((pn_up σ 85 0 (0 : Int32)) 86 11, (pn_up σ 85 0 (0 : Int32)))
  else if a1 = (14 : Int32) then
    some ((pn_up σ 85 0 (0 : Int32)) 85 7, (pn_up σ 85 0 (0 : Int32)))
  else 
  (fX11_in a1 (0 : Int32) (10 : Int32) (pn_up σ 85 0 (0 : Int32))).bind fun x9 =>
  if x9 = 0 then
    some ((-1 : Int32), (pn_up σ 85 0 (0 : Int32)))
  else
    if pn_ib a1 2015 then
    some ((pn_up σ 85 0 (0 : Int32)) 86 (Int32.toNatClampNeg a1), (pn_up σ 85 0 (0 : Int32)))
    else none

