def hL_against (E : String) : Option Int32 := if E = "java/lang/IndexOutOfBoundsException" then some (1 : Int32) else if E = "java/lang/IllegalArgumentException" then some (2 : Int32) else none
def hL_ask (E : String) : Option Int32 := if E = "java/lang/IndexOutOfBoundsException" then some (1 : Int32) else if E = "java/lang/IllegalArgumentException" then some (2 : Int32) else none
def hL_begin (E : String) : Option Int32 := if E = "java/lang/IndexOutOfBoundsException" then some (1 : Int32) else none
def hL_brave (E : String) : Option Int32 := if E = "java/lang/IndexOutOfBoundsException" then some (1 : Int32) else none
def hL_brings (E : String) : Option Int32 := if E = "java/lang/IllegalArgumentException" then some (1 : Int32) else none
def hL_buy (E : String) : Option Int32 := if E = "java/lang/IllegalStateException" then some (1 : Int32) else none
def hL_calm (E : String) : Option Int32 := if E = "java/lang/IllegalArgumentException" then some (1 : Int32) else none
def hL_can (E : String) : Option Int32 := if E = "java/lang/IndexOutOfBoundsException" then some (1 : Int32) else none
def hL_comes (E : String) : Option Int32 := if E = "java/lang/IndexOutOfBoundsException" then some (1 : Int32) else none
def hL_feud (E : String) : Option Int32 := if E = "java/lang/IndexOutOfBoundsException" then some (1 : Int32) else if E = "java/lang/IllegalArgumentException" then some (2 : Int32) else none
def hL_feuded (E : String) : Option Int32 := if E = "java/lang/IndexOutOfBoundsException" then some (1 : Int32) else none
def hL_fewest (E : String) : Option Int32 := if E = "java/lang/IndexOutOfBoundsException" then some (1 : Int32) else if E = "java/lang/IllegalArgumentException" then some (2 : Int32) else none
def hL_give (E : String) : Option Int32 := if E = "java/lang/IndexOutOfBoundsException" then some (1 : Int32) else if E = "java/lang/IllegalArgumentException" then some (2 : Int32) else none
def hL_heard (E : String) : Option Int32 := if E = "java/lang/IndexOutOfBoundsException" then some (1 : Int32) else if E = "java/lang/IllegalArgumentException" then some (2 : Int32) else none
def hL_keep (E : String) : Option Int32 := if E = "java/lang/IndexOutOfBoundsException" then some (1 : Int32) else none
def hL_law (E : String) : Option Int32 := if E = "java/lang/IllegalArgumentException" then some (1 : Int32) else none
def hL_led (E : String) : Option Int32 := if E = "java/lang/IndexOutOfBoundsException" then some (1 : Int32) else none
def hL_log (E : String) : Option Int32 := if E = "java/util/NoSuchElementException" then some (1 : Int32) else none
def hL_loud (E : String) : Option Int32 := if E = "java/lang/IndexOutOfBoundsException" then some (1 : Int32) else none
def hL_name (E : String) : Option Int32 := if E = "java/lang/IndexOutOfBoundsException" then some (1 : Int32) else if E = "java/lang/IllegalStateException" then some (2 : Int32) else none
def hL_nights (E : String) : Option Int32 := if E = "java/lang/IllegalArgumentException" then some (1 : Int32) else none
def hL_person (E : String) : Option Int32 := if E = "java/lang/IndexOutOfBoundsException" then some (1 : Int32) else if E = "java/util/NoSuchElementException" then some (2 : Int32) else none
def hL_price (E : String) : Option Int32 := if E = "java/lang/IndexOutOfBoundsException" then some (1 : Int32) else none
def hL_rests (E : String) : Option Int32 := if E = "java/lang/IndexOutOfBoundsException" then some (1 : Int32) else none
def hL_ring (E : String) : Option Int32 := if E = "java/lang/IndexOutOfBoundsException" then some (1 : Int32) else none
def hL_rounds (E : String) : Option Int32 := if E = "java/lang/IndexOutOfBoundsException" then some (1 : Int32) else none
def hL_share (E : String) : Option Int32 := if E = "java/lang/IndexOutOfBoundsException" then some (1 : Int32) else if E = "java/lang/IllegalArgumentException" then some (2 : Int32) else none
def hL_span (E : String) : Option Int32 := if E = "java/lang/IllegalArgumentException" then some (1 : Int32) else none
def hL_spent (E : String) : Option Int32 := if E = "java/lang/IndexOutOfBoundsException" then some (1 : Int32) else if E = "java/lang/IllegalArgumentException" then some (2 : Int32) else none
def hL_teach (E : String) : Option Int32 := if E = "java/lang/IndexOutOfBoundsException" then some (1 : Int32) else if E = "java/lang/IllegalArgumentException" then some (2 : Int32) else none
def hL_tips (E : String) : Option Int32 := if E = "java/lang/IndexOutOfBoundsException" then some (1 : Int32) else none
def hL_trial (E : String) : Option Int32 := if E = "java/lang/IllegalArgumentException" then some (1 : Int32) else none
def hL_village (E : String) : Option Int32 := if E = "java/lang/IllegalArgumentException" then some (1 : Int32) else if E = "java/lang/UnsupportedOperationException" then some (2 : Int32) else none
def hL_watched (E : String) : Option Int32 := if E = "java/lang/IndexOutOfBoundsException" then some (1 : Int32) else none
def hL_when (E : String) : Option Int32 := if E = "java/lang/IndexOutOfBoundsException" then some (1 : Int32) else if E = "java/lang/IllegalArgumentException" then some (2 : Int32) else none
def hL_wrong (E : String) : Option Int32 := if E = "java/lang/IndexOutOfBoundsException" then some (1 : Int32) else if E = "java/lang/IllegalArgumentException" then some (2 : Int32) else none
def fL_against (a1 : Int32) (a2 : Int32) (a3 : Int32) (σ : pn_S) : Option (Int32 × pn_S × Nat) :=
  pn_bc (fX10_against a1 a2 a3 σ) (fun x1 σ1 =>
  some ((0 : Int32), (pn_up σ1 96 0 x1), 0)) hL_against

def fL_ask (a1 : Int32) (σ : pn_S) : Option (Int32 × pn_S × Nat) :=
  pn_bc (fX10_ask a1 σ) (fun x1 σ1 =>
  some ((0 : Int32), (pn_up σ1 96 0 x1), 0)) hL_ask

def fL_begin (a1 : Int32) (a2 : Int32) (σ : pn_S) : Option (Int32 × pn_S × Nat) :=
  pn_bc (fX10_begin a1 a2 σ) (fun x1 σ1 =>
  if x1 = 0 then
    some ((0 : Int32), (pn_up σ1 96 0 (0 : Int32)), 0)
  else
    some ((0 : Int32), (pn_up σ1 96 0 (1 : Int32)), 0)) hL_begin

def fL_brave (a1 : Int32) (σ : pn_S) : Option (Int32 × pn_S × Nat) :=
  pn_bc (fX10_brave a1 σ) (fun x1 σ1 =>
  some ((0 : Int32), (pn_up σ1 96 0 x1), 0)) hL_brave

def fL_brings (a1 : Int32) (σ : pn_S) : Option (Int32 × pn_S × Nat) :=
  pn_bc (fX10_brings a1 σ) (fun x1 σ1 =>
  some ((0 : Int32), (pn_up σ1 96 0 x1), 0)) hL_brings

def fL_buy  (σ : pn_S) : Option (Int32 × pn_S × Nat) :=
  pn_bc (fX10_buy σ) (fun x1 σ1 =>
  some ((0 : Int32), (pn_up σ1 96 0 x1), 0)) hL_buy

def fL_calm (a1 : Int32) (σ : pn_S) : Option (Int32 × pn_S × Nat) :=
  pn_bc (fX10_calm a1 σ) (fun x1 σ1 =>
  some ((0 : Int32), (pn_up σ1 96 0 x1), 0)) hL_calm

def fL_can (a1 : Int32) (σ : pn_S) : Option (Int32 × pn_S × Nat) :=
  pn_bc (fX10_can a1 σ) (fun x1 σ1 =>
  if x1 = 0 then
    some ((0 : Int32), (pn_up σ1 96 0 (0 : Int32)), 0)
  else
    some ((0 : Int32), (pn_up σ1 96 0 (1 : Int32)), 0)) hL_can

def fL_comes (a1 : Int32) (σ : pn_S) : Option (Int32 × pn_S × Nat) :=
  pn_bc (fX10_comes a1 σ) (fun x1 σ1 =>
  some ((0 : Int32), (pn_up σ1 96 0 x1), 0)) hL_comes

def fL_feud (a1 : Int32) (a2 : Int32) (σ : pn_S) : Option (Int32 × pn_S × Nat) :=
  pn_bc (fX10_feud a1 a2 σ) (fun x1 σ1 =>
  some ((0 : Int32), (pn_up σ1 96 0 x1), 0)) hL_feud

def fL_feuded (a1 : Int32) (σ : pn_S) : Option (Int32 × pn_S × Nat) :=
  pn_bc (fX10_feuded a1 σ) (fun x1 σ1 =>
  some ((0 : Int32), (pn_up σ1 96 0 x1), 0)) hL_feuded

def fL_fewest (a1 : Int32) (a2 : Int32) (σ : pn_S) : Option (Int32 × pn_S × Nat) :=
  pn_bc (fX10_fewest a1 a2 σ) (fun x1 σ1 =>
  some ((0 : Int32), (pn_up σ1 96 0 x1), 0)) hL_fewest

def fL_give (a1 : Int32) (a2 : Int32) (σ : pn_S) : Option (Int32 × pn_S × Nat) :=
  pn_bc (fX10_give a1 a2 σ) (fun x1 σ1 =>
  some ((0 : Int32), (pn_up σ1 96 0 x1), 0)) hL_give

def fL_heard (a1 : Int32) (a2 : Int32) (σ : pn_S) : Option (Int32 × pn_S × Nat) :=
  pn_bc (fX10_heard a1 a2 σ) (fun x1 σ1 =>
  some ((0 : Int32), (pn_up σ1 96 0 x1), 0)) hL_heard

def fL_keep (a1 : Int32) (σ : pn_S) : Option (Int32 × pn_S × Nat) :=
  pn_bc (fX10_keep a1 σ) (fun x1 σ1 =>
  some ((0 : Int32), (pn_up σ1 96 0 x1), 0)) hL_keep

def fL_law  (σ : pn_S) : Option (Int32 × pn_S × Nat) :=
  pn_bc (fX10_law σ) (fun x1 σ1 =>
  some ((0 : Int32), (pn_up σ1 96 0 x1), 0)) hL_law

def fL_led (a1 : Int32) (a2 : Int32) (σ : pn_S) : Option (Int32 × pn_S × Nat) :=
  pn_bc (fX10_led a1 a2 σ) (fun x1 σ1 =>
  some ((0 : Int32), (pn_up σ1 96 0 x1), 0)) hL_led

def fL_log (a1 : Int32) (a2 : Int32) (σ : pn_S) : Option (Int32 × pn_S × Nat) :=
  pn_bc (fX10_log a1 a2 σ) (fun x1 σ1 =>
  some ((0 : Int32), (pn_up σ1 96 0 x1), 0)) hL_log

def fL_loud (a1 : Int32) (σ : pn_S) : Option (Int32 × pn_S × Nat) :=
  pn_bc (fX10_loud a1 σ) (fun x1 σ1 =>
  some ((0 : Int32), (pn_up σ1 96 0 x1), 0)) hL_loud

def fL_name (a1 : Int32) (σ : pn_S) : Option (Int32 × pn_S × Nat) :=
  pn_bc (fX10_name a1 σ) (fun x1 σ1 =>
  some ((0 : Int32), (pn_up σ1 96 0 x1), 0)) hL_name

def fL_nights (a1 : Int32) (σ : pn_S) : Option (Int32 × pn_S × Nat) :=
  pn_bc (fX10_nights a1 σ) (fun x1 σ1 =>
  some ((0 : Int32), (pn_up σ1 96 0 x1), 0)) hL_nights

def fL_person (a1 : Int32) (a2 : Int32) (σ : pn_S) : Option (Int32 × pn_S × Nat) :=
  pn_bc (fX10_person a1 a2 σ) (fun x1 σ1 =>
  some ((0 : Int32), (pn_up σ1 96 0 x1), 0)) hL_person

def fL_price (a1 : Int32) (σ : pn_S) : Option (Int32 × pn_S × Nat) :=
  pn_bc (fX10_price a1 σ) (fun x1 σ1 =>
  some ((0 : Int32), (pn_up σ1 96 0 x1), 0)) hL_price

def fL_rests (a1 : Int32) (σ : pn_S) : Option (Int32 × pn_S × Nat) :=
  pn_bc (fX10_rests a1 σ) (fun x1 σ1 =>
  some ((0 : Int32), (pn_up σ1 96 0 x1), 0)) hL_rests

def fL_ring (a1 : Int32) (σ : pn_S) : Option (Int32 × pn_S × Nat) :=
  pn_bc (fX10_ring a1 σ) (fun x1 σ1 =>
  if x1 = 0 then
    some ((0 : Int32), (pn_up σ1 96 0 (0 : Int32)), 0)
  else
    some ((0 : Int32), (pn_up σ1 96 0 (1 : Int32)), 0)) hL_ring

def fL_rounds (a1 : Int32) (σ : pn_S) : Option (Int32 × pn_S × Nat) :=
  pn_bc (fX10_rounds a1 σ) (fun x1 σ1 =>
  some ((0 : Int32), (pn_up σ1 96 0 x1), 0)) hL_rounds

def fL_share (a1 : Int32) (a2 : Int32) (σ : pn_S) : Option (Int32 × pn_S × Nat) :=
  pn_bc (fX10_share a1 a2 σ) (fun x1 σ1 =>
  some ((0 : Int32), (pn_up σ1 96 0 x1), 0)) hL_share

def fL_span (a1 : Int32) (a2 : Int32) (σ : pn_S) : Option (Int32 × pn_S × Nat) :=
  pn_bc (fX10_span a1 a2 σ) (fun x1 σ1 =>
  some ((0 : Int32), (pn_up σ1 96 0 x1), 0)) hL_span

def fL_spent (a1 : Int32) (a2 : Int32) (σ : pn_S) : Option (Int32 × pn_S × Nat) :=
  pn_bc (fX10_spent a1 a2 σ) (fun x1 σ1 =>
  some ((0 : Int32), (pn_up σ1 96 0 x1), 0)) hL_spent

def fL_teach (a1 : Int32) (a2 : Int32) (σ : pn_S) : Option (Int32 × pn_S × Nat) :=
  pn_bc (fX10_teach a1 a2 σ) (fun x1 σ1 =>
  some ((0 : Int32), (pn_up σ1 96 0 x1), 0)) hL_teach

def fL_tips (a1 : Int32) (σ : pn_S) : Option (Int32 × pn_S × Nat) :=
  pn_bc (fX10_tips a1 σ) (fun x1 σ1 =>
  some ((0 : Int32), (pn_up σ1 96 0 x1), 0)) hL_tips

def fL_trial (a1 : Int32) (a2 : Int32) (σ : pn_S) : Option (Int32 × pn_S × Nat) :=
  pn_bc (fX10_trial a1 a2 σ) (fun x1 σ1 =>
  some ((0 : Int32), (pn_up σ1 96 0 x1), 0)) hL_trial

def fL_village  (σ : pn_S) : Option (Int32 × pn_S × Nat) :=
  pn_bc (fX10_village σ) (fun x1 σ1 =>
  some ((0 : Int32), (pn_up σ1 96 0 x1), 0)) hL_village

def fL_watched (a1 : Int32) (σ : pn_S) : Option (Int32 × pn_S × Nat) :=
  pn_bc (fX10_watched a1 σ) (fun x1 σ1 =>
  some ((0 : Int32), (pn_up σ1 96 0 x1), 0)) hL_watched

def fL_when (a1 : Int32) (a2 : Int32) (σ : pn_S) : Option (Int32 × pn_S × Nat) :=
  pn_bc (fX10_when a1 a2 σ) (fun x1 σ1 =>
  some ((0 : Int32), (pn_up σ1 96 0 x1), 0)) hL_when

def fL_wrong (a1 : Int32) (a2 : Int32) (σ : pn_S) : Option (Int32 × pn_S × Nat) :=
  pn_bc (fX10_wrong a1 a2 σ) (fun x1 σ1 =>
  some ((0 : Int32), (pn_up σ1 96 0 x1), 0)) hL_wrong

def fL_law__2850 (L : Nat) (xs : (Nat → Int32)) (rec23 : Int32 → pn_S → Option (Int32 × pn_S × Nat)) (l4 : Int32) (σ : pn_S) : Option (Int32 × pn_S × Nat) :=
  rec23 (l4 + (6 : Int32)) σ

def fL_law__260 (L : Nat) (xs : (Nat → Int32)) (rec23 : Int32 → pn_S → Option (Int32 × pn_S × Nat)) (l4 : Int32) (σ : pn_S) : Option (Int32 × pn_S × Nat) :=
  if pn_ib (l4 + (1 : Int32)) L then
  if pn_ib (l4 + (2 : Int32)) L then
  if pn_ib (l4 + (3 : Int32)) L then
  if pn_ib (l4 + (4 : Int32)) L then
  if pn_ib (l4 + (5 : Int32)) L then
  pn_bi (fX10_feed (xs (Int32.toNatClampNeg (l4 + (1 : Int32)))) (xs (Int32.toNatClampNeg (l4 + (2 : Int32)))) (xs (Int32.toNatClampNeg (l4 + (3 : Int32)))) (xs (Int32.toNatClampNeg (l4 + (4 : Int32)))) (xs (Int32.toNatClampNeg (l4 + (5 : Int32)))) σ) fun x3 σ3 =>
  if pn_ib (l4 + (1 : Int32)) L then
  if pn_ib (l4 + (2 : Int32)) L then
  if pn_ib (l4 + (3 : Int32)) L then
  if pn_ib (l4 + (4 : Int32)) L then
  if pn_ib (l4 + (5 : Int32)) L then
  pn_bi (fX11_feed (xs (Int32.toNatClampNeg (l4 + (1 : Int32)))) (xs (Int32.toNatClampNeg (l4 + (2 : Int32)))) (xs (Int32.toNatClampNeg (l4 + (3 : Int32)))) (xs (Int32.toNatClampNeg (l4 + (4 : Int32)))) (xs (Int32.toNatClampNeg (l4 + (5 : Int32)))) σ3) fun x4 σ4 =>
  if x3 = x4 then
    fL_law__2850 L xs rec23 l4 σ4
  else
    some ((0 : Int32), σ4, 0)
  else none
  else none
  else none
  else none
  else none
  else none
  else none
  else none
  else none
  else none

def fL_law__333 (L : Nat) (xs : (Nat → Int32)) (rec23 : Int32 → pn_S → Option (Int32 × pn_S × Nat)) (l4 : Int32) (σ : pn_S) : Option (Int32 × pn_S × Nat) :=
  if pn_ib (l4 + (1 : Int32)) L then
  pn_bi (fX10_end (xs (Int32.toNatClampNeg (l4 + (1 : Int32)))) σ) fun x7 σ7 =>
  if pn_ib (l4 + (1 : Int32)) L then
  pn_bi (fX11_end (xs (Int32.toNatClampNeg (l4 + (1 : Int32)))) σ7) fun x8 σ8 =>
  if x7 = x8 then
    fL_law__2850 L xs rec23 l4 σ8
  else
    some ((0 : Int32), σ8, 0)
  else none
  else none

def fL_law__358 (L : Nat) (xs : (Nat → Int32)) (rec23 : Int32 → pn_S → Option (Int32 × pn_S × Nat)) (l4 : Int32) (σ : pn_S) : Option (Int32 × pn_S × Nat) :=
  pn_bw (fL_village σ) fun x11 σ11 =>
  pn_bi (fX11_village σ11) fun x12 σ12 =>
  (fX11_thrown σ12).bind fun x13 =>
  if x13 = x11 then
    if x11 = 0 then
      if (lg_cmp (Int32.toInt64 (σ12 96 0)) (Int32.toInt64 x12)) = 0 then
        fL_law__2850 L xs rec23 l4 σ12
      else
        some ((0 : Int32), σ12, 0)
    else
      fL_law__2850 L xs rec23 l4 σ12
  else
    some ((0 : Int32), σ12, 0)

def fL_law__402 (L : Nat) (xs : (Nat → Int32)) (rec23 : Int32 → pn_S → Option (Int32 × pn_S × Nat)) (l4 : Int32) (σ : pn_S) : Option (Int32 × pn_S × Nat) :=
  pn_bw (fL_law σ) fun x18 σ18 =>
  pn_bi (fX11_law σ18) fun x19 σ19 =>
  (fX11_thrown σ19).bind fun x20 =>
  if x20 = x18 then
    if x18 = 0 then
      if (lg_cmp (Int32.toInt64 (σ19 96 0)) (Int32.toInt64 x19)) = 0 then
        fL_law__2850 L xs rec23 l4 σ19
      else
        some ((0 : Int32), σ19, 0)
    else
      fL_law__2850 L xs rec23 l4 σ19
  else
    some ((0 : Int32), σ19, 0)

def fL_law__446 (L : Nat) (xs : (Nat → Int32)) (rec23 : Int32 → pn_S → Option (Int32 × pn_S × Nat)) (l4 : Int32) (σ : pn_S) : Option (Int32 × pn_S × Nat) :=
  (fX10_fault σ).bind fun x25 =>
  pn_bi (fX11_fault σ) fun x26 σ26 =>
  if x25 = x26 then
    fL_law__2850 L xs rec23 l4 σ26
  else
    some ((0 : Int32), σ26, 0)

def fL_law__459 (L : Nat) (xs : (Nat → Int32)) (rec23 : Int32 → pn_S → Option (Int32 × pn_S × Nat)) (l4 : Int32) (σ : pn_S) : Option (Int32 × pn_S × Nat) :=
  if pn_ib (l4 + (1 : Int32)) L then
  if pn_ib (l4 + (2 : Int32)) L then
  pn_bw (fL_person (xs (Int32.toNatClampNeg (l4 + (1 : Int32)))) (xs (Int32.toNatClampNeg (l4 + (2 : Int32)))) σ) fun x29 σ29 =>
  if pn_ib (l4 + (1 : Int32)) L then
  if pn_ib (l4 + (2 : Int32)) L then
  pn_bi (fX11_person (xs (Int32.toNatClampNeg (l4 + (1 : Int32)))) (xs (Int32.toNatClampNeg (l4 + (2 : Int32)))) σ29) fun x30 σ30 =>
  (fX11_thrown σ30).bind fun x31 =>
  if x31 = x29 then
    if x29 = 0 then
      if (lg_cmp (Int32.toInt64 (σ30 96 0)) (Int32.toInt64 x30)) = 0 then
        fL_law__2850 L xs rec23 l4 σ30
      else
        some ((0 : Int32), σ30, 0)
    else
      fL_law__2850 L xs rec23 l4 σ30
  else
    some ((0 : Int32), σ30, 0)
  else none
  else none
  else none
  else none

def fL_law__587 (L : Nat) (xs : (Nat → Int32)) (rec23 : Int32 → pn_S → Option (Int32 × pn_S × Nat)) (l4 : Int32) (l5 : Int32) (s1 : Int32) (s2 : Int32) (s3 : Int32) (σ : pn_S) : Option (Int32 × pn_S × Nat) :=
  pn_bi (fX11_against s1 s2 s3 σ) fun x39 σ39 =>
  (fX11_thrown σ39).bind fun x40 =>
  if x40 = l5 then
    if l5 = 0 then
      if (lg_cmp (Int32.toInt64 (σ39 96 0)) (Int32.toInt64 x39)) = 0 then
        fL_law__2850 L xs rec23 l4 σ39
      else
        some ((0 : Int32), σ39, 0)
    else
      fL_law__2850 L xs rec23 l4 σ39
  else
    some ((0 : Int32), σ39, 0)

def fL_law__554 (L : Nat) (xs : (Nat → Int32)) (rec23 : Int32 → pn_S → Option (Int32 × pn_S × Nat)) (l4 : Int32) (s1 : Int32) (s2 : Int32) (s3 : Int32) (σ : pn_S) : Option (Int32 × pn_S × Nat) :=
  pn_bw (fL_against s1 s2 s3 σ) fun x37 σ37 =>
  if pn_ib (l4 + (1 : Int32)) L then
  if pn_ib (l4 + (2 : Int32)) L then
  if pn_ib (l4 + (3 : Int32)) L then
  if (xs (Int32.toNatClampNeg (l4 + (3 : Int32)))) = 0 then
    fL_law__587 L xs rec23 l4 x37 (xs (Int32.toNatClampNeg (l4 + (1 : Int32)))) (xs (Int32.toNatClampNeg (l4 + (2 : Int32)))) (0 : Int32) σ37
  else
    fL_law__587 L xs rec23 l4 x37 (xs (Int32.toNatClampNeg (l4 + (1 : Int32)))) (xs (Int32.toNatClampNeg (l4 + (2 : Int32)))) (1 : Int32) σ37
  else none
  else none
  else none

def fL_law__527 (L : Nat) (xs : (Nat → Int32)) (rec23 : Int32 → pn_S → Option (Int32 × pn_S × Nat)) (l4 : Int32) (σ : pn_S) : Option (Int32 × pn_S × Nat) :=
  if pn_ib (l4 + (1 : Int32)) L then
  if pn_ib (l4 + (2 : Int32)) L then
  if pn_ib (l4 + (3 : Int32)) L then
  if (xs (Int32.toNatClampNeg (l4 + (3 : Int32)))) = 0 then
    fL_law__554 L xs rec23 l4 (xs (Int32.toNatClampNeg (l4 + (1 : Int32)))) (xs (Int32.toNatClampNeg (l4 + (2 : Int32)))) (0 : Int32) σ
  else
    fL_law__554 L xs rec23 l4 (xs (Int32.toNatClampNeg (l4 + (1 : Int32)))) (xs (Int32.toNatClampNeg (l4 + (2 : Int32)))) (1 : Int32) σ
  else none
  else none
  else none

def fL_law__623 (L : Nat) (xs : (Nat → Int32)) (rec23 : Int32 → pn_S → Option (Int32 × pn_S × Nat)) (l4 : Int32) (σ : pn_S) : Option (Int32 × pn_S × Nat) :=
  if pn_ib (l4 + (1 : Int32)) L then
  pn_bw (fL_name (xs (Int32.toNatClampNeg (l4 + (1 : Int32)))) σ) fun x45 σ45 =>
  if pn_ib (l4 + (1 : Int32)) L then
  pn_bi (fX11_name (xs (Int32.toNatClampNeg (l4 + (1 : Int32)))) σ45) fun x46 σ46 =>
  (fX11_thrown σ46).bind fun x47 =>
  if x47 = x45 then
    if x45 = 0 then
      if (lg_cmp (Int32.toInt64 (σ46 96 0)) (Int32.toInt64 x46)) = 0 then
        fL_law__2850 L xs rec23 l4 σ46
      else
        some ((0 : Int32), σ46, 0)
    else
      fL_law__2850 L xs rec23 l4 σ46
  else
    some ((0 : Int32), σ46, 0)
  else none
  else none

def fL_law__761 (L : Nat) (xs : (Nat → Int32)) (rec23 : Int32 → pn_S → Option (Int32 × pn_S × Nat)) (l4 : Int32) (s0 : Int32) (s1 : Int32) (σ : pn_S) : Option (Int32 × pn_S × Nat) :=
  if (lg_cmp (Int32.toInt64 s0) (Int32.toInt64 s1)) = 0 then
    fL_law__2850 L xs rec23 l4 σ
  else
    some ((0 : Int32), σ, 0)

def fL_law__727 (L : Nat) (xs : (Nat → Int32)) (rec23 : Int32 → pn_S → Option (Int32 × pn_S × Nat)) (l4 : Int32) (l5 : Int32) (s1 : Int32) (s2 : Int32) (σ : pn_S) : Option (Int32 × pn_S × Nat) :=
  pn_bi (fX11_begin s1 s2 σ) fun x55 σ55 =>
  (fX11_thrown σ55).bind fun x56 =>
  if x56 = l5 then
    if l5 = 0 then
      if x55 = 0 then
        fL_law__761 L xs rec23 l4 (σ55 96 0) (0 : Int32) σ55
      else
        fL_law__761 L xs rec23 l4 (σ55 96 0) (1 : Int32) σ55
    else
      fL_law__2850 L xs rec23 l4 σ55
  else
    some ((0 : Int32), σ55, 0)

def fL_law__700 (L : Nat) (xs : (Nat → Int32)) (rec23 : Int32 → pn_S → Option (Int32 × pn_S × Nat)) (l4 : Int32) (s1 : Int32) (s2 : Int32) (σ : pn_S) : Option (Int32 × pn_S × Nat) :=
  pn_bw (fL_begin s1 s2 σ) fun x53 σ53 =>
  if pn_ib (l4 + (1 : Int32)) L then
  if pn_ib (l4 + (2 : Int32)) L then
  if (xs (Int32.toNatClampNeg (l4 + (2 : Int32)))) = 0 then
    fL_law__727 L xs rec23 l4 x53 (xs (Int32.toNatClampNeg (l4 + (1 : Int32)))) (0 : Int32) σ53
  else
    fL_law__727 L xs rec23 l4 x53 (xs (Int32.toNatClampNeg (l4 + (1 : Int32)))) (1 : Int32) σ53
  else none
  else none

def fL_law__679 (L : Nat) (xs : (Nat → Int32)) (rec23 : Int32 → pn_S → Option (Int32 × pn_S × Nat)) (l4 : Int32) (σ : pn_S) : Option (Int32 × pn_S × Nat) :=
  if pn_ib (l4 + (1 : Int32)) L then
  if pn_ib (l4 + (2 : Int32)) L then
  if (xs (Int32.toNatClampNeg (l4 + (2 : Int32)))) = 0 then
    fL_law__700 L xs rec23 l4 (xs (Int32.toNatClampNeg (l4 + (1 : Int32)))) (0 : Int32) σ
  else
    fL_law__700 L xs rec23 l4 (xs (Int32.toNatClampNeg (l4 + (1 : Int32)))) (1 : Int32) σ
  else none
  else none

def fL_law__770 (L : Nat) (xs : (Nat → Int32)) (rec23 : Int32 → pn_S → Option (Int32 × pn_S × Nat)) (l4 : Int32) (σ : pn_S) : Option (Int32 × pn_S × Nat) :=
  pn_bw (fL_buy σ) fun x62 σ62 =>
  pn_bi (fX11_buy σ62) fun x63 σ63 =>
  (fX11_thrown σ63).bind fun x64 =>
  if x64 = x62 then
    if x62 = 0 then
      if (lg_cmp (Int32.toInt64 (σ63 96 0)) (Int32.toInt64 x63)) = 0 then
        fL_law__2850 L xs rec23 l4 σ63
      else
        some ((0 : Int32), σ63, 0)
    else
      fL_law__2850 L xs rec23 l4 σ63
  else
    some ((0 : Int32), σ63, 0)

def fL_law__814 (L : Nat) (xs : (Nat → Int32)) (rec23 : Int32 → pn_S → Option (Int32 × pn_S × Nat)) (l4 : Int32) (σ : pn_S) : Option (Int32 × pn_S × Nat) :=
  if pn_ib (l4 + (1 : Int32)) L then
  if pn_ib (l4 + (2 : Int32)) L then
  pn_bw (fL_feud (xs (Int32.toNatClampNeg (l4 + (1 : Int32)))) (xs (Int32.toNatClampNeg (l4 + (2 : Int32)))) σ) fun x69 σ69 =>
  if pn_ib (l4 + (1 : Int32)) L then
  if pn_ib (l4 + (2 : Int32)) L then
  pn_bi (fX11_feud (xs (Int32.toNatClampNeg (l4 + (1 : Int32)))) (xs (Int32.toNatClampNeg (l4 + (2 : Int32)))) σ69) fun x70 σ70 =>
  (fX11_thrown σ70).bind fun x71 =>
  if x71 = x69 then
    if x69 = 0 then
      if (lg_cmp (Int32.toInt64 (σ70 96 0)) (Int32.toInt64 x70)) = 0 then
        fL_law__2850 L xs rec23 l4 σ70
      else
        some ((0 : Int32), σ70, 0)
    else
      fL_law__2850 L xs rec23 l4 σ70
  else
    some ((0 : Int32), σ70, 0)
  else none
  else none
  else none
  else none

def fL_law__882 (L : Nat) (xs : (Nat → Int32)) (rec23 : Int32 → pn_S → Option (Int32 × pn_S × Nat)) (l4 : Int32) (σ : pn_S) : Option (Int32 × pn_S × Nat) :=
  if pn_ib (l4 + (1 : Int32)) L then
  if pn_ib (l4 + (2 : Int32)) L then
  pn_bw (fL_teach (xs (Int32.toNatClampNeg (l4 + (1 : Int32)))) (xs (Int32.toNatClampNeg (l4 + (2 : Int32)))) σ) fun x76 σ76 =>
  if pn_ib (l4 + (1 : Int32)) L then
  if pn_ib (l4 + (2 : Int32)) L then
  pn_bi (fX11_teach (xs (Int32.toNatClampNeg (l4 + (1 : Int32)))) (xs (Int32.toNatClampNeg (l4 + (2 : Int32)))) σ76) fun x77 σ77 =>
  (fX11_thrown σ77).bind fun x78 =>
  if x78 = x76 then
    if x76 = 0 then
      if (lg_cmp (Int32.toInt64 (σ77 96 0)) (Int32.toInt64 x77)) = 0 then
        fL_law__2850 L xs rec23 l4 σ77
      else
        some ((0 : Int32), σ77, 0)
    else
      fL_law__2850 L xs rec23 l4 σ77
  else
    some ((0 : Int32), σ77, 0)
  else none
  else none
  else none
  else none

def fL_law__950 (L : Nat) (xs : (Nat → Int32)) (rec23 : Int32 → pn_S → Option (Int32 × pn_S × Nat)) (l4 : Int32) (σ : pn_S) : Option (Int32 × pn_S × Nat) :=
  if pn_ib (l4 + (1 : Int32)) L then
  if pn_ib (l4 + (2 : Int32)) L then
  pn_bw (fL_wrong (xs (Int32.toNatClampNeg (l4 + (1 : Int32)))) (xs (Int32.toNatClampNeg (l4 + (2 : Int32)))) σ) fun x83 σ83 =>
  if pn_ib (l4 + (1 : Int32)) L then
  if pn_ib (l4 + (2 : Int32)) L then
  pn_bi (fX11_wrong (xs (Int32.toNatClampNeg (l4 + (1 : Int32)))) (xs (Int32.toNatClampNeg (l4 + (2 : Int32)))) σ83) fun x84 σ84 =>
  (fX11_thrown σ84).bind fun x85 =>
  if x85 = x83 then
    if x83 = 0 then
      if (lg_cmp (Int32.toInt64 (σ84 96 0)) (Int32.toInt64 x84)) = 0 then
        fL_law__2850 L xs rec23 l4 σ84
      else
        some ((0 : Int32), σ84, 0)
    else
      fL_law__2850 L xs rec23 l4 σ84
  else
    some ((0 : Int32), σ84, 0)
  else none
  else none
  else none
  else none

def fL_law__1018 (L : Nat) (xs : (Nat → Int32)) (rec23 : Int32 → pn_S → Option (Int32 × pn_S × Nat)) (l4 : Int32) (σ : pn_S) : Option (Int32 × pn_S × Nat) :=
  if pn_ib (l4 + (1 : Int32)) L then
  if pn_ib (l4 + (2 : Int32)) L then
  pn_bw (fL_give (xs (Int32.toNatClampNeg (l4 + (1 : Int32)))) (xs (Int32.toNatClampNeg (l4 + (2 : Int32)))) σ) fun x90 σ90 =>
  if pn_ib (l4 + (1 : Int32)) L then
  if pn_ib (l4 + (2 : Int32)) L then
  pn_bi (fX11_give (xs (Int32.toNatClampNeg (l4 + (1 : Int32)))) (xs (Int32.toNatClampNeg (l4 + (2 : Int32)))) σ90) fun x91 σ91 =>
  (fX11_thrown σ91).bind fun x92 =>
  if x92 = x90 then
    if x90 = 0 then
      if (lg_cmp (Int32.toInt64 (σ91 96 0)) (Int32.toInt64 x91)) = 0 then
        fL_law__2850 L xs rec23 l4 σ91
      else
        some ((0 : Int32), σ91, 0)
    else
      fL_law__2850 L xs rec23 l4 σ91
  else
    some ((0 : Int32), σ91, 0)
  else none
  else none
  else none
  else none

def fL_law__1086 (L : Nat) (xs : (Nat → Int32)) (rec23 : Int32 → pn_S → Option (Int32 × pn_S × Nat)) (l4 : Int32) (σ : pn_S) : Option (Int32 × pn_S × Nat) :=
  if pn_ib (l4 + (1 : Int32)) L then
  pn_bw (fL_nights (xs (Int32.toNatClampNeg (l4 + (1 : Int32)))) σ) fun x97 σ97 =>
  if pn_ib (l4 + (1 : Int32)) L then
  pn_bi (fX11_nights (xs (Int32.toNatClampNeg (l4 + (1 : Int32)))) σ97) fun x98 σ98 =>
  (fX11_thrown σ98).bind fun x99 =>
  if x99 = x97 then
    if x97 = 0 then
      if (lg_cmp (Int32.toInt64 (σ98 96 0)) (Int32.toInt64 x98)) = 0 then
        fL_law__2850 L xs rec23 l4 σ98
      else
        some ((0 : Int32), σ98, 0)
    else
      fL_law__2850 L xs rec23 l4 σ98
  else
    some ((0 : Int32), σ98, 0)
  else none
  else none

def fL_law__1142 (L : Nat) (xs : (Nat → Int32)) (rec23 : Int32 → pn_S → Option (Int32 × pn_S × Nat)) (l4 : Int32) (σ : pn_S) : Option (Int32 × pn_S × Nat) :=
  if pn_ib (l4 + (1 : Int32)) L then
  pn_bw (fL_comes (xs (Int32.toNatClampNeg (l4 + (1 : Int32)))) σ) fun x104 σ104 =>
  if pn_ib (l4 + (1 : Int32)) L then
  pn_bi (fX11_comes (xs (Int32.toNatClampNeg (l4 + (1 : Int32)))) σ104) fun x105 σ105 =>
  (fX11_thrown σ105).bind fun x106 =>
  if x106 = x104 then
    if x104 = 0 then
      if (lg_cmp (Int32.toInt64 (σ105 96 0)) (Int32.toInt64 x105)) = 0 then
        fL_law__2850 L xs rec23 l4 σ105
      else
        some ((0 : Int32), σ105, 0)
    else
      fL_law__2850 L xs rec23 l4 σ105
  else
    some ((0 : Int32), σ105, 0)
  else none
  else none

def fL_law__1198 (L : Nat) (xs : (Nat → Int32)) (rec23 : Int32 → pn_S → Option (Int32 × pn_S × Nat)) (l4 : Int32) (σ : pn_S) : Option (Int32 × pn_S × Nat) :=
  if pn_ib (l4 + (1 : Int32)) L then
  pn_bw (fL_rounds (xs (Int32.toNatClampNeg (l4 + (1 : Int32)))) σ) fun x111 σ111 =>
  if pn_ib (l4 + (1 : Int32)) L then
  pn_bi (fX11_rounds (xs (Int32.toNatClampNeg (l4 + (1 : Int32)))) σ111) fun x112 σ112 =>
  (fX11_thrown σ112).bind fun x113 =>
  if x113 = x111 then
    if x111 = 0 then
      if (lg_cmp (Int32.toInt64 (σ112 96 0)) (Int32.toInt64 x112)) = 0 then
        fL_law__2850 L xs rec23 l4 σ112
      else
        some ((0 : Int32), σ112, 0)
    else
      fL_law__2850 L xs rec23 l4 σ112
  else
    some ((0 : Int32), σ112, 0)
  else none
  else none

def fL_law__1254 (L : Nat) (xs : (Nat → Int32)) (rec23 : Int32 → pn_S → Option (Int32 × pn_S × Nat)) (l4 : Int32) (σ : pn_S) : Option (Int32 × pn_S × Nat) :=
  if pn_ib (l4 + (1 : Int32)) L then
  if pn_ib (l4 + (2 : Int32)) L then
  pn_bw (fL_when (xs (Int32.toNatClampNeg (l4 + (1 : Int32)))) (xs (Int32.toNatClampNeg (l4 + (2 : Int32)))) σ) fun x118 σ118 =>
  if pn_ib (l4 + (1 : Int32)) L then
  if pn_ib (l4 + (2 : Int32)) L then
  pn_bi (fX11_when (xs (Int32.toNatClampNeg (l4 + (1 : Int32)))) (xs (Int32.toNatClampNeg (l4 + (2 : Int32)))) σ118) fun x119 σ119 =>
  (fX11_thrown σ119).bind fun x120 =>
  if x120 = x118 then
    if x118 = 0 then
      if (lg_cmp (Int32.toInt64 (σ119 96 0)) (Int32.toInt64 x119)) = 0 then
        fL_law__2850 L xs rec23 l4 σ119
      else
        some ((0 : Int32), σ119, 0)
    else
      fL_law__2850 L xs rec23 l4 σ119
  else
    some ((0 : Int32), σ119, 0)
  else none
  else none
  else none
  else none

def fL_law__1322 (L : Nat) (xs : (Nat → Int32)) (rec23 : Int32 → pn_S → Option (Int32 × pn_S × Nat)) (l4 : Int32) (σ : pn_S) : Option (Int32 × pn_S × Nat) :=
  if pn_ib (l4 + (1 : Int32)) L then
  pn_bw (fL_loud (xs (Int32.toNatClampNeg (l4 + (1 : Int32)))) σ) fun x125 σ125 =>
  if pn_ib (l4 + (1 : Int32)) L then
  pn_bi (fX11_loud (xs (Int32.toNatClampNeg (l4 + (1 : Int32)))) σ125) fun x126 σ126 =>
  (fX11_thrown σ126).bind fun x127 =>
  if x127 = x125 then
    if x125 = 0 then
      if (lg_cmp (Int32.toInt64 (σ126 96 0)) (Int32.toInt64 x126)) = 0 then
        fL_law__2850 L xs rec23 l4 σ126
      else
        some ((0 : Int32), σ126, 0)
    else
      fL_law__2850 L xs rec23 l4 σ126
  else
    some ((0 : Int32), σ126, 0)
  else none
  else none

def fL_law__1378 (L : Nat) (xs : (Nat → Int32)) (rec23 : Int32 → pn_S → Option (Int32 × pn_S × Nat)) (l4 : Int32) (σ : pn_S) : Option (Int32 × pn_S × Nat) :=
  if pn_ib (l4 + (1 : Int32)) L then
  if pn_ib (l4 + (2 : Int32)) L then
  pn_bw (fL_fewest (xs (Int32.toNatClampNeg (l4 + (1 : Int32)))) (xs (Int32.toNatClampNeg (l4 + (2 : Int32)))) σ) fun x132 σ132 =>
  if pn_ib (l4 + (1 : Int32)) L then
  if pn_ib (l4 + (2 : Int32)) L then
  pn_bi (fX11_fewest (xs (Int32.toNatClampNeg (l4 + (1 : Int32)))) (xs (Int32.toNatClampNeg (l4 + (2 : Int32)))) σ132) fun x133 σ133 =>
  (fX11_thrown σ133).bind fun x134 =>
  if x134 = x132 then
    if x132 = 0 then
      if (lg_cmp (Int32.toInt64 (σ133 96 0)) (Int32.toInt64 x133)) = 0 then
        fL_law__2850 L xs rec23 l4 σ133
      else
        some ((0 : Int32), σ133, 0)
    else
      fL_law__2850 L xs rec23 l4 σ133
  else
    some ((0 : Int32), σ133, 0)
  else none
  else none
  else none
  else none

def fL_law__1446 (L : Nat) (xs : (Nat → Int32)) (rec23 : Int32 → pn_S → Option (Int32 × pn_S × Nat)) (l4 : Int32) (σ : pn_S) : Option (Int32 × pn_S × Nat) :=
  if pn_ib (l4 + (1 : Int32)) L then
  pn_bw (fL_keep (xs (Int32.toNatClampNeg (l4 + (1 : Int32)))) σ) fun x139 σ139 =>
  if pn_ib (l4 + (1 : Int32)) L then
  pn_bi (fX11_keep (xs (Int32.toNatClampNeg (l4 + (1 : Int32)))) σ139) fun x140 σ140 =>
  (fX11_thrown σ140).bind fun x141 =>
  if x141 = x139 then
    if x139 = 0 then
      if (lg_cmp (Int32.toInt64 (σ140 96 0)) (Int32.toInt64 x140)) = 0 then
        fL_law__2850 L xs rec23 l4 σ140
      else
        some ((0 : Int32), σ140, 0)
    else
      fL_law__2850 L xs rec23 l4 σ140
  else
    some ((0 : Int32), σ140, 0)
  else none
  else none

def fL_law__1502 (L : Nat) (xs : (Nat → Int32)) (rec23 : Int32 → pn_S → Option (Int32 × pn_S × Nat)) (l4 : Int32) (σ : pn_S) : Option (Int32 × pn_S × Nat) :=
  if pn_ib (l4 + (1 : Int32)) L then
  pn_bw (fL_tips (xs (Int32.toNatClampNeg (l4 + (1 : Int32)))) σ) fun x146 σ146 =>
  if pn_ib (l4 + (1 : Int32)) L then
  pn_bi (fX11_tips (xs (Int32.toNatClampNeg (l4 + (1 : Int32)))) σ146) fun x147 σ147 =>
  (fX11_thrown σ147).bind fun x148 =>
  if x148 = x146 then
    if x146 = 0 then
      if (lg_cmp (Int32.toInt64 (σ147 96 0)) (Int32.toInt64 x147)) = 0 then
        fL_law__2850 L xs rec23 l4 σ147
      else
        some ((0 : Int32), σ147, 0)
    else
      fL_law__2850 L xs rec23 l4 σ147
  else
    some ((0 : Int32), σ147, 0)
  else none
  else none

def fL_law__1558 (L : Nat) (xs : (Nat → Int32)) (rec23 : Int32 → pn_S → Option (Int32 × pn_S × Nat)) (l4 : Int32) (σ : pn_S) : Option (Int32 × pn_S × Nat) :=
  if pn_ib (l4 + (1 : Int32)) L then
  pn_bw (fL_price (xs (Int32.toNatClampNeg (l4 + (1 : Int32)))) σ) fun x153 σ153 =>
  if pn_ib (l4 + (1 : Int32)) L then
  pn_bi (fX11_price (xs (Int32.toNatClampNeg (l4 + (1 : Int32)))) σ153) fun x154 σ154 =>
  (fX11_thrown σ154).bind fun x155 =>
  if x155 = x153 then
    if x153 = 0 then
      if (lg_cmp (Int32.toInt64 (σ154 96 0)) (Int32.toInt64 x154)) = 0 then
        fL_law__2850 L xs rec23 l4 σ154
      else
        some ((0 : Int32), σ154, 0)
    else
      fL_law__2850 L xs rec23 l4 σ154
  else
    some ((0 : Int32), σ154, 0)
  else none
  else none

def fL_law__1668 (L : Nat) (xs : (Nat → Int32)) (rec23 : Int32 → pn_S → Option (Int32 × pn_S × Nat)) (l4 : Int32) (s0 : Int32) (s1 : Int32) (σ : pn_S) : Option (Int32 × pn_S × Nat) :=
  if (lg_cmp (Int32.toInt64 s0) (Int32.toInt64 s1)) = 0 then
    fL_law__2850 L xs rec23 l4 σ
  else
    some ((0 : Int32), σ, 0)

def fL_law__1614 (L : Nat) (xs : (Nat → Int32)) (rec23 : Int32 → pn_S → Option (Int32 × pn_S × Nat)) (l4 : Int32) (σ : pn_S) : Option (Int32 × pn_S × Nat) :=
  if pn_ib (l4 + (1 : Int32)) L then
  pn_bw (fL_can (xs (Int32.toNatClampNeg (l4 + (1 : Int32)))) σ) fun x160 σ160 =>
  if pn_ib (l4 + (1 : Int32)) L then
  pn_bi (fX11_can (xs (Int32.toNatClampNeg (l4 + (1 : Int32)))) σ160) fun x161 σ161 =>
  (fX11_thrown σ161).bind fun x162 =>
  if x162 = x160 then
    if x160 = 0 then
      if x161 = 0 then
        fL_law__1668 L xs rec23 l4 (σ161 96 0) (0 : Int32) σ161
      else
        fL_law__1668 L xs rec23 l4 (σ161 96 0) (1 : Int32) σ161
    else
      fL_law__2850 L xs rec23 l4 σ161
  else
    some ((0 : Int32), σ161, 0)
  else none
  else none

def fL_law__1677 (L : Nat) (xs : (Nat → Int32)) (rec23 : Int32 → pn_S → Option (Int32 × pn_S × Nat)) (l4 : Int32) (σ : pn_S) : Option (Int32 × pn_S × Nat) :=
  pn_bi (fX10_dearest σ) fun x168 σ168 =>
  pn_bi (fX11_dearest σ168) fun x169 σ169 =>
  if x168 = x169 then
    fL_law__2850 L xs rec23 l4 σ169
  else
    some ((0 : Int32), σ169, 0)

def fL_law__1690 (L : Nat) (xs : (Nat → Int32)) (rec23 : Int32 → pn_S → Option (Int32 × pn_S × Nat)) (l4 : Int32) (σ : pn_S) : Option (Int32 × pn_S × Nat) :=
  if pn_ib (l4 + (1 : Int32)) L then
  pn_bw (fL_brings (xs (Int32.toNatClampNeg (l4 + (1 : Int32)))) σ) fun x172 σ172 =>
  if pn_ib (l4 + (1 : Int32)) L then
  pn_bi (fX11_brings (xs (Int32.toNatClampNeg (l4 + (1 : Int32)))) σ172) fun x173 σ173 =>
  (fX11_thrown σ173).bind fun x174 =>
  if x174 = x172 then
    if x172 = 0 then
      if (lg_cmp (Int32.toInt64 (σ173 96 0)) (Int32.toInt64 x173)) = 0 then
        fL_law__2850 L xs rec23 l4 σ173
      else
        some ((0 : Int32), σ173, 0)
    else
      fL_law__2850 L xs rec23 l4 σ173
  else
    some ((0 : Int32), σ173, 0)
  else none
  else none

def fL_law__1746 (L : Nat) (xs : (Nat → Int32)) (rec23 : Int32 → pn_S → Option (Int32 × pn_S × Nat)) (l4 : Int32) (σ : pn_S) : Option (Int32 × pn_S × Nat) :=
  pn_bi (fX10_best σ) fun x179 σ179 =>
  pn_bi (fX11_best σ179) fun x180 σ180 =>
  if x179 = x180 then
    fL_law__2850 L xs rec23 l4 σ180
  else
    some ((0 : Int32), σ180, 0)

def fL_law__1759 (L : Nat) (xs : (Nat → Int32)) (rec23 : Int32 → pn_S → Option (Int32 × pn_S × Nat)) (l4 : Int32) (σ : pn_S) : Option (Int32 × pn_S × Nat) :=
  if pn_ib (l4 + (1 : Int32)) L then
  pn_bw (fL_rests (xs (Int32.toNatClampNeg (l4 + (1 : Int32)))) σ) fun x183 σ183 =>
  if pn_ib (l4 + (1 : Int32)) L then
  pn_bi (fX11_rests (xs (Int32.toNatClampNeg (l4 + (1 : Int32)))) σ183) fun x184 σ184 =>
  (fX11_thrown σ184).bind fun x185 =>
  if x185 = x183 then
    if x183 = 0 then
      if (lg_cmp (Int32.toInt64 (σ184 96 0)) (Int32.toInt64 x184)) = 0 then
        fL_law__2850 L xs rec23 l4 σ184
      else
        some ((0 : Int32), σ184, 0)
    else
      fL_law__2850 L xs rec23 l4 σ184
  else
    some ((0 : Int32), σ184, 0)
  else none
  else none

def fL_law__1863 (L : Nat) (xs : (Nat → Int32)) (rec23 : Int32 → pn_S → Option (Int32 × pn_S × Nat)) (l4 : Int32) (l5 : Int32) (s1 : Int32) (s2 : Int32) (σ : pn_S) : Option (Int32 × pn_S × Nat) :=
  pn_bi (fX11_heard s1 s2 σ) fun x193 σ193 =>
  (fX11_thrown σ193).bind fun x194 =>
  if x194 = l5 then
    if l5 = 0 then
      if (lg_cmp (Int32.toInt64 (σ193 96 0)) (Int32.toInt64 x193)) = 0 then
        fL_law__2850 L xs rec23 l4 σ193
      else
        some ((0 : Int32), σ193, 0)
    else
      fL_law__2850 L xs rec23 l4 σ193
  else
    some ((0 : Int32), σ193, 0)

def fL_law__1836 (L : Nat) (xs : (Nat → Int32)) (rec23 : Int32 → pn_S → Option (Int32 × pn_S × Nat)) (l4 : Int32) (s1 : Int32) (s2 : Int32) (σ : pn_S) : Option (Int32 × pn_S × Nat) :=
  pn_bw (fL_heard s1 s2 σ) fun x191 σ191 =>
  if pn_ib (l4 + (1 : Int32)) L then
  if pn_ib (l4 + (2 : Int32)) L then
  if (xs (Int32.toNatClampNeg (l4 + (2 : Int32)))) = 0 then
    fL_law__1863 L xs rec23 l4 x191 (xs (Int32.toNatClampNeg (l4 + (1 : Int32)))) (0 : Int32) σ191
  else
    fL_law__1863 L xs rec23 l4 x191 (xs (Int32.toNatClampNeg (l4 + (1 : Int32)))) (1 : Int32) σ191
  else none
  else none

def fL_law__1815 (L : Nat) (xs : (Nat → Int32)) (rec23 : Int32 → pn_S → Option (Int32 × pn_S × Nat)) (l4 : Int32) (σ : pn_S) : Option (Int32 × pn_S × Nat) :=
  if pn_ib (l4 + (1 : Int32)) L then
  if pn_ib (l4 + (2 : Int32)) L then
  if (xs (Int32.toNatClampNeg (l4 + (2 : Int32)))) = 0 then
    fL_law__1836 L xs rec23 l4 (xs (Int32.toNatClampNeg (l4 + (1 : Int32)))) (0 : Int32) σ
  else
    fL_law__1836 L xs rec23 l4 (xs (Int32.toNatClampNeg (l4 + (1 : Int32)))) (1 : Int32) σ
  else none
  else none

def fL_law__1899 (L : Nat) (xs : (Nat → Int32)) (rec23 : Int32 → pn_S → Option (Int32 × pn_S × Nat)) (l4 : Int32) (σ : pn_S) : Option (Int32 × pn_S × Nat) :=
  if pn_ib (l4 + (1 : Int32)) L then
  pn_bw (fL_ask (xs (Int32.toNatClampNeg (l4 + (1 : Int32)))) σ) fun x199 σ199 =>
  if pn_ib (l4 + (1 : Int32)) L then
  pn_bi (fX11_ask (xs (Int32.toNatClampNeg (l4 + (1 : Int32)))) σ199) fun x200 σ200 =>
  (fX11_thrown σ200).bind fun x201 =>
  if x201 = x199 then
    if x199 = 0 then
      if (lg_cmp (Int32.toInt64 (σ200 96 0)) (Int32.toInt64 x200)) = 0 then
        fL_law__2850 L xs rec23 l4 σ200
      else
        some ((0 : Int32), σ200, 0)
    else
      fL_law__2850 L xs rec23 l4 σ200
  else
    some ((0 : Int32), σ200, 0)
  else none
  else none

def fL_law__1955 (L : Nat) (xs : (Nat → Int32)) (rec23 : Int32 → pn_S → Option (Int32 × pn_S × Nat)) (l4 : Int32) (σ : pn_S) : Option (Int32 × pn_S × Nat) :=
  if pn_ib (l4 + (1 : Int32)) L then
  pn_bw (fL_feuded (xs (Int32.toNatClampNeg (l4 + (1 : Int32)))) σ) fun x206 σ206 =>
  if pn_ib (l4 + (1 : Int32)) L then
  pn_bi (fX11_feuded (xs (Int32.toNatClampNeg (l4 + (1 : Int32)))) σ206) fun x207 σ207 =>
  (fX11_thrown σ207).bind fun x208 =>
  if x208 = x206 then
    if x206 = 0 then
      if (lg_cmp (Int32.toInt64 (σ207 96 0)) (Int32.toInt64 x207)) = 0 then
        fL_law__2850 L xs rec23 l4 σ207
      else
        some ((0 : Int32), σ207, 0)
    else
      fL_law__2850 L xs rec23 l4 σ207
  else
    some ((0 : Int32), σ207, 0)
  else none
  else none

def fL_law__2011 (L : Nat) (xs : (Nat → Int32)) (rec23 : Int32 → pn_S → Option (Int32 × pn_S × Nat)) (l4 : Int32) (σ : pn_S) : Option (Int32 × pn_S × Nat) :=
  (fX10_feuds σ).bind fun x213 =>
  pn_bi (fX11_feuds σ) fun x214 σ214 =>
  if x213 = x214 then
    fL_law__2850 L xs rec23 l4 σ214
  else
    some ((0 : Int32), σ214, 0)

def fL_law__2078 (L : Nat) (xs : (Nat → Int32)) (rec23 : Int32 → pn_S → Option (Int32 × pn_S × Nat)) (l4 : Int32) (s0 : Int32) (s1 : Int32) (σ : pn_S) : Option (Int32 × pn_S × Nat) :=
  if (lg_cmp (Int32.toInt64 s0) (Int32.toInt64 s1)) = 0 then
    fL_law__2850 L xs rec23 l4 σ
  else
    some ((0 : Int32), σ, 0)

def fL_law__2024 (L : Nat) (xs : (Nat → Int32)) (rec23 : Int32 → pn_S → Option (Int32 × pn_S × Nat)) (l4 : Int32) (σ : pn_S) : Option (Int32 × pn_S × Nat) :=
  if pn_ib (l4 + (1 : Int32)) L then
  pn_bw (fL_ring (xs (Int32.toNatClampNeg (l4 + (1 : Int32)))) σ) fun x217 σ217 =>
  if pn_ib (l4 + (1 : Int32)) L then
  pn_bi (fX11_ring (xs (Int32.toNatClampNeg (l4 + (1 : Int32)))) σ217) fun x218 σ218 =>
  (fX11_thrown σ218).bind fun x219 =>
  if x219 = x217 then
    if x217 = 0 then
      if x218 = 0 then
        fL_law__2078 L xs rec23 l4 (σ218 96 0) (0 : Int32) σ218
      else
        fL_law__2078 L xs rec23 l4 (σ218 96 0) (1 : Int32) σ218
    else
      fL_law__2850 L xs rec23 l4 σ218
  else
    some ((0 : Int32), σ218, 0)
  else none
  else none

def fL_law__2087 (L : Nat) (xs : (Nat → Int32)) (rec23 : Int32 → pn_S → Option (Int32 × pn_S × Nat)) (l4 : Int32) (σ : pn_S) : Option (Int32 × pn_S × Nat) :=
  (fX10_hated σ).bind fun x225 =>
  pn_bi (fX11_hated σ) fun x226 σ226 =>
  if x225 = x226 then
    fL_law__2850 L xs rec23 l4 σ226
  else
    some ((0 : Int32), σ226, 0)

def fL_law__2100 (L : Nat) (xs : (Nat → Int32)) (rec23 : Int32 → pn_S → Option (Int32 × pn_S × Nat)) (l4 : Int32) (σ : pn_S) : Option (Int32 × pn_S × Nat) :=
  if pn_ib (l4 + (1 : Int32)) L then
  pn_bw (fL_watched (xs (Int32.toNatClampNeg (l4 + (1 : Int32)))) σ) fun x229 σ229 =>
  if pn_ib (l4 + (1 : Int32)) L then
  pn_bi (fX11_watched (xs (Int32.toNatClampNeg (l4 + (1 : Int32)))) σ229) fun x230 σ230 =>
  (fX11_thrown σ230).bind fun x231 =>
  if x231 = x229 then
    if x229 = 0 then
      if (lg_cmp (Int32.toInt64 (σ230 96 0)) (Int32.toInt64 x230)) = 0 then
        fL_law__2850 L xs rec23 l4 σ230
      else
        some ((0 : Int32), σ230, 0)
    else
      fL_law__2850 L xs rec23 l4 σ230
  else
    some ((0 : Int32), σ230, 0)
  else none
  else none

def fL_law__2156 (L : Nat) (xs : (Nat → Int32)) (rec23 : Int32 → pn_S → Option (Int32 × pn_S × Nat)) (l4 : Int32) (σ : pn_S) : Option (Int32 × pn_S × Nat) :=
  pn_bi (fX10_ripest σ) fun x236 σ236 =>
  pn_bi (fX11_ripest σ236) fun x237 σ237 =>
  if x236 = x237 then
    fL_law__2850 L xs rec23 l4 σ237
  else
    some ((0 : Int32), σ237, 0)

def fL_law__2169 (L : Nat) (xs : (Nat → Int32)) (rec23 : Int32 → pn_S → Option (Int32 × pn_S × Nat)) (l4 : Int32) (σ : pn_S) : Option (Int32 × pn_S × Nat) :=
  if pn_ib (l4 + (1 : Int32)) L then
  pn_bw (fL_brave (xs (Int32.toNatClampNeg (l4 + (1 : Int32)))) σ) fun x240 σ240 =>
  if pn_ib (l4 + (1 : Int32)) L then
  pn_bi (fX11_brave (xs (Int32.toNatClampNeg (l4 + (1 : Int32)))) σ240) fun x241 σ241 =>
  (fX11_thrown σ241).bind fun x242 =>
  if x242 = x240 then
    if x240 = 0 then
      if (lg_cmp (Int32.toInt64 (σ241 96 0)) (Int32.toInt64 x241)) = 0 then
        fL_law__2850 L xs rec23 l4 σ241
      else
        some ((0 : Int32), σ241, 0)
    else
      fL_law__2850 L xs rec23 l4 σ241
  else
    some ((0 : Int32), σ241, 0)
  else none
  else none

def fL_law__2225 (L : Nat) (xs : (Nat → Int32)) (rec23 : Int32 → pn_S → Option (Int32 × pn_S × Nat)) (l4 : Int32) (σ : pn_S) : Option (Int32 × pn_S × Nat) :=
  (fX10_alike σ).bind fun x247 =>
  pn_bi (fX11_alike σ) fun x248 σ248 =>
  if x247 = x248 then
    fL_law__2850 L xs rec23 l4 σ248
  else
    some ((0 : Int32), σ248, 0)

def fL_law__2238 (L : Nat) (xs : (Nat → Int32)) (rec23 : Int32 → pn_S → Option (Int32 × pn_S × Nat)) (l4 : Int32) (σ : pn_S) : Option (Int32 × pn_S × Nat) :=
  pn_bi (fX10_ends σ) fun x251 σ251 =>
  pn_bi (fX11_ends σ251) fun x252 σ252 =>
  if x251 = x252 then
    fL_law__2850 L xs rec23 l4 σ252
  else
    some ((0 : Int32), σ252, 0)

def fL_law__2251 (L : Nat) (xs : (Nat → Int32)) (rec23 : Int32 → pn_S → Option (Int32 × pn_S × Nat)) (l4 : Int32) (σ : pn_S) : Option (Int32 × pn_S × Nat) :=
  if pn_ib (l4 + (1 : Int32)) L then
  if pn_ib (l4 + (2 : Int32)) L then
  pn_bw (fL_spent (xs (Int32.toNatClampNeg (l4 + (1 : Int32)))) (xs (Int32.toNatClampNeg (l4 + (2 : Int32)))) σ) fun x255 σ255 =>
  if pn_ib (l4 + (1 : Int32)) L then
  if pn_ib (l4 + (2 : Int32)) L then
  pn_bi (fX11_spent (xs (Int32.toNatClampNeg (l4 + (1 : Int32)))) (xs (Int32.toNatClampNeg (l4 + (2 : Int32)))) σ255) fun x256 σ256 =>
  (fX11_thrown σ256).bind fun x257 =>
  if x257 = x255 then
    if x255 = 0 then
      if (lg_cmp (Int32.toInt64 (σ256 96 0)) (Int32.toInt64 x256)) = 0 then
        fL_law__2850 L xs rec23 l4 σ256
      else
        some ((0 : Int32), σ256, 0)
    else
      fL_law__2850 L xs rec23 l4 σ256
  else
    some ((0 : Int32), σ256, 0)
  else none
  else none
  else none
  else none

def fL_law__2319 (L : Nat) (xs : (Nat → Int32)) (rec23 : Int32 → pn_S → Option (Int32 × pn_S × Nat)) (l4 : Int32) (σ : pn_S) : Option (Int32 × pn_S × Nat) :=
  if pn_ib (l4 + (1 : Int32)) L then
  pn_bw (fL_calm (xs (Int32.toNatClampNeg (l4 + (1 : Int32)))) σ) fun x262 σ262 =>
  if pn_ib (l4 + (1 : Int32)) L then
  pn_bi (fX11_calm (xs (Int32.toNatClampNeg (l4 + (1 : Int32)))) σ262) fun x263 σ263 =>
  (fX11_thrown σ263).bind fun x264 =>
  if x264 = x262 then
    if x262 = 0 then
      if (lg_cmp (Int32.toInt64 (σ263 96 0)) (Int32.toInt64 x263)) = 0 then
        fL_law__2850 L xs rec23 l4 σ263
      else
        some ((0 : Int32), σ263, 0)
    else
      fL_law__2850 L xs rec23 l4 σ263
  else
    some ((0 : Int32), σ263, 0)
  else none
  else none

def fL_law__2375 (L : Nat) (xs : (Nat → Int32)) (rec23 : Int32 → pn_S → Option (Int32 × pn_S × Nat)) (l4 : Int32) (σ : pn_S) : Option (Int32 × pn_S × Nat) :=
  if pn_ib (l4 + (1 : Int32)) L then
  if pn_ib (l4 + (2 : Int32)) L then
  pn_bw (fL_share (xs (Int32.toNatClampNeg (l4 + (1 : Int32)))) (xs (Int32.toNatClampNeg (l4 + (2 : Int32)))) σ) fun x269 σ269 =>
  if pn_ib (l4 + (1 : Int32)) L then
  if pn_ib (l4 + (2 : Int32)) L then
  pn_bi (fX11_share (xs (Int32.toNatClampNeg (l4 + (1 : Int32)))) (xs (Int32.toNatClampNeg (l4 + (2 : Int32)))) σ269) fun x270 σ270 =>
  (fX11_thrown σ270).bind fun x271 =>
  if x271 = x269 then
    if x269 = 0 then
      if (lg_cmp (Int32.toInt64 (σ270 96 0)) (Int32.toInt64 x270)) = 0 then
        fL_law__2850 L xs rec23 l4 σ270
      else
        some ((0 : Int32), σ270, 0)
    else
      fL_law__2850 L xs rec23 l4 σ270
  else
    some ((0 : Int32), σ270, 0)
  else none
  else none
  else none
  else none

def fL_law__2491 (L : Nat) (xs : (Nat → Int32)) (rec23 : Int32 → pn_S → Option (Int32 × pn_S × Nat)) (l4 : Int32) (l5 : Int32) (s1 : Int32) (s2 : Int32) (σ : pn_S) : Option (Int32 × pn_S × Nat) :=
  pn_bi (fX11_trial s1 s2 σ) fun x279 σ279 =>
  (fX11_thrown σ279).bind fun x280 =>
  if x280 = l5 then
    if l5 = 0 then
      if (lg_cmp (Int32.toInt64 (σ279 96 0)) (Int32.toInt64 x279)) = 0 then
        fL_law__2850 L xs rec23 l4 σ279
      else
        some ((0 : Int32), σ279, 0)
    else
      fL_law__2850 L xs rec23 l4 σ279
  else
    some ((0 : Int32), σ279, 0)

def fL_law__2464 (L : Nat) (xs : (Nat → Int32)) (rec23 : Int32 → pn_S → Option (Int32 × pn_S × Nat)) (l4 : Int32) (s1 : Int32) (s2 : Int32) (σ : pn_S) : Option (Int32 × pn_S × Nat) :=
  pn_bw (fL_trial s1 s2 σ) fun x277 σ277 =>
  if pn_ib (l4 + (1 : Int32)) L then
  if pn_ib (l4 + (2 : Int32)) L then
  if (xs (Int32.toNatClampNeg (l4 + (2 : Int32)))) = 0 then
    fL_law__2491 L xs rec23 l4 x277 (xs (Int32.toNatClampNeg (l4 + (1 : Int32)))) (0 : Int32) σ277
  else
    fL_law__2491 L xs rec23 l4 x277 (xs (Int32.toNatClampNeg (l4 + (1 : Int32)))) (1 : Int32) σ277
  else none
  else none

def fL_law__2443 (L : Nat) (xs : (Nat → Int32)) (rec23 : Int32 → pn_S → Option (Int32 × pn_S × Nat)) (l4 : Int32) (σ : pn_S) : Option (Int32 × pn_S × Nat) :=
  if pn_ib (l4 + (1 : Int32)) L then
  if pn_ib (l4 + (2 : Int32)) L then
  if (xs (Int32.toNatClampNeg (l4 + (2 : Int32)))) = 0 then
    fL_law__2464 L xs rec23 l4 (xs (Int32.toNatClampNeg (l4 + (1 : Int32)))) (0 : Int32) σ
  else
    fL_law__2464 L xs rec23 l4 (xs (Int32.toNatClampNeg (l4 + (1 : Int32)))) (1 : Int32) σ
  else none
  else none

def fL_law__2575 (L : Nat) (xs : (Nat → Int32)) (rec23 : Int32 → pn_S → Option (Int32 × pn_S × Nat)) (l4 : Int32) (l5 : Int32) (s1 : Int32) (s2 : Int32) (σ : pn_S) : Option (Int32 × pn_S × Nat) :=
  pn_bi (fX11_span s1 s2 σ) fun x288 σ288 =>
  (fX11_thrown σ288).bind fun x289 =>
  if x289 = l5 then
    if l5 = 0 then
      if (lg_cmp (Int32.toInt64 (σ288 96 0)) (Int32.toInt64 x288)) = 0 then
        fL_law__2850 L xs rec23 l4 σ288
      else
        some ((0 : Int32), σ288, 0)
    else
      fL_law__2850 L xs rec23 l4 σ288
  else
    some ((0 : Int32), σ288, 0)

def fL_law__2548 (L : Nat) (xs : (Nat → Int32)) (rec23 : Int32 → pn_S → Option (Int32 × pn_S × Nat)) (l4 : Int32) (s1 : Int32) (s2 : Int32) (σ : pn_S) : Option (Int32 × pn_S × Nat) :=
  pn_bw (fL_span s1 s2 σ) fun x286 σ286 =>
  if pn_ib (l4 + (1 : Int32)) L then
  if pn_ib (l4 + (2 : Int32)) L then
  if (xs (Int32.toNatClampNeg (l4 + (2 : Int32)))) = 0 then
    fL_law__2575 L xs rec23 l4 x286 (xs (Int32.toNatClampNeg (l4 + (1 : Int32)))) (0 : Int32) σ286
  else
    fL_law__2575 L xs rec23 l4 x286 (xs (Int32.toNatClampNeg (l4 + (1 : Int32)))) (1 : Int32) σ286
  else none
  else none

def fL_law__2527 (L : Nat) (xs : (Nat → Int32)) (rec23 : Int32 → pn_S → Option (Int32 × pn_S × Nat)) (l4 : Int32) (σ : pn_S) : Option (Int32 × pn_S × Nat) :=
  if pn_ib (l4 + (1 : Int32)) L then
  if pn_ib (l4 + (2 : Int32)) L then
  if (xs (Int32.toNatClampNeg (l4 + (2 : Int32)))) = 0 then
    fL_law__2548 L xs rec23 l4 (xs (Int32.toNatClampNeg (l4 + (1 : Int32)))) (0 : Int32) σ
  else
    fL_law__2548 L xs rec23 l4 (xs (Int32.toNatClampNeg (l4 + (1 : Int32)))) (1 : Int32) σ
  else none
  else none

def fL_law__2659 (L : Nat) (xs : (Nat → Int32)) (rec23 : Int32 → pn_S → Option (Int32 × pn_S × Nat)) (l4 : Int32) (l5 : Int32) (s1 : Int32) (s2 : Int32) (σ : pn_S) : Option (Int32 × pn_S × Nat) :=
  pn_bi (fX11_led s1 s2 σ) fun x297 σ297 =>
  (fX11_thrown σ297).bind fun x298 =>
  if x298 = l5 then
    if l5 = 0 then
      if (lg_cmp (Int32.toInt64 (σ297 96 0)) (Int32.toInt64 x297)) = 0 then
        fL_law__2850 L xs rec23 l4 σ297
      else
        some ((0 : Int32), σ297, 0)
    else
      fL_law__2850 L xs rec23 l4 σ297
  else
    some ((0 : Int32), σ297, 0)

def fL_law__2632 (L : Nat) (xs : (Nat → Int32)) (rec23 : Int32 → pn_S → Option (Int32 × pn_S × Nat)) (l4 : Int32) (s1 : Int32) (s2 : Int32) (σ : pn_S) : Option (Int32 × pn_S × Nat) :=
  pn_bw (fL_led s1 s2 σ) fun x295 σ295 =>
  if pn_ib (l4 + (1 : Int32)) L then
  if pn_ib (l4 + (2 : Int32)) L then
  if (xs (Int32.toNatClampNeg (l4 + (2 : Int32)))) = 0 then
    fL_law__2659 L xs rec23 l4 x295 (xs (Int32.toNatClampNeg (l4 + (1 : Int32)))) (0 : Int32) σ295
  else
    fL_law__2659 L xs rec23 l4 x295 (xs (Int32.toNatClampNeg (l4 + (1 : Int32)))) (1 : Int32) σ295
  else none
  else none

def fL_law__2611 (L : Nat) (xs : (Nat → Int32)) (rec23 : Int32 → pn_S → Option (Int32 × pn_S × Nat)) (l4 : Int32) (σ : pn_S) : Option (Int32 × pn_S × Nat) :=
  if pn_ib (l4 + (1 : Int32)) L then
  if pn_ib (l4 + (2 : Int32)) L then
  if (xs (Int32.toNatClampNeg (l4 + (2 : Int32)))) = 0 then
    fL_law__2632 L xs rec23 l4 (xs (Int32.toNatClampNeg (l4 + (1 : Int32)))) (0 : Int32) σ
  else
    fL_law__2632 L xs rec23 l4 (xs (Int32.toNatClampNeg (l4 + (1 : Int32)))) (1 : Int32) σ
  else none
  else none

def fL_law__2695 (L : Nat) (xs : (Nat → Int32)) (rec23 : Int32 → pn_S → Option (Int32 × pn_S × Nat)) (l4 : Int32) (σ : pn_S) : Option (Int32 × pn_S × Nat) :=
  if pn_ib (l4 + (1 : Int32)) L then
  if pn_ib (l4 + (2 : Int32)) L then
  pn_bw (fL_log (xs (Int32.toNatClampNeg (l4 + (1 : Int32)))) (xs (Int32.toNatClampNeg (l4 + (2 : Int32)))) σ) fun x303 σ303 =>
  if pn_ib (l4 + (1 : Int32)) L then
  if pn_ib (l4 + (2 : Int32)) L then
  pn_bi (fX11_log (xs (Int32.toNatClampNeg (l4 + (1 : Int32)))) (xs (Int32.toNatClampNeg (l4 + (2 : Int32)))) σ303) fun x304 σ304 =>
  (fX11_thrown σ304).bind fun x305 =>
  if x305 = x303 then
    if x303 = 0 then
      if (lg_cmp (Int32.toInt64 (σ304 96 0)) (Int32.toInt64 x304)) = 0 then
        fL_law__2850 L xs rec23 l4 σ304
      else
        some ((0 : Int32), σ304, 0)
    else
      fL_law__2850 L xs rec23 l4 σ304
  else
    some ((0 : Int32), σ304, 0)
  else none
  else none
  else none
  else none

def fL_law__2763 (L : Nat) (xs : (Nat → Int32)) (rec23 : Int32 → pn_S → Option (Int32 × pn_S × Nat)) (l4 : Int32) (σ : pn_S) : Option (Int32 × pn_S × Nat) :=
  if pn_ib (l4 + (1 : Int32)) L then
  pn_bi (fX10_seed (xs (Int32.toNatClampNeg (l4 + (1 : Int32)))) σ) fun x310 σ310 =>
  if pn_ib (l4 + (1 : Int32)) L then
  pn_bi (fX11_seed (xs (Int32.toNatClampNeg (l4 + (1 : Int32)))) σ310) fun x311 σ311 =>
  if x310 = x311 then
    fL_law__2850 L xs rec23 l4 σ311
  else
    some ((0 : Int32), σ311, 0)
  else none
  else none

def fL_law__2788 (L : Nat) (xs : (Nat → Int32)) (rec23 : Int32 → pn_S → Option (Int32 × pn_S × Nat)) (l4 : Int32) (σ : pn_S) : Option (Int32 × pn_S × Nat) :=
  pn_bi (fX10_undo σ) fun x314 σ314 =>
  pn_bi (fX11_undo σ314) fun x315 σ315 =>
  if x314 = x315 then
    fL_law__2850 L xs rec23 l4 σ315
  else
    some ((0 : Int32), σ315, 0)

def fL_law__2801 (L : Nat) (xs : (Nat → Int32)) (rec23 : Int32 → pn_S → Option (Int32 × pn_S × Nat)) (l4 : Int32) (σ : pn_S) : Option (Int32 × pn_S × Nat) :=
  (fX10_image σ).bind fun σ318 =>
  (fX11_image σ318).bind fun σ319 =>
  fL_law__2850 L xs rec23 l4 σ319

def fL_law__2812 (L : Nat) (xs : (Nat → Int32)) (rec23 : Int32 → pn_S → Option (Int32 × pn_S × Nat)) (l4 : Int32) (σ : pn_S) : Option (Int32 × pn_S × Nat) :=
  pn_bi (fX10_back σ) fun x321 σ321 =>
  pn_bi (fX11_back σ321) fun x322 σ322 =>
  if x321 = x322 then
    fL_law__2850 L xs rec23 l4 σ322
  else
    some ((0 : Int32), σ322, 0)

def fL_law__2825 (L : Nat) (xs : (Nat → Int32)) (rec23 : Int32 → pn_S → Option (Int32 × pn_S × Nat)) (l4 : Int32) (σ : pn_S) : Option (Int32 × pn_S × Nat) :=
  if pn_ib (l4 + (1 : Int32)) L then
  (fX10_count (xs (Int32.toNatClampNeg (l4 + (1 : Int32)))) σ).bind fun x325 =>
  if pn_ib (l4 + (1 : Int32)) L then
  pn_bi (fX11_count (xs (Int32.toNatClampNeg (l4 + (1 : Int32)))) σ) fun x326 σ326 =>
  if x325 = x326 then
    fL_law__2850 L xs rec23 l4 σ326
  else
    some ((0 : Int32), σ326, 0)
  else none
  else none

def fL_law__23 (L : Nat) (xs : (Nat → Int32)) : Nat → Int32 → pn_S → Option (Int32 × pn_S × Nat)
  | 0, _, _ => none
  | n9 + 1, l4, σ =>
    if ((Int32.ofNat L) - (6 : Int32)) < l4 then
      some ((1 : Int32), σ, 0)
    else
      if pn_ib l4 L then
      if ((xs (Int32.toNatClampNeg l4)) &&& (63 : Int32)) = (0 : Int32) then
        fL_law__260 L xs (fL_law__23 L xs n9) l4 σ
      else if ((xs (Int32.toNatClampNeg l4)) &&& (63 : Int32)) = (1 : Int32) then
        fL_law__333 L xs (fL_law__23 L xs n9) l4 σ
      else if ((xs (Int32.toNatClampNeg l4)) &&& (63 : Int32)) = (2 : Int32) then
        fL_law__358 L xs (fL_law__23 L xs n9) l4 σ
      else if ((xs (Int32.toNatClampNeg l4)) &&& (63 : Int32)) = (3 : Int32) then
        fL_law__402 L xs (fL_law__23 L xs n9) l4 σ
      else if ((xs (Int32.toNatClampNeg l4)) &&& (63 : Int32)) = (4 : Int32) then
        fL_law__446 L xs (fL_law__23 L xs n9) l4 σ
      else if ((xs (Int32.toNatClampNeg l4)) &&& (63 : Int32)) = (5 : Int32) then
        fL_law__459 L xs (fL_law__23 L xs n9) l4 σ
      else if ((xs (Int32.toNatClampNeg l4)) &&& (63 : Int32)) = (6 : Int32) then
        fL_law__527 L xs (fL_law__23 L xs n9) l4 σ
      else if ((xs (Int32.toNatClampNeg l4)) &&& (63 : Int32)) = (7 : Int32) then
        fL_law__623 L xs (fL_law__23 L xs n9) l4 σ
      else if ((xs (Int32.toNatClampNeg l4)) &&& (63 : Int32)) = (8 : Int32) then
        fL_law__679 L xs (fL_law__23 L xs n9) l4 σ
      else if ((xs (Int32.toNatClampNeg l4)) &&& (63 : Int32)) = (9 : Int32) then
        fL_law__770 L xs (fL_law__23 L xs n9) l4 σ
      else if ((xs (Int32.toNatClampNeg l4)) &&& (63 : Int32)) = (10 : Int32) then
        fL_law__814 L xs (fL_law__23 L xs n9) l4 σ
      else if ((xs (Int32.toNatClampNeg l4)) &&& (63 : Int32)) = (11 : Int32) then
        fL_law__882 L xs (fL_law__23 L xs n9) l4 σ
      else if ((xs (Int32.toNatClampNeg l4)) &&& (63 : Int32)) = (12 : Int32) then
        fL_law__950 L xs (fL_law__23 L xs n9) l4 σ
      else if ((xs (Int32.toNatClampNeg l4)) &&& (63 : Int32)) = (13 : Int32) then
        fL_law__1018 L xs (fL_law__23 L xs n9) l4 σ
      else if ((xs (Int32.toNatClampNeg l4)) &&& (63 : Int32)) = (14 : Int32) then
        fL_law__1086 L xs (fL_law__23 L xs n9) l4 σ
      else if ((xs (Int32.toNatClampNeg l4)) &&& (63 : Int32)) = (15 : Int32) then
        fL_law__1142 L xs (fL_law__23 L xs n9) l4 σ
      else if ((xs (Int32.toNatClampNeg l4)) &&& (63 : Int32)) = (16 : Int32) then
        fL_law__1198 L xs (fL_law__23 L xs n9) l4 σ
      else if ((xs (Int32.toNatClampNeg l4)) &&& (63 : Int32)) = (17 : Int32) then
        fL_law__1254 L xs (fL_law__23 L xs n9) l4 σ
      else if ((xs (Int32.toNatClampNeg l4)) &&& (63 : Int32)) = (18 : Int32) then
        fL_law__1322 L xs (fL_law__23 L xs n9) l4 σ
      else if ((xs (Int32.toNatClampNeg l4)) &&& (63 : Int32)) = (19 : Int32) then
        fL_law__1378 L xs (fL_law__23 L xs n9) l4 σ
      else if ((xs (Int32.toNatClampNeg l4)) &&& (63 : Int32)) = (20 : Int32) then
        fL_law__1446 L xs (fL_law__23 L xs n9) l4 σ
      else if ((xs (Int32.toNatClampNeg l4)) &&& (63 : Int32)) = (21 : Int32) then
        fL_law__1502 L xs (fL_law__23 L xs n9) l4 σ
      else if ((xs (Int32.toNatClampNeg l4)) &&& (63 : Int32)) = (22 : Int32) then
        fL_law__1558 L xs (fL_law__23 L xs n9) l4 σ
      else if ((xs (Int32.toNatClampNeg l4)) &&& (63 : Int32)) = (23 : Int32) then
        fL_law__1614 L xs (fL_law__23 L xs n9) l4 σ
      else if ((xs (Int32.toNatClampNeg l4)) &&& (63 : Int32)) = (24 : Int32) then
        fL_law__1677 L xs (fL_law__23 L xs n9) l4 σ
      else if ((xs (Int32.toNatClampNeg l4)) &&& (63 : Int32)) = (25 : Int32) then
        fL_law__1690 L xs (fL_law__23 L xs n9) l4 σ
      else if ((xs (Int32.toNatClampNeg l4)) &&& (63 : Int32)) = (26 : Int32) then
        fL_law__1746 L xs (fL_law__23 L xs n9) l4 σ
      else if ((xs (Int32.toNatClampNeg l4)) &&& (63 : Int32)) = (27 : Int32) then
        fL_law__1759 L xs (fL_law__23 L xs n9) l4 σ
      else if ((xs (Int32.toNatClampNeg l4)) &&& (63 : Int32)) = (28 : Int32) then
        fL_law__1815 L xs (fL_law__23 L xs n9) l4 σ
      else if ((xs (Int32.toNatClampNeg l4)) &&& (63 : Int32)) = (29 : Int32) then
        fL_law__1899 L xs (fL_law__23 L xs n9) l4 σ
      else if ((xs (Int32.toNatClampNeg l4)) &&& (63 : Int32)) = (30 : Int32) then
        fL_law__1955 L xs (fL_law__23 L xs n9) l4 σ
      else if ((xs (Int32.toNatClampNeg l4)) &&& (63 : Int32)) = (31 : Int32) then
        fL_law__2011 L xs (fL_law__23 L xs n9) l4 σ
      else if ((xs (Int32.toNatClampNeg l4)) &&& (63 : Int32)) = (32 : Int32) then
        fL_law__2024 L xs (fL_law__23 L xs n9) l4 σ
      else if ((xs (Int32.toNatClampNeg l4)) &&& (63 : Int32)) = (33 : Int32) then
        fL_law__2087 L xs (fL_law__23 L xs n9) l4 σ
      else if ((xs (Int32.toNatClampNeg l4)) &&& (63 : Int32)) = (34 : Int32) then
        fL_law__2100 L xs (fL_law__23 L xs n9) l4 σ
      else if ((xs (Int32.toNatClampNeg l4)) &&& (63 : Int32)) = (35 : Int32) then
        fL_law__2156 L xs (fL_law__23 L xs n9) l4 σ
      else if ((xs (Int32.toNatClampNeg l4)) &&& (63 : Int32)) = (36 : Int32) then
        fL_law__2169 L xs (fL_law__23 L xs n9) l4 σ
      else if ((xs (Int32.toNatClampNeg l4)) &&& (63 : Int32)) = (37 : Int32) then
        fL_law__2225 L xs (fL_law__23 L xs n9) l4 σ
      else if ((xs (Int32.toNatClampNeg l4)) &&& (63 : Int32)) = (38 : Int32) then
        fL_law__2238 L xs (fL_law__23 L xs n9) l4 σ
      else if ((xs (Int32.toNatClampNeg l4)) &&& (63 : Int32)) = (39 : Int32) then
        fL_law__2251 L xs (fL_law__23 L xs n9) l4 σ
      else if ((xs (Int32.toNatClampNeg l4)) &&& (63 : Int32)) = (40 : Int32) then
        fL_law__2319 L xs (fL_law__23 L xs n9) l4 σ
      else if ((xs (Int32.toNatClampNeg l4)) &&& (63 : Int32)) = (41 : Int32) then
        fL_law__2375 L xs (fL_law__23 L xs n9) l4 σ
      else if ((xs (Int32.toNatClampNeg l4)) &&& (63 : Int32)) = (42 : Int32) then
        fL_law__2443 L xs (fL_law__23 L xs n9) l4 σ
      else if ((xs (Int32.toNatClampNeg l4)) &&& (63 : Int32)) = (43 : Int32) then
        fL_law__2527 L xs (fL_law__23 L xs n9) l4 σ
      else if ((xs (Int32.toNatClampNeg l4)) &&& (63 : Int32)) = (44 : Int32) then
        fL_law__2611 L xs (fL_law__23 L xs n9) l4 σ
      else if ((xs (Int32.toNatClampNeg l4)) &&& (63 : Int32)) = (45 : Int32) then
        fL_law__2695 L xs (fL_law__23 L xs n9) l4 σ
      else if ((xs (Int32.toNatClampNeg l4)) &&& (63 : Int32)) = (46 : Int32) then
        fL_law__2763 L xs (fL_law__23 L xs n9) l4 σ
      else if ((xs (Int32.toNatClampNeg l4)) &&& (63 : Int32)) = (47 : Int32) then
        fL_law__2788 L xs (fL_law__23 L xs n9) l4 σ
      else if ((xs (Int32.toNatClampNeg l4)) &&& (63 : Int32)) = (48 : Int32) then
        fL_law__2801 L xs (fL_law__23 L xs n9) l4 σ
      else if ((xs (Int32.toNatClampNeg l4)) &&& (63 : Int32)) = (49 : Int32) then
        fL_law__2812 L xs (fL_law__23 L xs n9) l4 σ
      else if ((xs (Int32.toNatClampNeg l4)) &&& (63 : Int32)) = (50 : Int32) then
        fL_law__2825 L xs (fL_law__23 L xs n9) l4 σ
      else 
      fL_law__2850 L xs (fL_law__23 L xs n9) l4 σ
      else none

