noncomputable def pf_X5_rewind : Option (Int32 × Int32) :=
some (0, (-1))

noncomputable def pf_X5_goesOn (t_count : Int32) (t_at : Int32) (t_fault : Int32) : Option (Int32 × Unit) :=
if t_fault = (-1) then
  if t_count ≤ t_at then
    some (0, ())
  else
    some (1, ())
else
  some (0, ())

noncomputable def pf_X5_peek (t_bytes : Nat → Int32) (t_count : Int32) (t_at : Int32) : Option (Int32 × Unit) :=
if t_at < 0 then
  some ((-1), ())
else
  if t_count ≤ t_at then
    some ((-1), ())
  else
    ckI t_at 400 <|
    some ((t_bytes t_at.toNatClampNeg), ())

noncomputable def pf_X5_blame (a1 : Int32) (t_fault : Int32) : Option (Int32) :=
if t_fault = (-1) then
  some a1
else
  some t_fault

noncomputable def pf_X5_takes (a1 : Int32) (t_bytes : Nat → Int32) (t_count : Int32) (t_at : Int32) (t_fault : Int32) : Option (Int32 × Int32) :=
if t_fault = (-1) then
  bi_0 (pf_X5_peek t_bytes t_count t_at) fun r1 =>
  if r1 = a1 then
    nm (t_at + 1) fun x2 =>
    some (1, x2)
  else
    some (0, t_at)
else
  some (0, t_at)

noncomputable def pf_X5_isAtDigit (t_bytes : Nat → Int32) (t_count : Int32) (t_at : Int32) : Option (Int32 × Unit) :=
bi_0 (pf_X5_peek t_bytes t_count t_at) fun r1 =>
if r1 < 48 then
  some (0, ())
else
  bi_0 (pf_X5_peek t_bytes t_count t_at) fun r2 =>
  if 57 < r2 then
    some (0, ())
  else
    some (1, ())

noncomputable def lp_X5_number_21 (t_count : Int32) (t_bytes : Nat → Int32) (J62 : Int32 → Int32 → Option (Int32 × Int32 × Int32)) : Nat → Int32 → Int32 → Int32 → Option (Int32 × Int32 × Int32)
  | 0, _, _, _ => none
  | n + 1, x6, x7, x8 =>
    if 4 ≤ x7 then
      J62 x6 x8
    else
      bi_0 (pf_X5_isAtDigit t_bytes t_count x8) fun r9 =>
      if r9 = 0 then
        J62 x6 x8
      else
        bi_0 (pf_X5_peek t_bytes t_count x8) fun r10 =>
        nm (((x6 * 10) + r10) - 48) fun x11 =>
        nm (x8 + 1) fun x12 =>
        nm (x7 + 1) fun x13 =>
        lp_X5_number_21 t_count t_bytes J62 n x11 x13 x12
noncomputable def pf_X5_number (t_bytes : Nat → Int32) (t_count : Int32) (t_at : Int32) (t_fault : Int32) : Option (Int32 × Int32 × Int32) :=
bi_0 (pf_X5_isAtDigit t_bytes t_count t_at) fun r1 =>
if r1 = 0 then
  bv_1 (pf_X5_blame t_at t_fault) fun x14 =>
  some (0, t_at, x14)
else
  jn (fun (x2 : Int32) (x3 : Int32) =>
  bi_0 (pf_X5_isAtDigit t_bytes t_count x3) fun r4 =>
  if r4 = 0 then
    some (x2, x3, t_fault)
  else
    bv_1 (pf_X5_blame x3 t_fault) fun x5 =>
    some (x2, x3, x5)) fun J62 =>
  lp_X5_number_21 t_count t_bytes J62 FU 0 0 t_at

noncomputable def pf_X5_signedNumber (t_bytes : Nat → Int32) (t_count : Int32) (t_at : Int32) (t_fault : Int32) : Option (Int32 × Int32 × Int32) :=
bi_1 (pf_X5_takes 45 t_bytes t_count t_at t_fault) fun r1 x2 =>
bi_2 (pf_X5_number t_bytes t_count x2 t_fault) fun r3 x4 x5 =>
if r1 = 0 then
  some (r3, x4, x5)
else
  some ((-r3), x4, x5)

noncomputable def pf_X5_needs (a1 : Int32) (t_bytes : Nat → Int32) (t_count : Int32) (t_at : Int32) (t_fault : Int32) : Option (Int32 × Int32) :=
bi_1 (pf_X5_takes a1 t_bytes t_count t_at t_fault) fun r1 x2 =>
if r1 = 0 then
  bv_1 (pf_X5_blame x2 t_fault) fun x3 =>
  some (x2, x3)
else
  some (x2, t_fault)

noncomputable def lp_X5_append_3 (a1 : Int32) : Nat → Int32 → (Nat → Int32) → Int32 → Option ((Nat → Int32) × Int32)
  | 0, _, _, _ => none
  | n + 1, x1, f2, x3 =>
    if x1 < 0 then
      some (f2, x3)
    else
      if 400 ≤ x3 then
        nm (x1 + (-8)) fun x4 =>
        lp_X5_append_3 a1 n x4 f2 x3
      else
        nm (((a1).toUInt32 >>> ((x1 : Int32).toUInt32 &&& Int32.toUInt32 31)).toInt32 &&& 255) fun x5 =>
        ckI x3 400 <|
        nm (x3 + 1) fun x6 =>
        nm (x1 + (-8)) fun x7 =>
        lp_X5_append_3 a1 n x7 (upd f2 x3.toNatClampNeg x5) x6
noncomputable def pf_X5_append (a1 : Int32) (t_bytes : Nat → Int32) (t_count : Int32) : Option ((Nat → Int32) × Int32) :=
lp_X5_append_3 a1 FU 24 t_bytes t_count

noncomputable def pf_X5_holds (a1 : Int32) (a2 : Int32) (t_fault : Int32) : Option (Int32 × Int32) :=
jn (fun (x1 : Int32) =>
if x1 = (-1) then
  some (1, x1)
else
  some (0, x1)) fun J9 =>
if a1 = 0 then
  bv_1 (pf_X5_blame a2 t_fault) fun x2 =>
  J9 x2
else
  J9 t_fault
